abbrev Sg : Type := Nat → Nat → Int32
abbrev AV : Type := Nat × Value
abbrev LO : Type := List (Option AV)
abbrev AS : Type := Nat × LO × List AV × Sg
def up (σ : Sg) (c k : Nat) (v : Int32) : Sg := fun q j => if q = c then (if j = k then v else σ q j) else σ q j
def cpy (σ : Sg) (c d sp dp n : Nat) : Sg := fun q j => if q = d then (if dp ≤ j ∧ j < dp + n then σ c (sp + (j - dp)) else σ q j) else σ q j
def kd (c : Nat) : Nat := match Nat.blt c 173 with
  | true => kdl.getD c 0
  | false => if 900 ≤ c ∧ c < 904 then 32 else if 950 ≤ c ∧ c < 954 then 30 else if c = 990 then 33 else 0
def rt (c k : Nat) : Nat := (rtl.getD c []).getD k 0
def ftg (t k : Nat) : Nat := (ftl.getD (t - 1) []).getD k 0
def fbo (t k : Nat) : Nat := (fbl.getD (t - 1) []).getD k 0
def aln (L c : Nat) : Nat := match Nat.blt c 173 with
  | true => lnl.getD c 0
  | false => match Nat.beq c 990 with
    | true => L
    | false => [6, 5, 5, 5].getD (c - 900) 0
def look (l : List (Nat × Nat × Nat × Nat)) (i : Nat) : Option (Nat × Nat) := match l with
  | [] => none
  | q :: r => match Nat.beq q.1 i with
    | true => some (q.2.1, q.2.2.1)
    | false => look r i
def lookK (l : List (Nat × Int32 × Nat)) (i : Nat) : Option Int32 := match l with
  | [] => none
  | q :: r => match Nat.beq q.1 i with
    | true => some q.2.1
    | false => lookK r i
def lookL (l : List (Nat × Int64 × Nat)) (i : Nat) : Option Int64 := match l with
  | [] => none
  | q :: r => match Nat.beq q.1 i with
    | true => some q.2.1
    | false => lookL r i
def lookS (l : List (Nat × Nat × Nat)) (i : Nat) : Option Nat := match l with
  | [] => none
  | q :: r => match Nat.beq q.1 i with
    | true => some q.2.1
    | false => lookS r i
def fr (ow i : Nat) : Option (Nat × Nat) := look (frl.getD ow []) i
def mr (ow i : Nat) : Option (Nat × Nat) := look (mrl.getD ow []) i
def gr (ow i : Nat) : Option (Nat × Nat) := look (grl.getD ow []) i
def kr (ow i : Nat) : Option Int32 := lookK (krl.getD ow []) i
def lr (ow i : Nat) : Option Int64 := lookL (lrl.getD ow []) i
def sr (ow i : Nat) : Option Nat := lookS (srl.getD ow []) i
def inb (i : Int32) (n : Nat) : Bool := !(decide (i < 0)) && Nat.blt i.toNatClampNeg n
theorem inb_iff {i : Int32} {n : Nat} : inb i n = true ↔ vp_in i n := by
  unfold inb vp_in
  simp only [Bool.and_eq_true, Bool.not_eq_true', decide_eq_false_iff_not, not_or, Nat.not_le]
  constructor
  · intro h; exact ⟨h.1, by simpa [Nat.blt_eq] using h.2⟩
  · intro h; exact ⟨h.1, by simpa [Nat.blt_eq] using h.2⟩
def lg (l : LO) (n : Nat) : Option AV := match l, n with
  | [], _ => none
  | a :: _, 0 => a
  | _ :: r, n + 1 => lg r n
def lst (l : LO) (n : Nat) (v : AV) : LO := match l, n with
  | [], _ => []
  | _ :: r, 0 => some v :: r
  | a :: r, n + 1 => a :: lst r n v
def noL (l : LO) : Bool := match l with
  | [] => true
  | some v :: r => Nat.beq v.2.category 1 && noL r
  | none :: r => noL r
def lle (l : LO) : Nat := match l with
  | [] => 0
  | _ :: r => lle r + 1
def jt (pc : Nat) (off : Int) : Nat := ((pc : Int) + off).toNat
def jok (pc : Nat) (off : Int) : Bool := decide (0 ≤ (pc : Int) + off)
def e_push (v : AV) (n pc : Nat) (lo : LO) (st : List AV) (σ : Sg) : Option AS := some (pc + n, lo, v :: st, σ)
def e_iload (i n pc : Nat) (lo : LO) (st : List AV) (σ : Sg) : Option AS := match lg lo i with
  | some (t, .int x) => some (pc + n, lo, (t, .int x) :: st, σ)
  | _ => none
def e_lload (i n pc : Nat) (lo : LO) (st : List AV) (σ : Sg) : Option AS := match lg lo i with
  | some (t, .long x) => some (pc + n, lo, (t, .long x) :: st, σ)
  | _ => none
def e_aload (i n pc : Nat) (lo : LO) (st : List AV) (σ : Sg) : Option AS := match lg lo i with
  | some (t, .ref x) => some (pc + n, lo, (t, .ref x) :: st, σ)
  | _ => none
def e_istore (i n pc : Nat) (lo : LO) (st : List AV) (σ : Sg) : Option AS := match st with
  | (t, .int x) :: r => match noL lo && Nat.blt i (lle lo) with
    | true => some (pc + n, lst lo i (t, .int x), r, σ)
    | false => none
  | _ => none
def e_astore (i n pc : Nat) (lo : LO) (st : List AV) (σ : Sg) : Option AS := match st with
  | (t, .ref x) :: r => match noL lo && Nat.blt i (lle lo) with
    | true => some (pc + n, lst lo i (t, .ref x), r, σ)
    | false => none
  | _ => none
def e_iinc (i : Nat) (k : Int) (pc : Nat) (lo : LO) (st : List AV) (σ : Sg) : Option AS := match lg lo i with
  | some (_, .int x) => match noL lo && Nat.blt i (lle lo) with
    | true => some (pc + 3, lst lo i (0, .int (x + Int32.ofInt k)), st, σ)
    | false => none
  | _ => none
def e_un (f : Int32 → Int32) (pc : Nat) (lo : LO) (st : List AV) (σ : Sg) : Option AS := match st with
  | (_, .int x) :: r => some (pc + 1, lo, (0, .int (f x)) :: r, σ)
  | _ => none
def e_bin (f : Int32 → Int32 → Int32) (pc : Nat) (lo : LO) (st : List AV) (σ : Sg) : Option AS := match st with
  | (_, .int y) :: (_, .int x) :: r => some (pc + 1, lo, (0, .int (f x y)) :: r, σ)
  | _ => none
def e_div (f : Int32 → Int32 → Int32) (pc : Nat) (lo : LO) (st : List AV) (σ : Sg) : Option AS := match st with
  | (_, .int y) :: (_, .int x) :: r => if y = 0 then none else some (pc + 1, lo, (0, .int (f x y)) :: r, σ)
  | _ => none
def e_i2l (pc : Nat) (lo : LO) (st : List AV) (σ : Sg) : Option AS := match st with
  | (_, .int x) :: r => some (pc + 1, lo, (0, .long x.toInt64) :: r, σ)
  | _ => none
def e_ladd (pc : Nat) (lo : LO) (st : List AV) (σ : Sg) : Option AS := match st with
  | (_, .long y) :: (_, .long x) :: r => some (pc + 1, lo, (0, .long (x + y)) :: r, σ)
  | _ => none
def e_lcmp (pc : Nat) (lo : LO) (st : List AV) (σ : Sg) : Option AS := match st with
  | (_, .long y) :: (_, .long x) :: r => some (pc + 1, lo, (0, .int (lg_cmp x y)) :: r, σ)
  | _ => none
def e_dup (pc : Nat) (lo : LO) (st : List AV) (σ : Sg) : Option AS := match st with
  | (t, .ref x) :: r => some (pc + 1, lo, (t, .ref x) :: (t, .ref x) :: r, σ)
  | (t, .int x) :: r => some (pc + 1, lo, (t, .int x) :: (t, .int x) :: r, σ)
  | _ => none
def e_dup2 (pc : Nat) (lo : LO) (st : List AV) (σ : Sg) : Option AS := match st with
  | (u, .int y) :: (t, .ref x) :: r => some (pc + 1, lo, (u, .int y) :: (t, .ref x) :: (u, .int y) :: (t, .ref x) :: r, σ)
  | _ => none
def e_pop (pc : Nat) (lo : LO) (st : List AV) (σ : Sg) : Option AS := match st with
  | (_, .int _) :: r => some (pc + 1, lo, r, σ)
  | _ => none
def e_goto (off : Int) (pc : Nat) (lo : LO) (st : List AV) (σ : Sg) : Option AS := match jok pc off with
  | true => some (jt pc off, lo, st, σ)
  | false => none
def e_if (o : Jvm.ClassFile.Cond) (off : Int) (pc : Nat) (lo : LO) (st : List AV) (σ : Sg) : Option AS := match st with
  | (_, .int x) :: r => match jok pc off with
    | false => none
    | true => match o with
      | .eq => if x = 0 then some (jt pc off, lo, r, σ) else some (pc + 3, lo, r, σ)
      | .ne => if x = 0 then some (pc + 3, lo, r, σ) else some (jt pc off, lo, r, σ)
      | .lt => if x < 0 then some (jt pc off, lo, r, σ) else some (pc + 3, lo, r, σ)
      | .ge => if 0 ≤ x then some (jt pc off, lo, r, σ) else some (pc + 3, lo, r, σ)
      | .gt => if 0 < x then some (jt pc off, lo, r, σ) else some (pc + 3, lo, r, σ)
      | .le => if x ≤ 0 then some (jt pc off, lo, r, σ) else some (pc + 3, lo, r, σ)
  | _ => none
def e_icmp (o : Jvm.ClassFile.Cond) (off : Int) (pc : Nat) (lo : LO) (st : List AV) (σ : Sg) : Option AS := match st with
  | (_, .int y) :: (_, .int x) :: r => match jok pc off with
    | false => none
    | true => match o with
      | .eq => if x = y then some (jt pc off, lo, r, σ) else some (pc + 3, lo, r, σ)
      | .ne => if x = y then some (pc + 3, lo, r, σ) else some (jt pc off, lo, r, σ)
      | .lt => if x < y then some (jt pc off, lo, r, σ) else some (pc + 3, lo, r, σ)
      | .ge => if y ≤ x then some (jt pc off, lo, r, σ) else some (pc + 3, lo, r, σ)
      | .gt => if y < x then some (jt pc off, lo, r, σ) else some (pc + 3, lo, r, σ)
      | .le => if x ≤ y then some (jt pc off, lo, r, σ) else some (pc + 3, lo, r, σ)
  | _ => none
def swT (x : Int32) (a d : Int) (pc : Nat) (lo : LO) (r : List AV) (σ : Sg) (os : List Int) : Option AS := match os with
  | [] => match jok pc d with
    | true => some (jt pc d, lo, r, σ)
    | false => none
  | o :: os => if x.toInt = a then (match jok pc o with
    | true => some (jt pc o, lo, r, σ)
    | false => none) else swT x (a + 1) d pc lo r σ os
def swL (x : Int32) (d : Int) (pc : Nat) (lo : LO) (r : List AV) (σ : Sg) (os : List (Int × Int)) : Option AS := match os with
  | [] => match jok pc d with
    | true => some (jt pc d, lo, r, σ)
    | false => none
  | o :: os => if x.toInt = o.1 then (match jok pc o.2 with
    | true => some (jt pc o.2, lo, r, σ)
    | false => none) else swL x d pc lo r σ os
def e_tsw (d a b : Int) (os : Array Int) (pc : Nat) (lo : LO) (st : List AV) (σ : Sg) : Option AS := match st with
  | (_, .int x) :: r => match decide (a + (os.toList.length : Int) = b + 1) with
    | true => swT x a d pc lo r σ os.toList
    | false => none
  | _ => none
def e_lsw (d : Int) (os : Array (Int × Int)) (pc : Nat) (lo : LO) (st : List AV) (σ : Sg) : Option AS := match st with
  | (_, .int x) :: r => match (os.toList.zip (os.toList.drop 1)).all (fun (a, next) => a.1 < next.1) with
    | true => swL x d pc lo r σ os.toList
    | false => none
  | _ => none
def e_get (ow i pc : Nat) (lo : LO) (st : List AV) (σ : Sg) : Option AS := match st with
  | (t, .ref c) :: r => match fr ow i with
    | some (u, k) => match Nat.beq t u with
      | true => match Nat.beq (ftg u k) 0 with
        | true => some (pc + 3, lo, (0, .int (σ c k)) :: r, σ)
        | false => some (pc + 3, lo, (ftg u k, .ref (rt c k)) :: r, σ)
      | false => none
    | none => none
  | _ => none
def e_put (ow i pc : Nat) (lo : LO) (st : List AV) (σ : Sg) : Option AS := match st with
  | (_, .int v) :: (t, .ref c) :: r => match fr ow i with
    | some (u, k) => match Nat.beq t u && Nat.beq (ftg u k) 0 with
      | true => match Nat.beq (fbo u k) 0 || v == 1 with
        | true => some (pc + 3, lo, r, up σ c k v)
        | false => none
      | false => none
    | none => none
  | _ => none
def e_ald (L pc : Nat) (lo : LO) (st : List AV) (σ : Sg) : Option AS := match st with
  | (_, .int i) :: (t, .ref c) :: r => match Nat.beq t 20 || Nat.beq t 32 with
    | true => if inb i (aln 0 c) then some (pc + 1, lo, (0, .int (σ c i.toNatClampNeg)) :: r, σ) else none
    | false => match Nat.beq t 33 with
      | true => if inb i L then some (pc + 1, lo, (0, .int (σ c i.toNatClampNeg)) :: r, σ) else none
      | false => none
  | _ => none
def e_ast (pc : Nat) (lo : LO) (st : List AV) (σ : Sg) : Option AS := match st with
  | (_, .int v) :: (_, .int i) :: (t, .ref c) :: r => match Nat.beq t 20 with
    | true => if inb i (aln 0 c) then some (pc + 1, lo, r, up σ c i.toNatClampNeg v) else none
    | false => none
  | _ => none
def elt (t : Nat) : Nat := [1, 10, 6, 7].getD (t - 21) 0
def e_aal (pc : Nat) (lo : LO) (st : List AV) (σ : Sg) : Option AS := match st with
  | (_, .int i) :: (t, .ref c) :: r => match Nat.ble 21 t && Nat.ble t 24 with
    | true => if inb i (aln 0 c) then some (pc + 1, lo, (elt t, .ref (rt c i.toNatClampNeg)) :: r, σ) else none
    | false => none
  | _ => none
def e_len (L pc : Nat) (lo : LO) (st : List AV) (σ : Sg) : Option AS := match st with
  | (t, .ref c) :: r => match Nat.beq t 33 with
    | true => some (pc + 1, lo, (0, .int (Int32.ofNat L)) :: r, σ)
    | false => match Nat.beq t 20 with
      | true => some (pc + 1, lo, (0, .int (Int32.ofNat (aln 0 c))) :: r, σ)
      | false => none
  | _ => none
def e_gst (ow i pc : Nat) (lo : LO) (st : List AV) (σ : Sg) : Option AS := match gr ow i with
  | some (j, _) => some (pc + 3, lo, (32, .ref (900 + j)) :: st, σ)
  | none => none
def e_ldc (ow i n pc : Nat) (lo : LO) (st : List AV) (σ : Sg) : Option AS := match kr ow i with
  | some v => some (pc + n, lo, (0, .int v) :: st, σ)
  | none => match Nat.beq n 2 with
    | true => match sr ow i with
      | some j => some (pc + n, lo, (30, .ref (950 + j)) :: st, σ)
      | none => none
    | false => none
def e_ldl (ow i pc : Nat) (lo : LO) (st : List AV) (σ : Sg) : Option AS := match lr ow i with
  | some v => some (pc + 3, lo, (0, .long v) :: st, σ)
  | none => none
def cpk (sp dp n : Int32) (a b : Nat) : Bool := !(decide (sp < 0)) && (!(decide (dp < 0)) && (!(decide (n < 0)) && (Nat.ble (sp.toNatClampNeg + n.toNatClampNeg) a && Nat.ble (dp.toNatClampNeg + n.toNatClampNeg) b)))
def rcat (r : List AV) : Nat := match r with
  | [] => 0
  | q :: r => q.2.category + rcat r
def e_ivs (ow i pc : Nat) (lo : LO) (st : List AV) (σ : Sg) : Option AS := match mr ow i with
  | some (3, _) => match st with
    | (_, .int y) :: (_, .int x) :: r => match Nat.ble (rcat r) 8 with
      | true => some (pc + 3, lo, (0, .int (if x < y then y else x)) :: r, σ)
      | false => none
    | _ => none
  | some (4, _) => match st with
    | (_, .int y) :: (_, .int x) :: r => match Nat.ble (rcat r) 8 with
      | true => some (pc + 3, lo, (0, .int (if y < x then y else x)) :: r, σ)
      | false => none
    | _ => none
  | some (5, _) => match st with
    | (_, .int n) :: (_, .int dp) :: (t, .ref d) :: (_, .int sp) :: (u, .ref c) :: r => match Nat.beq t 20 && (Nat.beq u 20 && Nat.ble (rcat r) 8) with
      | true => if cpk sp dp n (aln 0 c) (aln 0 d) then some (pc + 3, lo, r, cpy σ c d sp.toNatClampNeg dp.toNatClampNeg n.toNatClampNeg) else none
      | false => none
    | _ => none
  | _ => none
def ex (L ow : Nat) (i : Instr) (pc : Nat) (lo : LO) (st : List AV) (σ : Sg) : Option AS := match i with
  | .iconst n => e_push (0, .int (Int32.ofInt n)) 1 pc lo st σ
  | .bipush n => e_push (0, .int (Int8.ofInt n).toInt32) 2 pc lo st σ
  | .sipush n => e_push (0, .int (Int16.ofInt n).toInt32) 3 pc lo st σ
  | .lconst n => e_push (0, .long (Int64.ofNat (n : Nat))) 1 pc lo st σ
  | .iload_n n => e_iload n 1 pc lo st σ
  | .iload n => e_iload n 2 pc lo st σ
  | .lload_n n => e_lload n 1 pc lo st σ
  | .lload n => e_lload n 2 pc lo st σ
  | .aload_n n => e_aload n 1 pc lo st σ
  | .aload n => e_aload n 2 pc lo st σ
  | .istore_n n => e_istore n 1 pc lo st σ
  | .istore n => e_istore n 2 pc lo st σ
  | .astore_n n => e_astore n 1 pc lo st σ
  | .astore n => e_astore n 2 pc lo st σ
  | .iinc n k => e_iinc n k pc lo st σ
  | .iadd => e_bin (fun x y => x + y) pc lo st σ
  | .isub => e_bin (fun x y => x - y) pc lo st σ
  | .imul => e_bin (fun x y => x * y) pc lo st σ
  | .iand => e_bin (fun x y => x &&& y) pc lo st σ
  | .ior => e_bin (fun x y => x ||| y) pc lo st σ
  | .ishl => e_bin (fun x y => x <<< (y &&& 31)) pc lo st σ
  | .ishr => e_bin (fun x y => x >>> (y &&& 31)) pc lo st σ
  | .iushr => e_bin (fun x y => (x.toUInt32 >>> (y.toUInt32 &&& Int32.toUInt32 31)).toInt32) pc lo st σ
  | .idiv => e_div (fun x y => x / y) pc lo st σ
  | .irem => e_div (fun x y => x - x / y * y) pc lo st σ
  | .ineg => e_un (fun x => -x) pc lo st σ
  | .i2s => e_un (fun x => x.toInt16.toInt32) pc lo st σ
  | .i2c => e_un (fun x => (x.toUInt32 % 65536).toInt32) pc lo st σ
  | .i2l => e_i2l pc lo st σ
  | .ladd => e_ladd pc lo st σ
  | .lcmp => e_lcmp pc lo st σ
  | .dup => e_dup pc lo st σ
  | .dup2 => e_dup2 pc lo st σ
  | .pop => e_pop pc lo st σ
  | .goto o => e_goto o pc lo st σ
  | .ifCond o k => e_if o k pc lo st σ
  | .if_icmp o k => e_icmp o k pc lo st σ
  | .tableswitch d a b os => e_tsw d a b os pc lo st σ
  | .lookupswitch d os => e_lsw d os pc lo st σ
  | .getfield k => e_get ow k pc lo st σ
  | .putfield k => e_put ow k pc lo st σ
  | .iaload => e_ald L pc lo st σ
  | .iastore => e_ast pc lo st σ
  | .aaload => e_aal pc lo st σ
  | .arraylength => e_len L pc lo st σ
  | .getstatic k => e_gst ow k pc lo st σ
  | .ldc k => e_ldc ow k 2 pc lo st σ
  | .ldc_w k => e_ldc ow k 3 pc lo st σ
  | .ldc2_w k => e_ldl ow k pc lo st σ
  | .invokestatic k => e_ivs ow k pc lo st σ
  | _ => none
def fetch (K : List (Nat × Instr × Nat)) (pc : Nat) : Option Instr := match K with
  | [] => none
  | q :: r => match Nat.beq q.1 pc with
    | true => some q.2.1
    | false => fetch r pc
def ex1 (L ow : Nat) (K : List (Nat × Instr × Nat)) (q : AS) : Option AS := match fetch K q.1 with
  | some i => ex L ow i q.1 q.2.1 q.2.2.1 q.2.2.2
  | none => none
def run (L ow : Nat) (K : List (Nat × Instr × Nat)) (n : Nat) (q : AS) : Option AS := match n with
  | 0 => ex1 L ow K q
  | n + 1 => match ex1 L ow K q with
    | some q' => run L ow K n q'
    | none => none
theorem t_has1 (L : Nat) (c0 : Nat) (x1 : Int32) (σ : Sg) : run L 1 kX1_has 1 (0, [some (2, .ref c0), some (0, .int x1)], [], σ) = if x1 < 0 then some (16, [some (2, .ref c0), some (0, .int x1)], [], σ) else some (4, [some (2, .ref c0), some (0, .int x1)], [], σ) := rfl
theorem t_has2 (L : Nat) (c0 : Nat) (x1 : Int32) (σ : Sg) : run L 1 kX1_has 3 (4, [some (2, .ref c0), some (0, .int x1)], [], σ) = if σ c0 1 ≤ x1 then some (16, [some (2, .ref c0), some (0, .int x1)], [], σ) else some (12, [some (2, .ref c0), some (0, .int x1)], [], σ) := rfl
