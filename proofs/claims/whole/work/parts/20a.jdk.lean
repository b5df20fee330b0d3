def sLen (c : Nat) : Nat := slen.getD (c - 950) 0
def sByt (c : Nat) : List Int32 := sbyt.getD (c - 950) []
def ixo (x : Int32) : List Int32 → Nat → Int32
  | [], _ => -1
  | b :: l, k => if b = x then nI k else ixo x l (k + 1)
def s_J0_length_8abf5 (σ : Sg) (c : Nat) : RO := some (nI (sLen c), σ)
def s_J0_charAt_5068e (σ : Sg) (c : Nat) (i : Int32) : RO := if inb i (sLen c) = true then some ((sByt c).getD i.toNatClampNeg 0, σ) else none
def s_J0_indexOf_0f7a4 (σ : Sg) (c : Nat) (x : Int32) : RO := some (ixo x (sByt c) 0, σ)
/- the JDK's own methods over the four texts: raw values, the kit's rows -/
def JF (y : MethodName) (b : ByteArray) (n : Nat) (r : Option FieldType) (ow : Nat) : Prop := Cond.code y b n r ∈ lw_tbl ∧ Cond.initialized y.cls ∈ TB ∧ y.cls = cR ow ∧ (y.cls ≠ "java/lang/invoke/MethodHandle" ∧ y.cls ≠ "java/lang/invoke/VarHandle") ∧ Jvm.plainFor y = true ∧ ow < 17 ∧ n ≤ 40
def jW (y : MethodName) (b : ByteArray) (n : Nat) (r : Option FieldType) : List Cond := Cond.code y b n r :: TB
theorem goodJ {y : MethodName} {b : ByteArray} {n ow : Nat} {r : Option FieldType} (F : JF y b n r ow) : GoodIn TB (jW y b n r) := by
  intro w hw
  rcases List.mem_cons.mp hw with rfl | h
  · exact ⟨List.mem_filter.mpr ⟨F.1, rfl⟩, good_of_word rfl⟩
  · exact ⟨h, good_of_word (List.mem_filter.mp h).2⟩
def OPx (g : GP) (vs : List Value) (Φ : State → Heap → Prop) (σ : Sg) : Array Value → State → Prop := va_Pc vs (fun U => va_P (gD g) cl12 (wsl (ga g) (gc g) σ) U.heap ∧ va_K (gD g) cl12 (tysL (gc g)) U ∧ Φ U U.heap)
def Φ0 (g : GP) : State → Heap → Prop := fun U H => EX (ga g) (gB g) (gL g) (gx g) U H
def BT (g : GP) (b j : Nat) (U : State) (H : Heap) : Prop := va_T .byte b (slen.getD j 0) (fun i => .int ((sbyt.getD j []).getD i 0)) (fun q => gB g ≤ q) U H
def Φ1 (g : GP) (b j : Nat) : State → Heap → Prop := fun U H => EX (ga g) (gB g) (gL g) (gx g) U H ∧ BT g b j U H
def Ph (g : GP) (Φ : State → Heap → Prop) : Prop := (∀ U H, Φ U H → EX (ga g) (gB g) (gL g) (gx g) U H) ∧ (∀ (s U : State) (H H1 : Heap), Φ s H → s.WarmedH U.vm → H.size ≤ H1.size → (∀ a : Nat, a < H.size → ¬ gB g ≤ a → H1[a]? = H[a]?) → Φ U H1) ∧ (∀ (a : Array Value) (U : State) (f : JFrame) (mk : MethodId), Φ U U.heap → Φ (U.calling f mk a) U.heap)
theorem EX_bl {g : GP} (a : Array Value) (U : State) (f : JFrame) (mk : MethodId) (qE : EX (ga g) (gB g) (gL g) (gx g) U U.heap) : EX (ga g) (gB g) (gL g) (gx g) (U.calling f mk a) U.heap := by
  obtain ⟨h1, h2, h3, ⟨h4, h5, h6⟩, ⟨adV, h7⟩, h8, h9⟩ := qE
  have ha : U.vm.Alike (U.calling f mk a).vm := Vm.Alike.refl U.vm
  refine ⟨fun j hj => ⟨(h1 j hj).1.moved ha, (h1 j hj).2.moved ha⟩, fun j hj => (h2 j hj).same rfl, ?_, ⟨h4.moved ha, h5, h6⟩, ⟨adV, h7.moved ha⟩, h8.moved ha, h9.moved ha⟩
  intro w hw
  have h3' := h3 w hw
  simp only [NW, List.mem_cons, List.not_mem_nil, or_false] at hw
  rcases hw with rfl | rfl | rfl | rfl <;> exact va_Nw.same rfl rfl h3'
theorem Ph0 (g : GP) : Ph g (Φ0 g) := ⟨fun _ _ h => h, fun _ _ _ _ h hW hz hq => EX.go h hW hz hq, fun a U f mk h => EX_bl a U f mk h⟩
theorem Ph1 (g : GP) (b j : Nat) : Ph g (Φ1 g b j) := by
  refine ⟨fun _ _ h => h.1, fun s U H H1 h hW hz hq => ⟨EX.go h.1 hW hz hq, ?_⟩, fun a U f mk h => ⟨EX_bl a U f mk h.1, ?_⟩⟩
  · exact va_T.kept (va_T.moved hW.alike h.2) hq
  · exact va_T.moved (Vm.Alike.refl U.vm) h.2
theorem OPx_bl {g : GP} {vs : List Value} {Φ : State → Heap → Prop} {σ : Sg} (h : Ph g Φ) : FrameBlind (OPx g vs Φ σ) := by
  intro a U f mk q
  obtain ⟨q0, qP, qK, qE⟩ := q
  exact ⟨q0, qP, va_K.moved (u := U) (U := U.calling f mk a) (Vm.Alike.refl U.vm) qK, h.2.2 a U f mk qE⟩
theorem Met_ofWF {l : Launch} {y : MethodName} {ws ws' : List Cond} {rm : Room} {Pc : Array Value → State → Prop} {Qc : Array Value → State → Outcome → State → Prop} {mc ms : Nat} {free : Addr → Prop} {cc : ByteArray} {maxL : Nat} {ret : Option FieldType}
    (hy : Jvm.plainFor y = true) (hw : ws = Cond.code y cc maxL ret :: ws')
    (body : ∀ p e s m args below meth c s₁, BodyLoose p l y (headSpec ws rm) cc maxL ret e s m args below meth c s₁ → c.maxLocals = maxL → Pc args s →
      W p l e (headSpec ws rm).room s m args below meth c s.heap [] 0 0 (MQ below Qc args s mc ms free) (entryFrame m args maxL)) : Met l y ws rm Pc Qc mc ms free := by
  refine Jvm.Free.MetFree.of_bodySF (code := cc) (maxLocals := maxL) (ret := ret) hy ?_ ?_
  · intro args s m h hn
    obtain ⟨meth, c, h1, h2, h3, h4, h5, h6, -, -⟩ := Cond.code_spec hn (atoms_spec (ws := ws) h _ (by rw [hw]; exact List.mem_cons_self))
    exact ⟨meth, c, h1, h2, h3, h4, h5, h6⟩
  · intro p e s m args below meth c s₁ B hml hP _
    have hh0 : s₁.heap = s.heap := by rw [B.state]; rfl
    obtain ⟨t, a1, o, b1, b2, b3⟩ := body p e s m args below meth c s₁ B hml hP s₁ hh0 (Stand.of_body B)
    exact ⟨t, o, a1, b1, b2, ⟨b3.1, b3.2⟩⟩
def Ox (g : GP) (d : Nat) (y : MethodName) (b : ByteArray) (n : Nat) (rr : Option FieldType) (vs : List Value) (Φ : State → Heap → Prop) (σ : Sg) (r : Option Int32) : Prop := Met (gl g) y (jW y b n rr) (rmD d) (OPx g vs Φ σ) (OQ g r σ) 0 0 (fun q => gB g ≤ q)
abbrev FJ (g : GP) (p : Program) (d : Nat) (s : State) (m : MethodId) (args : Array Value) (c : Code) (cc : ByteArray) (nL ow : Nat) : Prop := FX p (rmD d) s m args c 0 0 (ga g) (gc g) (gD g) (gB g) (gL g) (gx g) cc nL ow
def WJ (g : GP) (p : Program) (e : Env) (d : Nat) (s : State) (m : MethodId) (args : Array Value) (below : List Frame) (meth : Method) (c : Code) (Q : State → Prop) (nL : Nat) (σ : Sg) (pc : Nat) (lv : List (Nat × Value)) (st : List Value) : Prop :=
  ∀ (H : Heap) (locs : List Loc) (ls : Array Slot), lv_has ls nL lv → va_P (gD g) cl12 (wsl (ga g) (gc g) σ) H → va_S (fun x => gB g ≤ x) s.heap H locs → W p (gl g) e (rmD d) s m args below meth c H locs 0 0 Q (F0 m pc ls st)
def GG (g : GP) (σ : Sg) : Prop := ADok (ga g) (gB g) ∧ gL g < 2 ^ 31 ∧ SX (gL g) (gx g) σ
theorem okx_of {g : GP} {d : Nat} {y : MethodName} {b : ByteArray} {n ow : Nat} {rr : Option FieldType} {vs : List Value} {Φ : State → Heap → Prop} {σ : Sg} {r : Option Int32} (F : JF y b n rr ow) (hd : 1 ≤ d) (hP0 : Ph g Φ) (lv : List (Nat × Value)) (hlv : lv_args 0 vs = lv) (hlen : (lg_sl vs).length ≤ n) (G : GG g σ)
    (k : ∀ p e s m args below meth c, FJ g p d s m args c b n ow → meth.sig.returnType = rr → meth.locks = false → Φ s s.heap → WJ g p e d s m args below meth c (MQ below (OQ g r σ) args s 0 0 (fun q => gB g ≤ q)) n σ 0 lv []) : Ox g d y b n rr vs Φ σ r := by
  obtain ⟨hA, hL, hS⟩ := G
  refine Met_ofWF (cc := b) (maxL := n) (ret := rr) F.2.2.2.2.1 rfl ?_
  intro p e s m args below meth c s₁ B hml hvp
  obtain ⟨rfl, hP, hK, hE⟩ := hvp
  have hts := atoms_spec (ws := jW y b n rr) B.pre
  have hown : s.vm.findClass (cR ow) = some m.cls := by
    rw [← F.2.2.1]; exact findClass_of_methodNamed B.named
  have X : FJ g p d s m vs.toArray c b n ow := ⟨B.exec, B.bytes, hml, hown, fun w hw => hts w (List.mem_cons_of_mem _ hw), hK, hP0.1 _ _ hE, hA, ⟨hd, by show 64 ≤ 64 * d; omega⟩, Nat.zero_le _, Nat.zero_le _, F.2.2.2.2.2.1, hL⟩
  have b1 := k p e s m _ below meth c X B.returns B.notSynchronized hE
  rw [lg_entry_eq]
  subst hlv
  exact b1 s.heap [] _ (lv_entry vs hlen) hP va_S.rf
section JST
variable {g : GP} {p : Program} {e : Env} {s : State} {m : MethodId} {args : Array Value} {below : List Frame} {meth : Method} {c : Code} {Q : State → Prop} {cc : ByteArray} {nL ow d : Nat} {σ : Sg} {pc : Nat} {lv : List (Nat × Value)} {st : List Value}
theorem j_iconst (X : FJ g p d s m args c cc nL ow) {n : Int} {v : Int32} (hd : decode cc pc = .ok (.iconst n, 1)) (hv : Int32.ofInt n = v) (k : WJ g p e d s m args below meth c Q nL σ (pc + 1) lv (.int v :: st)) : WJ g p e d s m args below meth c Q nL σ pc lv st := fun H locs ls h1 h2 h3 => lv_iconst X.1 X.2.1 hd hv (k H locs ls h1 h2 h3)
theorem j_sipush (X : FJ g p d s m args c cc nL ow) {n : Int} {v : Int32} (hd : decode cc pc = .ok (.sipush n, 3)) (hv : (Int16.ofInt n).toInt32 = v) (k : WJ g p e d s m args below meth c Q nL σ (pc + 3) lv (.int v :: st)) : WJ g p e d s m args below meth c Q nL σ pc lv st := fun H locs ls h1 h2 h3 => lv_sipush X.1 X.2.1 hd hv (k H locs ls h1 h2 h3)
theorem j_iload_n (X : FJ g p d s m args c cc nL ow) {q : Fin 4} {i : Nat} {x : Int32} (hd : decode cc pc = .ok (.iload_n q, 1)) (hi : (q : Nat) = i) (hl : (i, Value.int x) ∈ lv) (k : WJ g p e d s m args below meth c Q nL σ (pc + 1) lv (.int x :: st)) : WJ g p e d s m args below meth c Q nL σ pc lv st := fun H locs ls h1 h2 h3 => lv_iload_n X.1 X.2.1 hd hi (h1.2.2 _ hl) (k H locs ls h1 h2 h3)
theorem j_iload (X : FJ g p d s m args c cc nL ow) {i : Nat} {x : Int32} (hd : decode cc pc = .ok (.iload i, 2)) (hl : (i, Value.int x) ∈ lv) (k : WJ g p e d s m args below meth c Q nL σ (pc + 2) lv (.int x :: st)) : WJ g p e d s m args below meth c Q nL σ pc lv st := fun H locs ls h1 h2 h3 => lv_iload X.1 X.2.1 hd (h1.2.2 _ hl) (k H locs ls h1 h2 h3)
theorem j_aload_n (X : FJ g p d s m args c cc nL ow) {q : Fin 4} {i x : Nat} (hd : decode cc pc = .ok (.aload_n q, 1)) (hi : (q : Nat) = i) (hl : (i, Value.ref x) ∈ lv) (k : WJ g p e d s m args below meth c Q nL σ (pc + 1) lv (.ref x :: st)) : WJ g p e d s m args below meth c Q nL σ pc lv st := fun H locs ls h1 h2 h3 => lv_aload_n X.1 X.2.1 hd hi (h1.2.2 _ hl) (k H locs ls h1 h2 h3)
theorem j_istore_n (X : FJ g p d s m args c cc nL ow) {q : Fin 4} {i : Nat} {x : Int32} {lv' : List (Nat × Value)} (hd : decode cc pc = .ok (.istore_n q, 1)) (hi : (q : Nat) = i) (hn : i < nL) (hl : (i, Value.int x) :: lv.filter (fun q => !(q.1 == i) && !(q.1 + 1 == i && q.2.category == 2)) = lv') (k : WJ g p e d s m args below meth c Q nL σ (pc + 1) lv' st) : WJ g p e d s m args below meth c Q nL σ pc lv (.int x :: st) := fun H locs ls h1 h2 h3 => lv_istore_n X.1 X.2.1 hd hi h1 hn hl (fun ls' h' => k H locs ls' h' h2 h3)
theorem j_istore (X : FJ g p d s m args c cc nL ow) {i : Nat} {x : Int32} {lv' : List (Nat × Value)} (hd : decode cc pc = .ok (.istore i, 2)) (hn : i < nL) (hl : (i, Value.int x) :: lv.filter (fun q => !(q.1 == i) && !(q.1 + 1 == i && q.2.category == 2)) = lv') (k : WJ g p e d s m args below meth c Q nL σ (pc + 2) lv' st) : WJ g p e d s m args below meth c Q nL σ pc lv (.int x :: st) := fun H locs ls h1 h2 h3 => lv_istore X.1 X.2.1 hd h1 hn hl (fun ls' h' => k H locs ls' h' h2 h3)
theorem j_iinc (X : FJ g p d s m args c cc nL ow) {i t : Nat} {n : Int} {x v : Int32} {lv' : List (Nat × Value)} (hd : decode cc pc = .ok (.iinc i n, 3)) (hk : lv[t]? = some (i, .int x)) (hv : x + Int32.ofInt n = v) (hn : i < nL) (hl : (i, Value.int v) :: lv.filter (fun q => !(q.1 == i) && !(q.1 + 1 == i && q.2.category == 2)) = lv') (k : WJ g p e d s m args below meth c Q nL σ (pc + 3) lv' st) : WJ g p e d s m args below meth c Q nL σ pc lv st := fun H locs ls h1 h2 h3 => lv_iinc X.1 X.2.1 hd h1 hk hv hn hl (fun ls' h' => k H locs ls' h' h2 h3)
theorem j_iand (X : FJ g p d s m args c cc nL ow) {x y : Int32} (hd : decode cc pc = .ok (.iand, 1)) (k : WJ g p e d s m args below meth c Q nL σ (pc + 1) lv (.int (x &&& y) :: st)) : WJ g p e d s m args below meth c Q nL σ pc lv (.int y :: .int x :: st) := fun H locs ls h1 h2 h3 => lv_iand X.1 X.2.1 hd (k H locs ls h1 h2 h3)
theorem j_ishr (X : FJ g p d s m args c cc nL ow) {x y : Int32} (hd : decode cc pc = .ok (.ishr, 1)) (k : WJ g p e d s m args below meth c Q nL σ (pc + 1) lv (.int (x >>> (y &&& 31)) :: st)) : WJ g p e d s m args below meth c Q nL σ pc lv (.int y :: .int x :: st) := fun H locs ls h1 h2 h3 => lv_ishr X.1 X.2.1 hd (k H locs ls h1 h2 h3)
theorem j_i2c (X : FJ g p d s m args c cc nL ow) {x v : Int32} (hd : decode cc pc = .ok (.i2c, 1)) (hv : (x.toUInt32 % 65536).toInt32 = v) (k : WJ g p e d s m args below meth c Q nL σ (pc + 1) lv (.int v :: st)) : WJ g p e d s m args below meth c Q nL σ pc lv (.int x :: st) := fun H locs ls h1 h2 h3 => lv_i2c X.1 X.2.1 hd hv (k H locs ls h1 h2 h3)
theorem j_i2b (X : FJ g p d s m args c cc nL ow) {x v : Int32} (hd : decode cc pc = .ok (.i2b, 1)) (hv : x.toInt8.toInt32 = v) (k : WJ g p e d s m args below meth c Q nL σ (pc + 1) lv (.int v :: st)) : WJ g p e d s m args below meth c Q nL σ pc lv (.int x :: st) := fun H locs ls h1 h2 h3 => lv_i2b X.1 X.2.1 hd hv (k H locs ls h1 h2 h3)
theorem j_pop (X : FJ g p d s m args c cc nL ow) {x : Int32} (hd : decode cc pc = .ok (.pop, 1)) (k : WJ g p e d s m args below meth c Q nL σ (pc + 1) lv st) : WJ g p e d s m args below meth c Q nL σ pc lv (.int x :: st) := fun H locs ls h1 h2 h3 => lv_pop X.1 X.2.1 hd rfl (k H locs ls h1 h2 h3)
theorem j_goto (X : FJ g p d s m args c cc nL ow) {off : Int} {tgt : Nat} (hd : decode cc pc = .ok (.goto off, 3)) (ht : (pc : Int) + off = (tgt : Int)) (k : WJ g p e d s m args below meth c Q nL σ tgt lv st) : WJ g p e d s m args below meth c Q nL σ pc lv st := fun H locs ls h1 h2 h3 => lv_goto X.1 X.2.1 hd ht (k H locs ls h1 h2 h3)
theorem j_ifeq (X : FJ g p d s m args c cc nL ow) {x : Int32} {off : Int} {tgt : Nat} (hd : decode cc pc = .ok (.ifCond .eq off, 3)) (ht : (pc : Int) + off = (tgt : Int)) (kt : x = 0 → WJ g p e d s m args below meth c Q nL σ tgt lv st) (kf : ¬ x = 0 → WJ g p e d s m args below meth c Q nL σ (pc + 3) lv st) : WJ g p e d s m args below meth c Q nL σ pc lv (.int x :: st) := fun H locs ls h1 h2 h3 => lv_if_eq X.1 X.2.1 hd ht (fun z => kt z H locs ls h1 h2 h3) (fun z => kf z H locs ls h1 h2 h3)
theorem j_ifne (X : FJ g p d s m args c cc nL ow) {x : Int32} {off : Int} {tgt : Nat} (hd : decode cc pc = .ok (.ifCond .ne off, 3)) (ht : (pc : Int) + off = (tgt : Int)) (kt : ¬ x = 0 → WJ g p e d s m args below meth c Q nL σ tgt lv st) (kf : x = 0 → WJ g p e d s m args below meth c Q nL σ (pc + 3) lv st) : WJ g p e d s m args below meth c Q nL σ pc lv (.int x :: st) := fun H locs ls h1 h2 h3 => lv_if_ne X.1 X.2.1 hd ht (fun z => kt z H locs ls h1 h2 h3) (fun z => kf z H locs ls h1 h2 h3)
theorem j_iflt (X : FJ g p d s m args c cc nL ow) {x : Int32} {off : Int} {tgt : Nat} (hd : decode cc pc = .ok (.ifCond .lt off, 3)) (ht : (pc : Int) + off = (tgt : Int)) (kt : x < 0 → WJ g p e d s m args below meth c Q nL σ tgt lv st) (kf : ¬ x < 0 → WJ g p e d s m args below meth c Q nL σ (pc + 3) lv st) : WJ g p e d s m args below meth c Q nL σ pc lv (.int x :: st) := fun H locs ls h1 h2 h3 => lv_if_lt X.1 X.2.1 hd ht (fun z => kt z H locs ls h1 h2 h3) (fun z => kf z H locs ls h1 h2 h3)
theorem j_clt (X : FJ g p d s m args c cc nL ow) {x y : Int32} {off : Int} {tgt : Nat} (hd : decode cc pc = .ok (.if_icmp .lt off, 3)) (ht : (pc : Int) + off = (tgt : Int)) (kt : x < y → WJ g p e d s m args below meth c Q nL σ tgt lv st) (kf : ¬ x < y → WJ g p e d s m args below meth c Q nL σ (pc + 3) lv st) : WJ g p e d s m args below meth c Q nL σ pc lv (.int y :: .int x :: st) := fun H locs ls h1 h2 h3 => lv_icmp_lt X.1 X.2.1 hd ht (fun z => kt z H locs ls h1 h2 h3) (fun z => kf z H locs ls h1 h2 h3)
theorem j_cgt (X : FJ g p d s m args c cc nL ow) {x y : Int32} {off : Int} {tgt : Nat} (hd : decode cc pc = .ok (.if_icmp .gt off, 3)) (ht : (pc : Int) + off = (tgt : Int)) (kt : y < x → WJ g p e d s m args below meth c Q nL σ tgt lv st) (kf : ¬ y < x → WJ g p e d s m args below meth c Q nL σ (pc + 3) lv st) : WJ g p e d s m args below meth c Q nL σ pc lv (.int y :: .int x :: st) := fun H locs ls h1 h2 h3 => lv_icmp_gt X.1 X.2.1 hd ht (fun z => kt z H locs ls h1 h2 h3) (fun z => kf z H locs ls h1 h2 h3)
theorem j_cge (X : FJ g p d s m args c cc nL ow) {x y : Int32} {off : Int} {tgt : Nat} (hd : decode cc pc = .ok (.if_icmp .ge off, 3)) (ht : (pc : Int) + off = (tgt : Int)) (kt : y ≤ x → WJ g p e d s m args below meth c Q nL σ tgt lv st) (kf : ¬ y ≤ x → WJ g p e d s m args below meth c Q nL σ (pc + 3) lv st) : WJ g p e d s m args below meth c Q nL σ pc lv (.int y :: .int x :: st) := fun H locs ls h1 h2 h3 => lv_icmp_ge X.1 X.2.1 hd ht (fun z => kt z H locs ls h1 h2 h3) (fun z => kf z H locs ls h1 h2 h3)
theorem j_cne (X : FJ g p d s m args c cc nL ow) {x y : Int32} {off : Int} {tgt : Nat} (hd : decode cc pc = .ok (.if_icmp .ne off, 3)) (ht : (pc : Int) + off = (tgt : Int)) (kt : ¬ x = y → WJ g p e d s m args below meth c Q nL σ tgt lv st) (kf : x = y → WJ g p e d s m args below meth c Q nL σ (pc + 3) lv st) : WJ g p e d s m args below meth c Q nL σ pc lv (.int y :: .int x :: st) := fun H locs ls h1 h2 h3 => lv_icmp_ne X.1 X.2.1 hd ht (fun z => kt z H locs ls h1 h2 h3) (fun z => kf z H locs ls h1 h2 h3)
theorem j_getf (X : FJ g p d s m args c cc nL ow) {i w q : Nat} {o n ds : String} {v : Value} (hE : va_OF o n ds v q (fun x => gB g ≤ x) s s.heap) (hlk : lw_tbl[w]? = some (Cond.fieldLink (cR ow) i o n ds)) (hd : decode cc pc = .ok (.getfield i, 3)) (k : WJ g p e d s m args below meth c Q nL σ (pc + 3) lv (v :: st)) : WJ g p e d s m args below meth c Q nL σ pc lv (.ref q :: st) := fun H locs ls h1 h2 h3 => vk_getf X.1 X.2.1 hE h3 X.2.2.2.1 (X.2.2.2.2.1 _ (tb_mem hlk rfl)) (fun _ h => h) hd (k H locs ls h1 h2 h3)
theorem j_gets (X : FJ g p d s m args c cc nL ow) {i w : Nat} {o n ds : String} {v : Value} (hZ : va_Z o n ds v (fun x => gB g ≤ x) s s.heap) (hlk : lw_tbl[w]? = some (Cond.fieldLink (cR ow) i o n ds)) (hd : decode cc pc = .ok (.getstatic i, 3)) (k : WJ g p e d s m args below meth c Q nL σ (pc + 3) lv (v :: st)) : WJ g p e d s m args below meth c Q nL σ pc lv st := fun H locs ls h1 h2 h3 => va_gets X.1 X.2.1 hZ h3 X.2.2.2.1 (X.2.2.2.2.1 _ (tb_mem hlk rfl)) (fun _ h => h) hd (k H locs ls h1 h2 h3)
theorem j_len (X : FJ g p d s m args c cc nL ow) {b j : Nat} (hT : BT g b j s s.heap) (hd : decode cc pc = .ok (.arraylength, 1)) (k : WJ g p e d s m args below meth c Q nL σ (pc + 1) lv (.int (Int32.ofNat (slen.getD j 0)) :: st)) : WJ g p e d s m args below meth c Q nL σ pc lv (.ref b :: st) := fun H locs ls h1 h2 h3 => va_tlen X.1 X.2.1 hT h3 rfl hd (k H locs ls h1 h2 h3)
theorem j_bald (X : FJ g p d s m args c cc nL ow) {b j : Nat} {i : Int32} (hT : BT g b j s s.heap) (hi : vp_in i (slen.getD j 0)) (hd : decode cc pc = .ok (.baload, 1)) (k : WJ g p e d s m args below meth c Q nL σ (pc + 1) lv (.int ((sbyt.getD j []).getD i.toNatClampNeg 0) :: st)) : WJ g p e d s m args below meth c Q nL σ pc lv (.int i :: .ref b :: st) := fun H locs ls h1 h2 h3 => va_tb X.1 X.2.1 hT h3 hi rfl hd (k H locs ls h1 h2 h3)
theorem j_max (X : FJ g p d s m args c cc nL ow) {i w : Nat} {x y : Int32} (hlk : lw_tbl[w]? = some (Cond.methodLink (cR ow) i Lib.Math.max.name)) (hd : decode cc pc = .ok (.invokestatic i, 3)) (k : WJ g p e d s m args below meth c Q nL σ (pc + 3) lv [.int (if x < y then y else x)]) : WJ g p e d s m args below meth c Q nL σ pc lv [.int y, .int x] := by
  intro H locs ls h1 h2 h3
  obtain ⟨hx, hb, hml, hown, hts, hK, hE, hA, hR, hc1, hc2, how, hL⟩ := X
  obtain ⟨w1, w2, w3, w4, w5, w6, w7, w8⟩ := wd_max
  exact va_mmax hx hb (by rw [hml]; exact h1.1.symm) hown (hts _ (tb_mem hlk rfl)) (hts _ (tb_mem w1 rfl)) (hts _ (tb_mem w5 rfl)) (hts _ (tb_mem w2 rfl)) hR.1 (by have := hR.2; simp only [List.map_nil, List.sum_nil]; omega) hc1 hc2 hd (k H locs ls h1 h2 h3)
theorem j_min (X : FJ g p d s m args c cc nL ow) {i w : Nat} {x y : Int32} (hlk : lw_tbl[w]? = some (Cond.methodLink (cR ow) i Lib.Math.min.name)) (hd : decode cc pc = .ok (.invokestatic i, 3)) (k : WJ g p e d s m args below meth c Q nL σ (pc + 3) lv [.int (if y < x then y else x)]) : WJ g p e d s m args below meth c Q nL σ pc lv [.int y, .int x] := by
  intro H locs ls h1 h2 h3
  obtain ⟨hx, hb, hml, hown, hts, hK, hE, hA, hR, hc1, hc2, how, hL⟩ := X
  obtain ⟨w1, w2, w3, w4, w5, w6, w7, w8⟩ := wd_max
  exact va_mmin hx hb (by rw [hml]; exact h1.1.symm) hown (hts _ (tb_mem hlk rfl)) (hts _ (tb_mem w3 rfl)) (hts _ (tb_mem w5 rfl)) (hts _ (tb_mem w4 rfl)) hR.1 (by have := hR.2; simp only [List.map_nil, List.sum_nil]; omega) hc1 hc2 hd (k H locs ls h1 h2 h3)
theorem j_ret (X : FJ g p d s m args c cc nL ow) {v : Int32} {ty : FieldType} (hr : meth.sig.returnType = some ty) (hlk : meth.locks = false) (hn : narrow ty (.int v) = .int v) (hS : SX (gL g) (gx g) σ) (hd : decode cc pc = .ok (.ireturn, 1)) : WJ g p e d s m args below meth c (MQ below (OQ g (some v) σ) args s 0 0 (fun q => gB g ≤ q)) nL σ pc lv [.int v] := fun H locs ls h1 h2 h3 => W.zret X.1 X.2.1 hr hn (fun t ht hW => ⟨rfl, hS, by rw [ht]; exact h2, h3.F ht⟩) h3.2.2 hd hlk
theorem j_vret (X : FJ g p d s m args c cc nL ow) (hr : meth.sig.returnType = none) (hlk : meth.locks = false) (hS : SX (gL g) (gx g) σ) (hd : decode cc pc = .ok (.return_, 1)) : WJ g p e d s m args below meth c (MQ below (OQ g none σ) args s 0 0 (fun q => gB g ≤ q)) nL σ pc lv [] := fun H locs ls h1 h2 h3 => W.vret X.1 X.2.1 hr (fun t ht hW => ⟨rfl, hS, by rw [ht]; exact h2, h3.F ht⟩) h3.2.2 hd hlk
theorem j_after {vs st0 : List Value} {r : Option Int32} {a : Array Value} {H : Heap} {locs : List Loc} {ls : Array Slot} (h1 : lv_has ls nL lv) (h3 : va_S (fun x => gB g ≤ x) s.heap H locs) (hr : va_Run p (gl g) e (rmD d) s m args below meth c H locs 0 0 0 0 (F0 m pc ls st0) st (OQ g r σ a) (fun q => gB g ≤ q)) (k : WJ g p e d s m args below meth c Q nL σ (pc + 3) lv ((r.map Value.int).toList ++ st)) : W p (gl g) e (rmD d) s m args below meth c H locs 0 0 Q (F0 m pc ls st0) := by
  intro T hT X1
  obtain ⟨v, st₀, t, T', L1, h0, X', hL1, e1, e2, ⟨hv, hSX, hb, hz, hkk⟩, stp⟩ := hr T hT X1
  rw [h0] at hz hkk
  have hv : v = r.map Value.int := by
    have := hv; simpa using this
  subst hv
  obtain ⟨t2, a1, b1⟩ := k T'.heap (locs ++ L1) ls h1 (by rw [e1]; exact hb)
    ⟨Nat.le_trans h3.1 (by rw [e1]; exact hz), fun q q1 q2 => by rw [e1, hkk q (Nat.lt_of_lt_of_le q1 h3.1) q2]; exact h3.2.1 q q1 q2, fun q hq => by
      rcases List.mem_append.mp hq with h | h
      · exact h3.2.2 q h
      · exact hL1 q h⟩ T' rfl X'
  exact ⟨t2, stp t2 a1, b1⟩
theorem j_callS (X : FJ g p (d + 1) s m args c cc nL ow) {i w w' : Nat} {y : MethodName} {b : ByteArray} {n ow' : Nat} {rr : Option FieldType} {Φ : State → Heap → Prop} {r : Option Int32} (vs : List Value) (F : JF y b n rr ow') (hP0 : Ph g Φ) (hΦ : Φ s s.heap) (hM : Ox g d y b n rr vs Φ σ r) (hst : lw_tbl[w]? = some (Cond.static y)) (hlk : lw_tbl[w']? = some (Cond.methodLink (cR ow) i y)) (hds : (parseMethodDescriptor y.desc).map (fun d => d.parameters.length) = some vs.length) (hrm : (st.map fun v => v.category).sum ≤ 8) (hd : decode cc pc = .ok (.invokestatic i, 3)) {st0 : List Value} (hs0 : st0 = vs.reverse ++ st) (k : WJ g p e (d + 1) s m args below meth c Q nL σ (pc + 3) lv ((r.map Value.int).toList ++ st)) : WJ g p e (d + 1) s m args below meth c Q nL σ pc lv st0 := by
  intro H locs ls h1 h2 h3
  obtain ⟨hx, hb, hml, hown, hts, hK, hE, hA, hR, hc1, hc2, how, hL⟩ := X
  refine j_after (vs := vs) (r := r) (a := vs.toArray) h1 h3 ?_ k
  refine va_runS (n := vs.length) (As := vs) ⟨hx, hb, hml, hown, hts⟩ hM ⟨callB_of (ws' := TB) vs.length hts (goodJ F) rfl rfl rfl (hts _ F.2.1) (hts _ (tb_mem hlk rfl)) ⟨F.2.2.2.1.1, F.2.2.2.1.2, hds⟩ ⟨Nat.le_refl _, ?_⟩, hts _ (tb_mem hst rfl)⟩ ⟨OPx_bl hP0, ?_⟩ rfl rfl h1.1 hs0 ?_ hd ⟨Nat.le_refl _, Nat.le_refl _⟩
  · show 8 + (n + 11) + 64 * d ≤ 64 * (d + 1)
    have := F.2.2.2.2.2.2
    omega
  · intro U hU hW
    exact ⟨rfl, by rw [hU]; exact h2, va_K.moved hW.alike hK, hP0.2.1 s U s.heap U.heap hΦ hW (by rw [hU]; exact h3.1) (fun a q1 q2 => by rw [hU]; exact h3.2.1 a q1 q2)⟩
  · show 2 * 0 + _ ≤ 8
    omega
theorem j_callV (X : FJ g p (d + 1) s m args c cc nL ow) {i j w w' w'' : Nat} {y : MethodName} {b : ByteArray} {n : Nat} {rr : Option FieldType} {r : Option Int32} (vs : List Value) (hj : j < 4) (F : JF y b n rr 13) (hM : Ox g d y b n rr (.ref (ga g (950 + j)) :: vs) (Φ0 g) σ r) (hst : lw_tbl[w]? = some (Cond.instanceMethod y)) (hlk : lw_tbl[w']? = some (Cond.methodLink (cR ow) i y)) (hsl : lw_tbl[w'']? = some (Cond.selects y.cls y y)) (hds : (parseMethodDescriptor y.desc).map (fun d => d.parameters.length) = some vs.length) (hrm : (st.map fun v => v.category).sum ≤ 8) (hd : decode cc pc = .ok (.invokevirtual i, 3)) {st0 : List Value} (hs0 : st0 = vs.reverse ++ .ref (ga g (950 + j)) :: st) (k : WJ g p e (d + 1) s m args below meth c Q nL σ (pc + 3) lv ((r.map Value.int).toList ++ st)) : WJ g p e (d + 1) s m args below meth c Q nL σ pc lv st0 := by
  intro H locs ls h1 h2 h3
  obtain ⟨hx, hb, hml, hown, hts, hK, hE, hA, hR, hc1, hc2, how, hL⟩ := X
  obtain ⟨-, -, -, -, ⟨adV, h7⟩, -⟩ := id hE
  have hrecv := vk_recv h7 hj h3
  have hcls : y.cls = "java/lang/String" := F.2.2.1
  rw [← hcls] at hrecv
  refine j_after (vs := vs) (r := r) (a := (Value.ref (ga g (950 + j)) :: vs).toArray) h1 h3 ?_ k
  refine va_runV (n := vs.length) (As := vs) ⟨hx, hb, hml, hown, hts⟩ hM (cwV (ws' := TB) vs.length hts ?_ rfl rfl rfl ⟨rfl, F.2.2.2.1.1, F.2.2.2.1.2, hds⟩ ⟨Nat.le_refl _, ?_⟩) ⟨OPx_bl (Ph0 g), hrecv, ?_⟩ rfl rfl h1.1 hs0 ?_ hd ⟨Nat.le_refl _, Nat.le_refl _⟩
  · intro w hw
    simp only [wsV, List.cons_append, List.nil_append, List.mem_cons] at hw
    rcases hw with rfl | rfl | rfl | rfl | hw
    · exact ⟨tb_mem hlk rfl, good_of_word rfl⟩
    · exact ⟨tb_mem hst rfl, good_of_word rfl⟩
    · exact ⟨tb_mem hsl rfl, good_of_word rfl⟩
    · exact ⟨F.2.1, good_of_word rfl⟩
    · exact goodJ F w hw
  · show 8 + (n + 11) + 64 * d ≤ 64 * (d + 1)
    have := F.2.2.2.2.2.2
    omega
  · intro U hU hW
    exact ⟨rfl, by rw [hU]; exact h2, va_K.moved hW.alike hK, EX.go hE hW (by rw [hU]; exact h3.1) (fun a q1 q2 => by rw [hU]; exact h3.2.1 a q1 q2)⟩
  · show 2 * 0 + _ ≤ 8
    omega
end JST
theorem f_coder : JF yJ0_coder_7d493 cJ0_coder_7d493 1 (some .byte) 13 := ⟨tbl_in4 (List.mem_of_getElem? (i := 30) rfl), tb_mem (i := 90) (by decide +kernel) rfl, rfl, by decide +kernel, by decide +kernel, by decide, by decide⟩
theorem f_isL : JF yJ0_isLatin1_aae02 cJ0_isLatin1_aae02 1 (some .boolean) 13 := ⟨tbl_in4 (List.mem_of_getElem? (i := 40) rfl), tb_mem (i := 90) (by decide +kernel) rfl, rfl, by decide +kernel, by decide +kernel, by decide, by decide⟩
theorem f_len : JF yJ0_length_8abf5 cJ0_length_8abf5 1 (some .int) 13 := ⟨tbl_in4 (List.mem_of_getElem? (i := 26) rfl), tb_mem (i := 90) (by decide +kernel) rfl, rfl, by decide +kernel, by decide +kernel, by decide, by decide⟩
theorem f_cha : JF yJ0_charAt_5068e cJ0_charAt_5068e 2 (some .char) 13 := ⟨tbl_in4 (List.mem_of_getElem? (i := 36) rfl), tb_mem (i := 90) (by decide +kernel) rfl, rfl, by decide +kernel, by decide +kernel, by decide, by decide⟩
theorem f_ix1 : JF yJ0_indexOf_0f7a4 cJ0_indexOf_0f7a4 2 (some .int) 13 := ⟨tbl_in4 (List.mem_of_getElem? (i := 125) rfl), tb_mem (i := 90) (by decide +kernel) rfl, rfl, by decide +kernel, by decide +kernel, by decide, by decide⟩
theorem f_ix2 : JF yJ0_indexOf_7cf53 cJ0_indexOf_7cf53 3 (some .int) 13 := ⟨tbl_in4 (List.mem_of_getElem? (i := 129) rfl), tb_mem (i := 90) (by decide +kernel) rfl, rfl, by decide +kernel, by decide +kernel, by decide, by decide⟩
theorem f_chk : JF yJ0_checkIndex_df160 cJ0_checkIndex_df160 2 none 13 := ⟨tbl_in4 (List.mem_of_getElem? (i := 46) rfl), tb_mem (i := 90) (by decide +kernel) rfl, rfl, by decide +kernel, by decide +kernel, by decide, by decide⟩
theorem f_pre : JF yJ3_checkIndex_8e157 cJ3_checkIndex_8e157 3 (some .int) 15 := ⟨tbl_in4 (List.mem_of_getElem? (i := 51) rfl), tb_mem (i := 92) (by decide +kernel) rfl, rfl, by decide +kernel, by decide +kernel, by decide, by decide⟩
theorem f_lch : JF yJ1_charAt_3b067 cJ1_charAt_3b067 2 (some .char) 14 := ⟨tbl_in4 (List.mem_of_getElem? (i := 43) rfl), tb_mem (i := 91) (by decide +kernel) rfl, rfl, by decide +kernel, by decide +kernel, by decide, by decide⟩
theorem f_can : JF yJ1_canEncode_9a6ad cJ1_canEncode_9a6ad 1 (some .boolean) 14 := ⟨tbl_in4 (List.mem_of_getElem? (i := 136) rfl), tb_mem (i := 91) (by decide +kernel) rfl, rfl, by decide +kernel, by decide +kernel, by decide, by decide⟩
theorem f_lix : JF yJ1_indexOf_4cfef cJ1_indexOf_4cfef 4 (some .int) 14 := ⟨tbl_in4 (List.mem_of_getElem? (i := 133) rfl), tb_mem (i := 91) (by decide +kernel) rfl, rfl, by decide +kernel, by decide +kernel, by decide, by decide⟩
theorem f_ixc : JF yJ1_indexOfChar_4cfef cJ1_indexOfChar_4cfef 6 (some .int) 14 := ⟨tbl_in4 (List.mem_of_getElem? (i := 141) rfl), tb_mem (i := 91) (by decide +kernel) rfl, rfl, by decide +kernel, by decide +kernel, by decide, by decide⟩
section JMS
variable {g : GP} {σ : Sg} {j : Nat}
theorem jm_coder (d : Nat) (G : GG g σ) (hj : j < 4) : Ox g (d + 1) yJ0_coder_7d493 cJ0_coder_7d493 1 (some .byte) [.ref (ga g (950 + j))] (Φ0 g) σ (some 0) := by
  refine okx_of f_coder (by omega) (Ph0 g) [(0, .ref (ga g (950 + j)))] rfl (Nat.le_of_ble_eq_true rfl) G ?_
  intro p e s m args below meth c X hr hl hE
  obtain ⟨-, -, -, -, ⟨adV, h7, -⟩, hz, hq⟩ := id hE
  obtain ⟨o1, o2, o3, o4⟩ := h7 j hj
  refine j_gets X hz (w := 825) (i := 38) (by decide +kernel) (by decide +kernel) ?_
  refine j_ifeq X (off := 10) (tgt := 13) (by decide +kernel) (by decide) (fun z => absurd z (by decide)) (fun _ => ?_)
  refine j_aload_n X (q := 0) (i := 0) (by decide +kernel) rfl List.mem_cons_self ?_
  refine j_getf X o2 (w := 1738) (i := 15) (by decide +kernel) (by decide +kernel) ?_
  refine j_goto X (off := 4) (tgt := 14) (by decide +kernel) (by decide) ?_
  exact j_ret X hr hl (congrArg Value.int (by decide : (0 : Int32).toInt8.toInt32 = 0)) G.2.2 (by decide +kernel)
theorem jm_isL (d : Nat) (G : GG g σ) (hj : j < 4) : Ox g (d + 1) yJ0_isLatin1_aae02 cJ0_isLatin1_aae02 1 (some .boolean) [.ref (ga g (950 + j))] (Φ0 g) σ (some 1) := by
  refine okx_of f_isL (by omega) (Ph0 g) [(0, .ref (ga g (950 + j)))] rfl (Nat.le_of_ble_eq_true rfl) G ?_
  intro p e s m args below meth c X hr hl hE
  obtain ⟨-, -, -, -, ⟨adV, h7, -⟩, hz, hq⟩ := id hE
  obtain ⟨o1, o2, o3, o4⟩ := h7 j hj
  refine j_gets X hz (w := 825) (i := 38) (by decide +kernel) (by decide +kernel) ?_
  refine j_ifeq X (off := 14) (tgt := 17) (by decide +kernel) (by decide) (fun z => absurd z (by decide)) (fun _ => ?_)
  refine j_aload_n X (q := 0) (i := 0) (by decide +kernel) rfl List.mem_cons_self ?_
  refine j_getf X o2 (w := 1738) (i := 15) (by decide +kernel) (by decide +kernel) ?_
  refine j_ifne X (off := 7) (tgt := 17) (by decide +kernel) (by decide) (fun z => absurd rfl z) (fun _ => ?_)
  refine j_iconst X (n := 1) (v := 1) (by decide +kernel) rfl ?_
  refine j_goto X (off := 4) (tgt := 18) (by decide +kernel) (by decide) ?_
  exact j_ret X hr hl (congrArg Value.int (by decide : (1 : Int32) &&& 1 = 1)) G.2.2 (by decide +kernel)
theorem len_sh : ∀ j, j < 4 → Int32.ofNat (slen.getD j 0) >>> ((0 : Int32) &&& 31) = nI (slen.getD j 0) := by decide
theorem jm_len (d : Nat) (G : GG g σ) (hj : j < 4) : Ox g (d + 2) yJ0_length_8abf5 cJ0_length_8abf5 1 (some .int) [.ref (ga g (950 + j))] (Φ0 g) σ (some (nI (slen.getD j 0))) := by
  refine okx_of f_len (by omega) (Ph0 g) [(0, .ref (ga g (950 + j)))] rfl (Nat.le_of_ble_eq_true rfl) G ?_
  intro p e s m args below meth c X hr hl hE
  obtain ⟨-, -, -, -, ⟨adV, h7, -⟩, hz, hq⟩ := id hE
  obtain ⟨o1, o2, o3, o4⟩ := h7 j hj
  refine j_aload_n X (q := 0) (i := 0) (by decide +kernel) rfl List.mem_cons_self ?_
  refine j_getf X o3 (w := 1737) (i := 9) (by decide +kernel) (by decide +kernel) ?_
  refine j_len X (j := j) o4 (by decide +kernel) ?_
  refine j_aload_n X (q := 0) (i := 0) (by decide +kernel) rfl List.mem_cons_self ?_
  refine j_callV X (i := 335) (w := 822) (w' := 821) (w'' := 823) [] hj f_coder (jm_coder d G hj) (by decide +kernel) (by decide +kernel) (by decide +kernel) (by decide +kernel) (st := [.int (Int32.ofNat (slen.getD j 0))]) (Nat.le_of_ble_eq_true rfl) (by decide +kernel) rfl ?_
  refine j_ishr X (x := Int32.ofNat (slen.getD j 0)) (y := 0) (st := []) (by decide +kernel) ?_
  rw [len_sh j hj]
  exact j_ret X hr hl rfl G.2.2 (by decide +kernel)
theorem jm_pre (d : Nat) (G : GG g σ) {i n : Int32} {v : Value} (h0 : ¬ i < 0) (h1 : i < n) (hlv : lv_args 0 [.int i, .int n, v] = [(0, .int i), (1, .int n), (2, v)]) (hlen : (lg_sl [.int i, .int n, v]).length ≤ 3) : Ox g (d + 1) yJ3_checkIndex_8e157 cJ3_checkIndex_8e157 3 (some .int) [.int i, .int n, v] (Φ0 g) σ (some i) := by
  refine okx_of f_pre (by omega) (Ph0 g) [(0, .int i), (1, .int n), (2, v)] hlv hlen G ?_
  intro p e s m args below meth c X hr hl hE
  refine j_iload_n X (q := 0) (i := 0) (x := i) (by decide +kernel) rfl (by simp) ?_
  refine j_iflt X (off := 8) (tgt := 9) (by decide +kernel) (by decide) (fun z => absurd z h0) (fun _ => ?_)
  refine j_iload_n X (q := 0) (i := 0) (x := i) (by decide +kernel) rfl (by simp) ?_
  refine j_iload_n X (q := 1) (i := 1) (x := n) (by decide +kernel) rfl (by simp) ?_
  refine j_clt X (off := 10) (tgt := 16) (by decide +kernel) (by decide) (fun _ => ?_) (fun z => absurd h1 z)
  refine j_iload_n X (q := 0) (i := 0) (x := i) (by decide +kernel) rfl (by simp) ?_
  exact j_ret X hr hl rfl G.2.2 (by decide +kernel)
theorem jm_chk (d : Nat) (G : GG g σ) {i n : Int32} (h0 : ¬ i < 0) (h1 : i < n) : Ox g (d + 2) yJ0_checkIndex_df160 cJ0_checkIndex_df160 2 none [.int i, .int n] (Φ0 g) σ none := by
  refine okx_of f_chk (by omega) (Ph0 g) [(0, .int i), (1, .int n)] rfl (Nat.le_of_ble_eq_true rfl) G ?_
  intro p e s m args below meth c X hr hl hE
  obtain ⟨-, -, -, -, -, hz, hq⟩ := id hE
  refine j_iload_n X (q := 0) (i := 0) (x := i) (by decide +kernel) rfl (by simp) ?_
  refine j_iload_n X (q := 1) (i := 1) (x := n) (by decide +kernel) rfl (by simp) ?_
  have key : ∀ v : Value, va_Z "jdk/internal/util/Preconditions" "SIOOBE_FORMATTER" "Ljava/util/function/BiFunction;" v (fun q => gB g ≤ q) s s.heap → lv_args 0 [.int i, .int n, v] = [(0, .int i), (1, .int n), (2, v)] → (lg_sl [.int i, .int n, v]).length ≤ 3 → WJ g p e (d + 2) s m args below meth c (MQ below (OQ g none σ) args s 0 0 (fun q => gB g ≤ q)) 2 σ (0 + 1 + 1) [(0, .int i), (1, .int n)] [.int n, .int i] := by
    intro v hv hlv hlen
    refine j_gets X hv (w := 841) (i := 1053) (by decide +kernel) (by decide +kernel) ?_
    refine j_callS X (i := 1059) (w := 844) (w' := 843) [.int i, .int n, v] f_pre (Ph0 g) hE (jm_pre d G h0 h1 hlv hlen) (by decide +kernel) (by decide +kernel) (by show _ = some 3; decide +kernel) (st := []) (Nat.le_of_ble_eq_true rfl) (by decide +kernel) rfl ?_
    refine j_pop X (x := i) (st := []) (by decide +kernel) ?_
    exact j_vret X hr hl G.2.2 (by decide +kernel)
  rcases hq with hq | ⟨t, hq⟩
  · exact key _ hq rfl (Nat.le_of_ble_eq_true rfl)
  · exact key _ hq rfl (Nat.le_of_ble_eq_true rfl)
theorem by_c : ∀ j, j < 4 → ∀ t, t < 8 → ((((sbyt.getD j []).getD t 0 &&& 255).toUInt32 % 65536).toInt32 = (sbyt.getD j []).getD t 0 ∧ ((sbyt.getD j []).getD t 0).toUInt32.toUInt16.toUInt32.toInt32 = (sbyt.getD j []).getD t 0) := by decide +kernel
theorem sl_8 : ∀ j, j < 4 → slen.getD j 0 < 8 ∧ slen.getD j 0 = (sbyt.getD j []).length ∧ (0 : Int32) < Int32.ofNat (slen.getD j 0) := by decide +kernel
theorem inb_o {x : Int32} {n : Nat} (h : inb x n = true) (hn : n < 2 ^ 31) : ∃ t, t < n ∧ x = nI t := by
  have h1 := inb_iff.mp h
  have h2 : ¬ x < 0 := fun z => h1 (Or.inl z)
  have h3 : x.toNatClampNeg < n := Nat.not_le.mp fun z => h1 (Or.inr z)
  obtain ⟨N, hN, e⟩ := Jvm.int_eq_ofNat_of_bounds (n := x) (C := 2 ^ 31 - 1) (by omega) (Int32.not_lt.mp h2) (by
    have : x ≤ Int32.maxValue := Int32.le_maxValue x
    exact this)
  subst e
  refine ⟨N, ?_, rfl⟩
  rwa [show (Int32.ofNat N).toNatClampNeg = N from nI_clamp (by omega)] at h3
theorem jm_lch (d : Nat) (G : GG g σ) (hj : j < 4) (b : Nat) {t : Nat} (ht : t < slen.getD j 0) : Ox g (d + 3) yJ1_charAt_3b067 cJ1_charAt_3b067 2 (some .char) [.ref b, .int (nI t)] (Φ1 g b j) σ (some ((sbyt.getD j []).getD t 0)) := by
  obtain ⟨s8, -, -⟩ := sl_8 j hj
  obtain ⟨c1, c2⟩ := by_c j hj t (by omega)
  have hcl : (nI t).toNatClampNeg = t := nI_clamp (by omega)
  have h0 : ¬ nI t < 0 := nI_nlt (b := 0) (by omega) (by omega)
  have h1 : nI t < Int32.ofNat (slen.getD j 0) := nI_lt (b := slen.getD j 0) ht (by omega)
  refine okx_of f_lch (by omega) (Ph1 g b j) [(0, .ref b), (1, .int (nI t))] rfl (Nat.le_of_ble_eq_true rfl) G ?_
  intro p e s m args below meth c X hr hl hE
  refine j_iload_n X (q := 1) (i := 1) (x := nI t) (by decide +kernel) rfl (by simp) ?_
  refine j_aload_n X (q := 0) (i := 0) (x := b) (by decide +kernel) rfl (by simp) ?_
  refine j_len X (j := j) hE.2 (by decide +kernel) ?_
  refine j_callS X (i := 9) (w := 839) (w' := 838) [.int (nI t), .int (Int32.ofNat (slen.getD j 0))] f_chk (Ph0 g) hE.1 (jm_chk d G h0 h1) (by decide +kernel) (by decide +kernel) (by show _ = some 2; decide +kernel) (st := []) (Nat.le_of_ble_eq_true rfl) (by decide +kernel) rfl ?_
  refine j_aload_n X (q := 0) (i := 0) (x := b) (by decide +kernel) rfl (by simp) ?_
  refine j_iload_n X (q := 1) (i := 1) (x := nI t) (by decide +kernel) rfl (by simp) ?_
  refine j_bald X (j := j) (i := nI t) (st := []) hE.2 (vp_in_nI ht (by omega)) (by decide +kernel) ?_
  refine j_sipush X (n := 255) (v := 255) (by decide +kernel) rfl ?_
  refine j_iand X (y := 255) (st := []) (by decide +kernel) ?_
  rw [hcl]
  refine j_i2c X (st := []) (by decide +kernel) c1 ?_
  exact j_ret X hr hl (congrArg Value.int c2) G.2.2 (by decide +kernel)
theorem jm_cha (d : Nat) (G : GG g σ) (hj : j < 4) {t : Nat} (ht : t < slen.getD j 0) : Ox g (d + 4) yJ0_charAt_5068e cJ0_charAt_5068e 2 (some .char) [.ref (ga g (950 + j)), .int (nI t)] (Φ0 g) σ (some ((sbyt.getD j []).getD t 0)) := by
  obtain ⟨s8, -, -⟩ := sl_8 j hj
  obtain ⟨c1, c2⟩ := by_c j hj t (by omega)
  refine okx_of f_cha (by omega) (Ph0 g) [(0, .ref (ga g (950 + j))), (1, .int (nI t))] rfl (Nat.le_of_ble_eq_true rfl) G ?_
  intro p e s m args below meth c X hr hl hE
  obtain ⟨-, -, -, -, ⟨adV, h7, -⟩, hz, hq⟩ := id hE
  obtain ⟨o1, o2, o3, o4⟩ := h7 j hj
  refine j_aload_n X (q := 0) (i := 0) (by decide +kernel) rfl List.mem_cons_self ?_
  refine j_callV X (i := 492) (w := 832) (w' := 831) (w'' := 833) [] hj f_isL (jm_isL (d + 2) G hj) (by decide +kernel) (by decide +kernel) (by decide +kernel) (by decide +kernel) (st := []) (Nat.le_of_ble_eq_true rfl) (by decide +kernel) rfl ?_
  refine j_ifeq X (x := 1) (st := []) (off := 12) (tgt := 16) (by decide +kernel) (by decide) (fun z => absurd z (by decide)) (fun _ => ?_)
  refine j_aload_n X (q := 0) (i := 0) (by decide +kernel) rfl List.mem_cons_self ?_
  refine j_getf X o3 (w := 1737) (i := 9) (by decide +kernel) (by decide +kernel) ?_
  refine j_iload_n X (q := 1) (i := 1) (x := nI t) (by decide +kernel) rfl (by simp) ?_
  refine j_callS X (i := 495) (w := 836) (w' := 835) [.ref (adV j), .int (nI t)] f_lch (Ph1 g (adV j) j) ⟨hE, o4⟩ (jm_lch d G hj (adV j) ht) (by decide +kernel) (by decide +kernel) (by show _ = some 2; decide +kernel) (st := []) (Nat.le_of_ble_eq_true rfl) (by decide +kernel) rfl ?_
  exact j_ret X hr hl (congrArg Value.int c2) G.2.2 (by decide +kernel)
theorem jm_can (d : Nat) (G : GG g σ) (x : Int32) : Ox g (d + 1) yJ1_canEncode_9a6ad cJ1_canEncode_9a6ad 1 (some .boolean) [.int x] (Φ0 g) σ (some (if x < 0 then 0 else if 255 < x then 0 else 1)) := by
  refine okx_of f_can (by omega) (Ph0 g) [(0, .int x)] rfl (Nat.le_of_ble_eq_true rfl) G ?_
  intro p e s m args below meth c X hr hl hE
  refine j_iload_n X (q := 0) (i := 0) (x := x) (by decide +kernel) rfl (by simp) ?_
  refine j_iflt X (off := 14) (tgt := 15) (by decide +kernel) (by decide) (fun z => ?_) (fun z => ?_)
  · rw [if_pos z]
    refine j_iconst X (n := 0) (v := 0) (by decide +kernel) rfl ?_
    exact j_ret X hr hl (congrArg Value.int (by decide : (0 : Int32) &&& 1 = 0)) G.2.2 (by decide +kernel)
  · rw [if_neg z]
    refine j_iload_n X (q := 0) (i := 0) (x := x) (by decide +kernel) rfl (by simp) ?_
    refine j_sipush X (n := 255) (v := 255) (by decide +kernel) rfl ?_
    refine j_cgt X (off := 7) (tgt := 15) (by decide +kernel) (by decide) (fun z2 => ?_) (fun z2 => ?_)
    · rw [if_pos z2]
      refine j_iconst X (n := 0) (v := 0) (by decide +kernel) rfl ?_
      exact j_ret X hr hl (congrArg Value.int (by decide : (0 : Int32) &&& 1 = 0)) G.2.2 (by decide +kernel)
    · rw [if_neg z2]
      refine j_iconst X (n := 1) (v := 1) (by decide +kernel) rfl ?_
      refine j_goto X (off := 4) (tgt := 16) (by decide +kernel) (by decide) ?_
      exact j_ret X hr hl (congrArg Value.int (by decide : (1 : Int32) &&& 1 = 1)) G.2.2 (by decide +kernel)
theorem by_e0 : ∀ t, t < 256 → ∀ j, j < 4 → ∀ k, k < 8 → ((sbyt.getD j []).getD k 0 = (nI t).toInt8.toInt32 ↔ (sbyt.getD j []).getD k 0 = nI t) := by decide +kernel
theorem dropC {L : List Int32} {k : Nat} (h : k < L.length) : L.drop k = L.getD k 0 :: L.drop (k + 1) := by
  rw [List.drop_eq_getElem_cons h, List.getD_eq_getElem?_getD, List.getElem?_eq_getElem h]; rfl
theorem jm_ixc (d : Nat) (G : GG g σ) (hj : j < 4) (b : Nat) {t : Nat} (ht : t < 256) : Ox g (d + 1) yJ1_indexOfChar_4cfef cJ1_indexOfChar_4cfef 6 (some .int) [.ref b, .int (nI t), .int 0, .int (nI (slen.getD j 0))] (Φ1 g b j) σ (some (ixo (nI t) (sbyt.getD j []) 0)) := by
  obtain ⟨s8, sL, -⟩ := sl_8 j hj
  refine okx_of f_ixc (by omega) (Ph1 g b j) [(0, .ref b), (1, .int (nI t)), (2, .int 0), (3, .int (nI (slen.getD j 0)))] rfl (Nat.le_of_ble_eq_true rfl) G ?_
  intro p e s m args below meth c X hr hl hE
  refine j_iload_n X (q := 1) (i := 1) (x := nI t) (by decide +kernel) rfl (by simp) ?_
  refine j_i2b X (v := (nI t).toInt8.toInt32) (st := []) (by decide +kernel) rfl ?_
  refine j_istore X (i := 4) (st := []) (lv' := [(4, .int (nI t).toInt8.toInt32), (0, .ref b), (1, .int (nI t)), (2, .int 0), (3, .int (nI (slen.getD j 0)))]) (by decide +kernel) (by omega) rfl ?_
  refine j_iload_n X (q := 2) (i := 2) (x := 0) (by decide +kernel) rfl (by simp) ?_
  refine j_istore X (i := 5) (st := []) (lv' := [(5, .int 0), (4, .int (nI t).toInt8.toInt32), (0, .ref b), (1, .int (nI t)), (2, .int 0), (3, .int (nI (slen.getD j 0)))]) (by decide +kernel) (by omega) rfl ?_
  have loop : ∀ (f k : Nat), k + f = slen.getD j 0 → ixo (nI t) ((sbyt.getD j []).drop k) k = ixo (nI t) (sbyt.getD j []) 0 → WJ g p e (d + 1) s m args below meth c (MQ below (OQ g (some (ixo (nI t) (sbyt.getD j []) 0)) σ) args s 0 0 (fun q => gB g ≤ q)) 6 σ 7 [(5, .int (nI k)), (4, .int (nI t).toInt8.toInt32), (0, .ref b), (1, .int (nI t)), (2, .int 0), (3, .int (nI (slen.getD j 0)))] [] := by
    intro f
    induction f with
    | zero =>
      intro k hk he
      have hk : k = slen.getD j 0 := hk
      refine j_iload X (i := 5) (x := nI k) (by decide +kernel) (by simp) ?_
      refine j_iload_n X (q := 3) (i := 3) (x := nI (slen.getD j 0)) (by decide +kernel) rfl (by simp) ?_
      refine j_cge X (off := 21) (tgt := 31) (by decide +kernel) (by decide) (fun _ => ?_) (fun z => absurd (nI_le (a := slen.getD j 0) (b := k) (by omega) (by omega)) z)
      rw [← he, List.drop_eq_nil_of_le (by omega)]
      refine j_iconst X (n := -1) (v := -1) (by decide +kernel) rfl ?_
      exact j_ret X hr hl rfl G.2.2 (by decide +kernel)
    | succ f ih =>
      intro k hk he
      have hkl : k < slen.getD j 0 := by omega
      have hcl : (nI k).toNatClampNeg = k := nI_clamp (by omega)
      rw [dropC (show k < (sbyt.getD j []).length by omega)] at he
      refine j_iload X (i := 5) (x := nI k) (by decide +kernel) (by simp) ?_
      refine j_iload_n X (q := 3) (i := 3) (x := nI (slen.getD j 0)) (by decide +kernel) rfl (by simp) ?_
      refine j_cge X (off := 21) (tgt := 31) (by decide +kernel) (by decide) (fun z => absurd z (nI_ge (a := k) (b := slen.getD j 0) (by omega) (by omega))) (fun _ => ?_)
      refine j_aload_n X (q := 0) (i := 0) (x := b) (by decide +kernel) rfl (by simp) ?_
      refine j_iload X (i := 5) (x := nI k) (by decide +kernel) (by simp) ?_
      refine j_bald X (j := j) (i := nI k) (st := []) hE.2 (vp_in_nI hkl (by omega)) (by decide +kernel) ?_
      rw [hcl]
      refine j_iload X (i := 4) (x := (nI t).toInt8.toInt32) (by decide +kernel) (by simp) ?_
      refine j_cne X (off := 6) (tgt := 25) (by decide +kernel) (by decide) (fun z => ?_) (fun z => ?_)
      · have ne : ¬ (sbyt.getD j []).getD k 0 = nI t := fun q => z ((by_e0 t ht j hj k (by omega)).mpr q)
        rw [ixo, if_neg ne] at he
        refine j_iinc X (i := 5) (t := 0) (n := 1) (x := nI k) (v := nI (k + 1)) (lv' := [(5, .int (nI (k + 1))), (4, .int (nI t).toInt8.toInt32), (0, .ref b), (1, .int (nI t)), (2, .int 0), (3, .int (nI (slen.getD j 0)))]) (by decide +kernel) rfl (nI_1 k) (by omega) rfl ?_
        refine j_goto X (off := -21) (tgt := 7) (by decide +kernel) (by decide) ?_
        exact ih (k + 1) (by omega) he
      · have eq : (sbyt.getD j []).getD k 0 = nI t := (by_e0 t ht j hj k (by omega)).mp z
        rw [ixo, if_pos eq] at he
        rw [← he]
        refine j_iload X (i := 5) (x := nI k) (by decide +kernel) (by simp) ?_
        exact j_ret X hr hl rfl G.2.2 (by decide +kernel)
  exact loop (slen.getD j 0) 0 (by omega) rfl
theorem by_r : ∀ j, j < 4 → ∀ b ∈ sbyt.getD j [], ¬ b < 0 ∧ ¬ 255 < b := by decide +kernel
theorem ixo_n {x : Int32} : ∀ (L : List Int32) (k : Nat), (∀ b ∈ L, ¬ b = x) → ixo x L k = -1 := by
  intro L
  induction L with
  | nil => intro k _; rfl
  | cons b L ih =>
    intro k h
    rw [ixo, if_neg (h b List.mem_cons_self)]
    exact ih (k + 1) (fun c hc => h c (List.mem_cons_of_mem _ hc))
theorem in_255 {x : Int32} (h0 : ¬ x < 0) (h1 : ¬ 255 < x) : ∃ t, t < 256 ∧ x = nI t := by
  obtain ⟨N, hN, e⟩ := Jvm.int_eq_ofNat_of_bounds (n := x) (C := 255) (by omega) (Int32.not_lt.mp h0) (Int32.not_lt.mp h1)
  exact ⟨N, by omega, e⟩
theorem jm_lix (d : Nat) (G : GG g σ) (hj : j < 4) (b : Nat) (x : Int32) : Ox g (d + 2) yJ1_indexOf_4cfef cJ1_indexOf_4cfef 4 (some .int) [.ref b, .int x, .int 0, .int (nI (slen.getD j 0))] (Φ1 g b j) σ (some (ixo x (sbyt.getD j []) 0)) := by
  obtain ⟨s8, sL, sP⟩ := sl_8 j hj
  refine okx_of f_lix (by omega) (Ph1 g b j) [(0, .ref b), (1, .int x), (2, .int 0), (3, .int (nI (slen.getD j 0)))] rfl (Nat.le_of_ble_eq_true rfl) G ?_
  intro p e s m args below meth c X hr hl hE
  refine j_iload_n X (q := 1) (i := 1) (x := x) (by decide +kernel) rfl (by simp) ?_
  refine j_callS X (i := 88) (w := 929) (w' := 928) [.int x] f_can (Ph0 g) hE.1 (jm_can d G x) (by decide +kernel) (by decide +kernel) (by show _ = some 1; decide +kernel) (st := []) (Nat.le_of_ble_eq_true rfl) (by decide +kernel) rfl ?_
  refine j_ifne X (x := if x < 0 then 0 else if 255 < x then 0 else 1) (st := []) (off := 5) (tgt := 9) (by decide +kernel) (by decide) (fun z => ?_) (fun z => ?_)
  · have h0 : ¬ x < 0 := fun q => z (by rw [if_pos q])
    have h1 : ¬ 255 < x := fun q => z (by rw [if_neg h0, if_pos q])
    obtain ⟨t, ht, rfl⟩ := in_255 h0 h1
    refine j_iload_n X (q := 2) (i := 2) (x := 0) (by decide +kernel) rfl (by simp) ?_
    refine j_iconst X (n := 0) (v := 0) (by decide +kernel) rfl ?_
    refine j_max X (i := 92) (w := 931) (by decide +kernel) (by decide +kernel) ?_
    rw [ite_self]
    refine j_istore_n X (q := 2) (i := 2) (st := []) (lv' := [(2, .int 0), (0, .ref b), (1, .int (nI t)), (3, .int (nI (slen.getD j 0)))]) (by decide +kernel) rfl (by omega) rfl ?_
    refine j_iload_n X (q := 3) (i := 3) (x := nI (slen.getD j 0)) (by decide +kernel) rfl (by simp) ?_
    refine j_aload_n X (q := 0) (i := 0) (x := b) (by decide +kernel) rfl (by simp) ?_
    refine j_len X (j := j) hE.2 (by decide +kernel) ?_
    refine j_min X (i := 38) (w := 932) (by decide +kernel) (by decide +kernel) ?_
    have em : (if Int32.ofNat (slen.getD j 0) < nI (slen.getD j 0) then Int32.ofNat (slen.getD j 0) else nI (slen.getD j 0)) = nI (slen.getD j 0) := ite_self _
    rw [em]
    refine j_istore_n X (q := 3) (i := 3) (st := []) (lv' := [(3, .int (nI (slen.getD j 0))), (2, .int 0), (0, .ref b), (1, .int (nI t))]) (by decide +kernel) rfl (by omega) rfl ?_
    refine j_iload_n X (q := 2) (i := 2) (x := 0) (by decide +kernel) rfl (by simp) ?_
    refine j_iload_n X (q := 3) (i := 3) (x := nI (slen.getD j 0)) (by decide +kernel) rfl (by simp) ?_
    refine j_clt X (off := 5) (tgt := 29) (by decide +kernel) (by decide) (fun _ => ?_) (fun z => absurd sP z)
    refine j_aload_n X (q := 0) (i := 0) (x := b) (by decide +kernel) rfl (by simp) ?_
    refine j_iload_n X (q := 1) (i := 1) (x := nI t) (by decide +kernel) rfl (by simp) ?_
    refine j_iload_n X (q := 2) (i := 2) (x := 0) (by decide +kernel) rfl (by simp) ?_
    refine j_iload_n X (q := 3) (i := 3) (x := nI (slen.getD j 0)) (by decide +kernel) rfl (by simp) ?_
    refine j_callS X (i := 95) (w := 934) (w' := 933) [.ref b, .int (nI t), .int 0, .int (nI (slen.getD j 0))] f_ixc (Ph1 g b j) hE (jm_ixc d G hj b ht) (by decide +kernel) (by decide +kernel) (by show _ = some 4; decide +kernel) (st := []) (Nat.le_of_ble_eq_true rfl) (by decide +kernel) rfl ?_
    exact j_ret X hr hl rfl G.2.2 (by decide +kernel)
  · have hn : ixo x (sbyt.getD j []) 0 = -1 := by
      refine ixo_n _ _ (fun b0 hb0 q => ?_)
      obtain ⟨r1, r2⟩ := by_r j hj b0 hb0
      rw [q] at r1 r2
      rw [if_neg r1, if_neg r2] at z
      exact absurd z (by decide)
    rw [hn]
    refine j_iconst X (n := -1) (v := -1) (by decide +kernel) rfl ?_
    exact j_ret X hr hl rfl G.2.2 (by decide +kernel)
theorem jm_ix2 (d : Nat) (G : GG g σ) (hj : j < 4) (x : Int32) : Ox g (d + 3) yJ0_indexOf_7cf53 cJ0_indexOf_7cf53 3 (some .int) [.ref (ga g (950 + j)), .int x, .int 0] (Φ0 g) σ (some (ixo x (sbyt.getD j []) 0)) := by
  refine okx_of f_ix2 (by omega) (Ph0 g) [(0, .ref (ga g (950 + j))), (1, .int x), (2, .int 0)] rfl (Nat.le_of_ble_eq_true rfl) G ?_
  intro p e s m args below meth c X hr hl hE
  obtain ⟨-, -, -, -, ⟨adV, h7, -⟩, hz, hq⟩ := id hE
  obtain ⟨o1, o2, o3, o4⟩ := h7 j hj
  refine j_aload_n X (q := 0) (i := 0) (by decide +kernel) rfl List.mem_cons_self ?_
  refine j_callV X (i := 492) (w := 832) (w' := 831) (w'' := 833) [] hj f_isL (jm_isL (d + 1) G hj) (by decide +kernel) (by decide +kernel) (by decide +kernel) (by decide +kernel) (st := []) (Nat.le_of_ble_eq_true rfl) (by decide +kernel) rfl ?_
  refine j_ifeq X (x := 1) (st := []) (off := 19) (tgt := 23) (by decide +kernel) (by decide) (fun z => absurd z (by decide)) (fun _ => ?_)
  refine j_aload_n X (q := 0) (i := 0) (by decide +kernel) rfl List.mem_cons_self ?_
  refine j_getf X o3 (w := 1737) (i := 9) (by decide +kernel) (by decide +kernel) ?_
  refine j_iload_n X (q := 1) (i := 1) (x := x) (by decide +kernel) rfl (by simp) ?_
  refine j_iload_n X (q := 2) (i := 2) (x := 0) (by decide +kernel) rfl (by simp) ?_
  refine j_aload_n X (q := 0) (i := 0) (by decide +kernel) rfl List.mem_cons_self ?_
  refine j_callV X (i := 505) (w := 818) (w' := 924) (w'' := 819) [] hj f_len (jm_len d G hj) (by decide +kernel) (by decide +kernel) (by decide +kernel) (by decide +kernel) (st := [.int 0, .int x, .ref (adV j)]) (Nat.le_of_ble_eq_true rfl) (by decide +kernel) rfl ?_
  refine j_callS X (i := 637) (w := 926) (w' := 925) [.ref (adV j), .int x, .int 0, .int (nI (slen.getD j 0))] f_lix (Ph1 g (adV j) j) ⟨hE, o4⟩ (jm_lix d G hj (adV j) x) (by decide +kernel) (by decide +kernel) (by show _ = some 4; decide +kernel) (st := []) (Nat.le_of_ble_eq_true rfl) (by decide +kernel) rfl ?_
  refine j_goto X (off := 16) (tgt := 36) (by decide +kernel) (by decide) ?_
  exact j_ret X hr hl rfl G.2.2 (by decide +kernel)
theorem jm_ix1 (d : Nat) (G : GG g σ) (hj : j < 4) (x : Int32) : Ox g (d + 4) yJ0_indexOf_0f7a4 cJ0_indexOf_0f7a4 2 (some .int) [.ref (ga g (950 + j)), .int x] (Φ0 g) σ (some (ixo x (sbyt.getD j []) 0)) := by
  refine okx_of f_ix1 (by omega) (Ph0 g) [(0, .ref (ga g (950 + j))), (1, .int x)] rfl (Nat.le_of_ble_eq_true rfl) G ?_
  intro p e s m args below meth c X hr hl hE
  refine j_aload_n X (q := 0) (i := 0) (by decide +kernel) rfl List.mem_cons_self ?_
  refine j_iload_n X (q := 1) (i := 1) (x := x) (by decide +kernel) rfl (by simp) ?_
  refine j_iconst X (n := 0) (v := 0) (by decide +kernel) rfl ?_
  refine j_callV X (i := 633) (w := 921) (w' := 920) (w'' := 922) [.int x, .int 0] hj f_ix2 (jm_ix2 d G hj x) (by decide +kernel) (by decide +kernel) (by decide +kernel) (by show _ = some 2; decide +kernel) (st := []) (Nat.le_of_ble_eq_true rfl) (by decide +kernel) rfl ?_
  exact j_ret X hr hl rfl G.2.2 (by decide +kernel)
end JMS
theorem ok_J0_length_8abf5 (g : GP) (d : Nat) (σ : Sg) (c : Nat) : ∀ v σ', s_J0_length_8abf5 σ c = some (v, σ') → Ok g (d + 6) 260 [br 30 c] σ (some v) σ' := by
  intro v σ' h hA hL hv hS
  unfold s_J0_length_8abf5 at h
  obtain ⟨h1, h2⟩ := Prod.mk.inj (Option.some.inj h)
  rw [← h1, ← h2]
  obtain ⟨j, hj, rfl⟩ := kd_30 (hv _ List.mem_cons_self c rfl).1
  have eY : mY 260 = yJ0_length_8abf5 := rfl
  have eC : mC 260 = cJ0_length_8abf5 := rfl
  have eL : mL 260 = 1 := rfl
  have eR : mR 260 = some .int := rfl
  unfold mW
  rw [eY, eC, eL, eR]
  have := jm_len (d + 4) (σ := σ) ⟨hA, hL, hS⟩ hj
  have es : sLen (950 + j) = slen.getD j 0 := by unfold sLen; rw [Nat.add_sub_cancel_left]
  rw [es]
  exact this
theorem ok_J0_charAt_5068e (g : GP) (d : Nat) (σ : Sg) (c : Nat) (i : Int32) : ∀ v σ', s_J0_charAt_5068e σ c i = some (v, σ') → Ok g (d + 6) 261 [br 30 c, bi i] σ (some v) σ' := by
  intro v σ' h hA hL hv hS
  obtain ⟨j, hj, rfl⟩ := kd_30 (hv _ List.mem_cons_self c rfl).1
  have es : sLen (950 + j) = slen.getD j 0 := by unfold sLen; rw [Nat.add_sub_cancel_left]
  have eb : sByt (950 + j) = sbyt.getD j [] := by unfold sByt; rw [Nat.add_sub_cancel_left]
  unfold s_J0_charAt_5068e at h
  rw [es, eb] at h
  by_cases hi : inb i (slen.getD j 0) = true
  · rw [if_pos hi] at h
    obtain ⟨t, ht, rfl⟩ := inb_o hi (by have := (sl_8 j hj).1; omega)
    rw [show (nI t).toNatClampNeg = t from nI_clamp (by have := (sl_8 j hj).1; omega)] at h
    cases h
    have eY : mY 261 = yJ0_charAt_5068e := rfl
    have eC : mC 261 = cJ0_charAt_5068e := rfl
    have eL : mL 261 = 2 := rfl
    have eR : mR 261 = some .char := rfl
    unfold mW
    rw [eY, eC, eL, eR]
    have := jm_cha (d + 2) (σ := σ) ⟨hA, hL, hS⟩ hj ht
    exact this
  · rw [if_neg hi] at h; cases h
theorem ok_J0_indexOf_0f7a4 (g : GP) (d : Nat) (σ : Sg) (c : Nat) (x : Int32) : ∀ v σ', s_J0_indexOf_0f7a4 σ c x = some (v, σ') → Ok g (d + 6) 262 [br 30 c, bi x] σ (some v) σ' := by
  intro v σ' h hA hL hv hS
  unfold s_J0_indexOf_0f7a4 at h
  obtain ⟨h1, h2⟩ := Prod.mk.inj (Option.some.inj h)
  rw [← h1, ← h2]
  obtain ⟨j, hj, rfl⟩ := kd_30 (hv _ List.mem_cons_self c rfl).1
  have eb : sByt (950 + j) = sbyt.getD j [] := by unfold sByt; rw [Nat.add_sub_cancel_left]
  have eY : mY 262 = yJ0_indexOf_0f7a4 := rfl
  have eC : mC 262 = cJ0_indexOf_0f7a4 := rfl
  have eL : mL 262 = 2 := rfl
  have eR : mR 262 = some .int := rfl
  unfold mW
  rw [eY, eC, eL, eR, eb]
  have := jm_ix1 (d + 2) (σ := σ) ⟨hA, hL, hS⟩ hj x
  exact this
