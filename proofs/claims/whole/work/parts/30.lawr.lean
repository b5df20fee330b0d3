def R_law : String := "ChipFloorLaw"
def lw_P (b : Addr) (xs : List Int32) (args : Array Value) (s : State) : Prop := args = #[.ref b] ∧ s.IntsAt b xs ∧ xs.length ≤ 3072 ∧ (Jvm.Cond.and given_1 narrow_1).before args s = true
def lw_Q (_ : Array Value) (s : State) (o : Outcome) (t : State) : Prop := o = .returned (some (.int 1)) ∧ Framed s o t [] 600000 7302250
def lw_Z (below : List Frame) (a : Array Value) (s : State) : State → Prop := fun t => ∃ o, t.status = .running ∧ Ended t below o ∧ lw_Q a s o t
/-- the law's own end, with 1 on the stack, nothing written that was there before, its room as the claim has it -/
theorem lw_ret {p : Program} {l : Launch} {e : Env} {s : State} {m : MethodId} {below : List Frame} {meth : Method} {c : Code} {b : Nat} (hx : p.tables.exec = Jvm.exec) (hb : c.code = code) (hr : meth.sig.returnType = ret) (hlocks : meth.locks = false) {pc : Nat} {H : Heap} {ls : Array Slot} (hdg : decode code pc = .ok (.ireturn, 1)) : W p l e room_1 s m #[Value.ref b] below meth c H [] 600000 7302250 (lw_Z below #[Value.ref b] s) (F0 m pc ls [.int 1]) := by
  intro T hT X
  obtain ⟨fs, hret, hrun, hended, hW, hframe⟩ := X.leave (v := some (.int 1)) (hlocks := hlocks) (fun h => by rw [hr] at h; cases h)
  have hmeth' : T.vm.method? m = some meth := X.method'
  refine ⟨T.setFrames fs, ?_, .returned (some (.int 1)), hrun, hended, rfl, ⟨_, rfl⟩, hW, hframe⟩
  jvm_step X.here [X.here.top, hx, hb, hdg, hmeth', hr, ret, narrow_b1]
  (try refine ⟨rfl, ?_⟩); (try refine ⟨rfl, ?_⟩)
  first | (intro acts; rw [hret _ acts rfl rfl rfl]) | rw [hret _ _ rfl rfl rfl]
  exact Steps.refl _
/-- what holds at the law's entry: the machine, the code, the tables' words (any of lw_tbl by 'hts w (by decide +kernel)'), the script of L ints xs at the cell b, what the Statement gives of the start (any of its parts by flat_of_before) -/
def lw_At (p : Program) (s : State) (m : MethodId) (meth : Method) (c : Code) (b L : Nat) (xs : Nat → Int32) : Prop :=
  p.tables.exec = Jvm.exec ∧ c.code = code ∧ meth.sig.returnType = ret ∧ c.maxLocals = 4 ∧ s.vm.findClass R_law = some m.cls ∧ (∀ w ∈ lw_tbl, w.before #[Value.ref b] s = true) ∧ va_X b L xs s s.heap ∧ b < s.heap.size ∧ meth.locks = false ∧ (Jvm.Cond.and given_1 narrow_1).before #[Value.ref b] s = true
abbrev CT : Type := Program × Env × State × MethodId × List Frame × Method × Code × Nat × Nat × Nat
def WL (g : GP) (t : CT) (q : AS) (o : RO) : Prop := match t with
  | (p, e, s, m, below, meth, c, nc, ns, b) => FX p room_1 s m #[Value.ref b] c nc ns (ga g) (gc g) (gD g) (gB g) (gL g) (gx g) code 4 12 → kok code kL_law → meth.sig.returnType = ret → meth.locks = false → gB g = s.heap.size → nc ≤ 600000 ∧ ns ≤ 7302250 → ∀ σ', o = some (1, σ') → GD 4 (gL g) (gx g) q → WT p (gl g) e room_1 s m #[Value.ref b] below meth c nc ns (lw_Z below #[Value.ref b] s) (ga g) (gc g) (gD g) (gB g) 4 q
section WLS
variable {g : GP} {t : CT} {q q1 q2 : AS} {o o1 o2 : RO}
theorem wl_run (n : Nat) (h : run (gL g) 12 kL_law n q = some q1) (k : WL g t q1 o) : WL g t q o := by
  obtain ⟨p, e, s, m, below, meth, c, nc, ns, b⟩ := t
  intro X hk h1 h2 h3 h4 σ' ho hg
  obtain ⟨g1, k1⟩ := run_ok (l := gl g) (e := e) (below := below) (meth := meth) (Q := lw_Z below #[Value.ref b] s) hk X n q q1 hg h
  exact k1 (k X hk h1 h2 h3 h4 σ' ho g1)
theorem wl_none : WL g t q none := by
  obtain ⟨p, e, s, m, below, meth, c, nc, ns, b⟩ := t
  intro X hk h1 h2 h3 h4 σ' ho hg
  cases ho
theorem wl_go (n : Nat) (h : run (gL g) 12 kL_law n q = some q1) (k : WL g t q1 o) : WL g t q o := wl_run n h k
theorem wl_cases (c : Prop) (h1 : c → WL g t q o) (h2 : ¬ c → WL g t q o) : WL g t q o := by
  by_cases hc : c
  · exact h1 hc
  · exact h2 hc
theorem wl_if {c : Prop} {dc : Decidable c} (n : Nat) (q1 q2 : AS) (h : run (gL g) 12 kL_law n q = @ite _ c dc (some q1) (some q2)) (k1 : c → WL g t q1 o1) (k2 : ¬ c → WL g t q2 o2) : WL g t q (@ite _ c dc o1 o2) := by
  by_cases hc : c
  · rw [if_pos hc] at h ⊢; exact wl_run n h (k1 hc)
  · rw [if_neg hc] at h ⊢; exact wl_run n h (k2 hc)
theorem wl_ck {c : Prop} {dc : Decidable c} (n : Nat) (q1 : AS) (h : run (gL g) 12 kL_law n q = @ite _ c dc (some q1) none) (k1 : c → WL g t q1 o1) : WL g t q (@ite _ c dc o1 none) := by
  by_cases hc : c
  · rw [if_pos hc] at h ⊢; exact wl_run n h (k1 hc)
  · rw [if_neg hc]; exact wl_none
theorem wl_lt {α : Type} {v : α} {b : α → RO} (n : Nat) (qf : α → AS) (h : run (gL g) 12 kL_law n q = some (qf v)) (k : ∀ y, WL g t (qf y) (b y)) : WL g t q (lt v b) := wl_run n h (k v)
def WQ (g : GP) (t : CT) (X : Option AS) (o : RO) : Prop := ∀ q', X = some q' → WL g t q' o
theorem wq_some (k : WL g t q o) : WQ g t (some q) o := fun q' h => by cases h; exact k
theorem wq_ite {c : Prop} {dc : Decidable c} {X1 X2 : Option AS} (k1 : c → WQ g t X1 o1) (k2 : ¬ c → WQ g t X2 o2) : WQ g t (@ite _ c dc X1 X2) (@ite _ c dc o1 o2) := by
  intro q' h
  by_cases hc : c
  · rw [if_pos hc] at h ⊢; exact k1 hc q' h
  · rw [if_neg hc] at h ⊢; exact k2 hc q' h
theorem wl_of {X : Option AS} (n : Nat) (h : run (gL g) 12 kL_law n q = X) (hX : ∃ q', X = some q') (k : WQ g t X o) : WL g t q o := by
  obtain ⟨q', hq⟩ := hX
  exact wl_run n (by rw [h, hq]) (k q' hq)
theorem hx_some : ∃ q', (some q : Option AS) = some q' := ⟨q, rfl⟩
theorem hx_ite {c : Prop} {dc : Decidable c} {X1 X2 : Option AS} (h1 : ∃ q', X1 = some q') (h2 : ∃ q', X2 = some q') : ∃ q', @ite _ c dc X1 X2 = some q' := by
  by_cases hc : c
  · rw [if_pos hc]; exact h1
  · rw [if_neg hc]; exact h2
theorem wl_dro {pc : Nat} {lo lo' : LO} {st : List AV} {σ : Sg} (h : dro lo lo') (k : WL g t (pc, lo', st, σ) o) : WL g t (pc, lo, st, σ) o := by
  obtain ⟨p, e, s, m, below, meth, c, nc, ns, b⟩ := t
  intro X hk h1 h2 h3 h4 σ' ho hg
  obtain ⟨d1, d2⟩ := dro_lg h
  have bb := k X hk h1 h2 h3 h4 σ' ho ⟨by rw [← hg.1]; exact d1.symm, fun v hv => by
    obtain ⟨i, hi⟩ := mem_lg hv
    exact hg.2.1 v (lg_mem (d2 i v hi)), hg.2.2.1, hg.2.2.2⟩
  refine fun H locs ls l1 l2 l3 => bb H locs ls ⟨l1.1, l1.2.1, fun z hz => ?_⟩ l2 l3
  obtain ⟨i, v, e1, e2⟩ := prs_lg hz
  rw [e1]
  exact l1.2.2 _ (prs_mem (d2 i v e2))
theorem wl_callV {d pc i mm tt a : Nat} {lo : LO} {st : List AV} {σ : Sg} {oc : RO} {f : Int32 → Sg → RO} (as rest : List AV) (hf : fetch kL_law pc = some (.invokevirtual i)) (hm : mr 12 i = some (0, mm)) (hst : st = as.reverse ++ (tt, .ref a) :: rest) (ht : tt = mO mm + 1 ∧ tt ≤ 12) (hn : as.length + 1 = (mA mm).length) (hr : rcat rest ≤ 8)
    (hO : ∀ v σ1, oc = some (v, σ1) → Ok g d mm ((tt, .ref a) :: as) σ (some v) σ1) (k : ∀ v σ1, WL g t (pc + 3, lo, bi v :: rest, σ1) (f v σ1)) (hd : d + 1 ≤ 1300 := by decide) : WL g t (pc, lo, st, σ) (bn oc f) := by
  cases oc with
  | none => exact wl_none
  | some z =>
    obtain ⟨p, e, s, m, below, meth, c, nc, ns, b⟩ := t
    intro X hk h1 h2 h3 h4 σ' ho hg
    exact wt_callV (g := g) (e := e) (below := below) (meth := meth) (Q := lw_Z below #[Value.ref b] s) (d := d) (r := some z.1) (σ1 := z.2) X hk hf hm hst ht.1 ht.2 hn hr ⟨by show d + 1 ≤ 2048; omega, by show 64 * (d + 1) ≤ 84000; omega⟩ hg (hO z.1 z.2 rfl) (fun g1 => k z.1 z.2 X hk h1 h2 h3 h4 σ' ho g1)
theorem wl_zret {pc tt : Nat} {lo : LO} {v : Int32} {σ : Sg} (hf : fetch kL_law pc = some .ireturn) : WL g t (pc, lo, [(tt, .int v)], σ) (some (v, σ)) := by
  obtain ⟨p, e, s, m, below, meth, c, nc, ns, b⟩ := t
  intro X hk h1 h2 h3 h4 σ' ho hg
  cases ho
  obtain ⟨len, hmem⟩ := fetch_mem hf
  obtain ⟨hd, hlen⟩ := hk _ hmem
  have hlen := eq_of_beq (show (len == il .ireturn) = true from hlen)
  subst hlen
  intro H locs ls l1 l2 l3
  refine va_forget (fun q hq => by rw [← h3]; exact l3.2.2 q hq) ?_
  refine W.widen (k := 600000) (n := 7302250) h4.1 h4.2 ?_
  exact lw_ret X.1 X.2.1 h1 h2 hd
end WLS
