-- a method by its number, owner, room for names, bytes, answer, code table
abbrev MI : Type := Nat × Nat × Nat × ByteArray × Option FieldType × List (Nat × Instr × Nat)
abbrev iN (I : MI) : Nat := I.1
abbrev iO (I : MI) : Nat := I.2.1
abbrev iL (I : MI) : Nat := I.2.2.1
abbrev iC (I : MI) : ByteArray := I.2.2.2.1
abbrev iR (I : MI) : Option FieldType := I.2.2.2.2.1
abbrev iK (I : MI) : List (Nat × Instr × Nat) := I.2.2.2.2.2
def MIok (I : MI) : Prop := iN I < 260 ∧ mO (iN I) = iO I ∧ mL (iN I) = iL I ∧ mC (iN I) = iC I ∧ mR (iN I) = iR I ∧ kok (iC I) (iK I) ∧ iO I < 17
def WC (g : GP) (I : MI) (d : Nat) (r : Option Int32) (σ' : Sg) (q : AS) : Prop :=
  ∀ (p : Program) (e : Env) (s : State) (m : MethodId) (args : Array Value) (below : List Frame) (meth : Method) (c : Code), FX p (rmD d) s m args c 0 0 (ga g) (gc g) (gD g) (gB g) (gL g) (gx g) (iC I) (iL I) (iO I) → meth.sig.returnType = iR I → meth.locks = false → GD (iL I) (gL g) (gx g) q →
    WT p (gl g) e (rmD d) s m args below meth c 0 0 (MQ below (OQ g r σ') args s 0 0 (fun q => gB g ≤ q)) (ga g) (gc g) (gD g) (gB g) (iL I) q
def WR (g : GP) (I : MI) (d : Nat) (q : AS) (o : Option (Option Int32 × Sg)) : Prop := MIok I → ∀ r σ', o = some (r, σ') → WC g I d r σ' q
section WCS
variable {g : GP} {I : MI} {d : Nat} {r : Option Int32} {σ' : Sg} {q q1 q2 : AS} {o o1 o2 : Option (Option Int32 × Sg)}
theorem wc_run (hI : MIok I) (n : Nat) (h : run (gL g) (iO I) (iK I) n q = some q1) (k : WC g I d r σ' q1) : WC g I d r σ' q := by
  intro p e s m args below meth c X hr hl hg
  obtain ⟨-, -, -, -, -, hk, -⟩ := hI
  obtain ⟨g1, k1⟩ := run_ok (l := gl g) (e := e) (below := below) (meth := meth) (Q := MQ below (OQ g r σ') args s 0 0 (fun q => gB g ≤ q)) hk X n q q1 hg h
  exact k1 (k p e s m args below meth c X hr hl g1)
theorem wr_go (n : Nat) (h : run (gL g) (iO I) (iK I) n q = some q1) (k : WR g I d q1 o) : WR g I d q o := fun hI r σ' ho => wc_run hI n h (k hI r σ' ho)
theorem wr_if {c : Prop} {dc : Decidable c} (n : Nat) (h : run (gL g) (iO I) (iK I) n q = @ite _ c dc (some q1) (some q2)) (k1 : c → WR g I d q1 o1) (k2 : ¬ c → WR g I d q2 o2) : WR g I d q (@ite _ c dc o1 o2) := by
  intro hI r σ' ho
  by_cases hc : c
  · rw [if_pos hc] at h ho
    exact wc_run hI n h (k1 hc hI r σ' ho)
  · rw [if_neg hc] at h ho
    exact wc_run hI n h (k2 hc hI r σ' ho)
theorem wr_ck {c : Prop} {dc : Decidable c} (n : Nat) (h : run (gL g) (iO I) (iK I) n q = @ite _ c dc (some q1) none) (k1 : c → WR g I d q1 o1) : WR g I d q (@ite _ c dc o1 none) := by
  intro hI r σ' ho
  by_cases hc : c
  · rw [if_pos hc] at h ho
    exact wc_run hI n h (k1 hc hI r σ' ho)
  · rw [if_neg hc] at ho; cases ho
theorem wr_nk {c : Prop} {dc : Decidable c} (n : Nat) (h : run (gL g) (iO I) (iK I) n q = @ite _ c dc none (some q1)) (k1 : ¬ c → WR g I d q1 o1) : WR g I d q (@ite _ c dc none o1) := by
  intro hI r σ' ho
  by_cases hc : c
  · rw [if_pos hc] at ho; cases ho
  · rw [if_neg hc] at h ho
    exact wc_run hI n h (k1 hc hI r σ' ho)
def dro (a b : LO) : Prop := match a, b with
  | [], [] => True
  | x :: a, y :: b => (y = none ∨ y = x) ∧ dro a b
  | _, _ => False
theorem dro_lg {a b : LO} (h : dro a b) : a.length = b.length ∧ ∀ i v, lg b i = some v → lg a i = some v := by
  induction a generalizing b with
  | nil =>
    cases b with
    | nil => exact ⟨rfl, fun _ _ h => h⟩
    | cons y b => simp [dro] at h
  | cons x a ih =>
    cases b with
    | nil => simp [dro] at h
    | cons y b =>
      simp only [dro] at h
      obtain ⟨h1, h2⟩ := h
      obtain ⟨i1, i2⟩ := ih h2
      refine ⟨by simp [i1], fun i v hv => ?_⟩
      cases i with
      | zero =>
        simp only [lg] at hv ⊢
        rcases h1 with rfl | rfl
        · cases hv
        · exact hv
      | succ n => simp only [lg] at hv ⊢; exact i2 n v hv
theorem mem_lg {l : LO} {v : AV} (h : some v ∈ l) : ∃ i, lg l i = some v := by
  induction l with
  | nil => cases h
  | cons a l ih =>
    rcases List.mem_cons.mp h with h | h
    · exact ⟨0, by simp [lg, h]⟩
    · obtain ⟨i, hi⟩ := ih h
      exact ⟨i + 1, by simpa [lg] using hi⟩
theorem wr_dro {pc : Nat} {lo lo' : LO} {st : List AV} {σ : Sg} (h : dro lo lo') (k : WR g I d (pc, lo', st, σ) o) : WR g I d (pc, lo, st, σ) o := by
  intro hI r σ' ho p e s m args below meth c X hr hl hg
  obtain ⟨h1, h2⟩ := dro_lg h
  have b := k hI r σ' ho p e s m args below meth c X hr hl ⟨by rw [← hg.1]; exact h1.symm, fun v hv => by
    obtain ⟨i, hi⟩ := mem_lg hv
    exact hg.2.1 v (lg_mem (h2 i v hi)), hg.2.2.1, hg.2.2.2⟩
  refine fun H locs ls l1 l2 l3 => b H locs ls ⟨l1.1, l1.2.1, fun z hz => ?_⟩ l2 l3
  obtain ⟨i, v, e1, e2⟩ := prs_lg hz
  rw [e1]
  exact l1.2.2 _ (prs_mem (h2 i v e2))
theorem wr_callV {pc i mm t a : Nat} {lo : LO} {st rest as : List AV} {σ : Sg} {oc : Option (Option Int32 × Sg)} {f : Option Int32 → Sg → Option (Option Int32 × Sg)} (hf : fetch (iK I) pc = some (.invokevirtual i)) (hm : mr (iO I) i = some (0, mm)) (hst : st = as.reverse ++ (t, .ref a) :: rest) (ht : t = mO mm + 1 ∧ t ≤ 12) (hn : as.length + 1 = (mA mm).length) (hr : rcat rest ≤ 8)
    (hO : ∀ r σ1, oc = some (r, σ1) → Ok g d mm ((t, .ref a) :: as) σ r σ1) (k : ∀ r σ1, oc = some (r, σ1) → WR g I (d + 1) (pc + 3, lo, rp r ++ rest, σ1) (f r σ1)) : WR g I (d + 1) (pc, lo, st, σ) (oc.bind (fun z => f z.1 z.2)) := by
  intro hI r σ' ho
  cases hoc : oc with
  | none => rw [hoc] at ho; cases ho
  | some z =>
    obtain ⟨r1, σ1⟩ := z
    rw [hoc] at ho
    intro p e s m args below meth c X hr' hl hg
    obtain ⟨-, -, -, -, -, hk, -⟩ := id hI
    have k1 := wt_callV (g := g) (e := e) (below := below) (meth := meth) (Q := MQ below (OQ g r σ') args s 0 0 (fun q => gB g ≤ q)) (d := d) (r := r1) (σ1 := σ1) X hk hf hm hst ht.1 ht.2 hn hr ⟨Nat.le_refl _, Nat.le_refl _⟩ hg (hO r1 σ1 hoc)
    exact k1 (fun g1 => k r1 σ1 hoc hI r σ' ho p e s m args below meth c X hr' hl g1)
theorem wr_callT {pc i mm a : Nat} {lo : LO} {st rest as : List AV} {σ : Sg} {oc : Option (Option Int32 × Sg)} {f : Option Int32 → Sg → Option (Option Int32 × Sg)} (hf : fetch (iK I) pc = some (.invokevirtual i)) (hm : mr (iO I) i = some (0, mm)) (hst : st = as.reverse ++ (30, .ref a) :: rest) (ht : mO mm = 13) (hn : as.length + 1 = (mA mm).length) (hr : rcat rest ≤ 8)
    (hO : ∀ r σ1, oc = some (r, σ1) → Ok g d mm ((30, .ref a) :: as) σ r σ1) (k : ∀ r σ1, oc = some (r, σ1) → WR g I (d + 1) (pc + 3, lo, rp r ++ rest, σ1) (f r σ1)) : WR g I (d + 1) (pc, lo, st, σ) (oc.bind (fun z => f z.1 z.2)) := by
  intro hI r σ' ho
  cases hoc : oc with
  | none => rw [hoc] at ho; cases ho
  | some z =>
    obtain ⟨r1, σ1⟩ := z
    rw [hoc] at ho
    intro p e s m args below meth c X hr' hl hg
    obtain ⟨-, -, -, -, -, hk, -⟩ := id hI
    have k1 := wt_callT (g := g) (e := e) (below := below) (meth := meth) (Q := MQ below (OQ g r σ') args s 0 0 (fun q => gB g ≤ q)) (d := d) (r := r1) (σ1 := σ1) X hk hf hm hst ht hn hr ⟨Nat.le_refl _, Nat.le_refl _⟩ hg (hO r1 σ1 hoc)
    exact k1 (fun g1 => k r1 σ1 hoc hI r σ' ho p e s m args below meth c X hr' hl g1)
theorem wr_callS {pc i mm kk : Nat} {lo : LO} {st rest as : List AV} {σ : Sg} {oc : Option (Option Int32 × Sg)} {f : Option Int32 → Sg → Option (Option Int32 × Sg)} (hf : fetch (iK I) pc = some (.invokestatic i)) (hm : mr (iO I) i = some (kk, mm)) (hkk : kk = 1 ∨ kk = 2) (hst : st = as.reverse ++ rest) (hn : as.length = (mA mm).length) (hr : rcat rest ≤ 8)
    (hO : ∀ r σ1, oc = some (r, σ1) → Ok g d mm as σ r σ1) (k : ∀ r σ1, oc = some (r, σ1) → WR g I (d + 1) (pc + 3, lo, rp r ++ rest, σ1) (f r σ1)) : WR g I (d + 1) (pc, lo, st, σ) (oc.bind (fun z => f z.1 z.2)) := by
  intro hI r σ' ho
  cases hoc : oc with
  | none => rw [hoc] at ho; cases ho
  | some z =>
    obtain ⟨r1, σ1⟩ := z
    rw [hoc] at ho
    intro p e s m args below meth c X hr' hl hg
    obtain ⟨-, -, -, -, -, hk, -⟩ := id hI
    have k1 := wt_callS (g := g) (e := e) (below := below) (meth := meth) (Q := MQ below (OQ g r σ') args s 0 0 (fun q => gB g ≤ q)) (d := d) (r := r1) (σ1 := σ1) X hk hf hm hkk hst hn hr ⟨Nat.le_refl _, Nat.le_refl _⟩ hg (hO r1 σ1 hoc)
    exact k1 (fun g1 => k r1 σ1 hoc hI r σ' ho p e s m args below meth c X hr' hl g1)
theorem wr_iret {pc : Nat} {lo : LO} {t : Nat} {v : Int32} {σ : Sg} {ty : FieldType} (hf : fetch (iK I) pc = some .ireturn) (hty : iR I = some ty) (hn : narrow ty (.int v) = .int v) : WR g I d (pc, lo, [(t, .int v)], σ) (some (some v, σ)) := by
  intro hI r σ' ho p e s m args below meth c X hr hl hg
  cases ho
  obtain ⟨-, -, -, -, -, hk, -⟩ := hI
  obtain ⟨len, hmem⟩ := fetch_mem hf
  obtain ⟨hd, hlen⟩ := hk _ hmem
  have hlen := eq_of_beq (show (len == il .ireturn) = true from hlen)
  subst hlen
  refine fun H locs ls h1 h2 h3 => ?_
  exact W.zret X.1 X.2.1 (by rw [hr, hty]) hn (fun t ht hW => ⟨rfl, hg.2.2.2, by rw [ht]; exact h2, h3.F ht⟩) h3.2.2 hd hl
theorem wr_vret {pc : Nat} {lo : LO} {σ : Sg} (hf : fetch (iK I) pc = some .return_) (hty : iR I = none) : WR g I d (pc, lo, [], σ) (some (none, σ)) := by
  intro hI r σ' ho p e s m args below meth c X hr hl hg
  cases ho
  obtain ⟨-, -, -, -, -, hk, -⟩ := hI
  obtain ⟨len, hmem⟩ := fetch_mem hf
  obtain ⟨hd, hlen⟩ := hk _ hmem
  have hlen := eq_of_beq (show (len == il .return_) = true from hlen)
  subst hlen
  refine fun H locs ls h1 h2 h3 => ?_
  exact W.vret X.1 X.2.1 (by rw [hr, hty]) (fun t ht hW => ⟨rfl, hg.2.2.2, by rw [ht]; exact h2, h3.F ht⟩) h3.2.2 hd hl
end WCS
def lent (as : List AV) : LO := match as with
  | [] => []
  | v :: r => if v.2.category = 2 then some v :: none :: lent r else some v :: lent r
def ent (n : Nat) (as : List AV) : LO := lent as ++ List.replicate (n - (lent as).length) none
theorem cv_cat {ad : Nat → Nat} {v : AV} : (cv ad v).category = v.2.category := by
  obtain ⟨t, v⟩ := v
  cases v <;> rfl
theorem lent_args {ad : Nat → Nat} (k : Nat) : ∀ (as : List AV) (i : Nat), prs ad i (lent as ++ List.replicate k none) = lv_args i (as.map (cv ad)) := by
  intro as
  induction as with
  | nil =>
    intro i
    simp only [lent, List.nil_append, List.map_nil, lv_args]
    induction k generalizing i with
    | zero => rfl
    | succ k ih => simp only [List.replicate_succ, prs]; exact ih (i + 1)
  | cons v r ih =>
    intro i
    simp only [lent, List.map_cons, lv_args, cv_cat]
    split
    · simp only [List.cons_append, prs, ih]
    · simp only [List.cons_append, prs, ih]
theorem lent_len {ad : Nat → Nat} : ∀ as : List AV, (lg_sl (as.map (cv ad))).length = (lent as).length := by
  intro as
  induction as with
  | nil => rfl
  | cons v r ih =>
    simp only [lg_sl, List.map_cons, List.flatMap_cons, List.length_append, cv_cat, lent] at ih ⊢
    split
    · simp only [List.length_cons, List.length_nil]; omega
    · simp only [List.length_cons, List.length_nil]; omega
theorem lent_mem {as : List AV} {v : AV} (h : some v ∈ lent as) : v ∈ as := by
  induction as with
  | nil => cases h
  | cons w r ih =>
    simp only [lent] at h
    split at h
    · simp only [List.mem_cons, Option.some.injEq, reduceCtorEq, false_or] at h
      rcases h with h | h
      · rw [h]; exact List.mem_cons_self
      · exact List.mem_cons_of_mem _ (ih h)
    · simp only [List.mem_cons, Option.some.injEq] at h
      rcases h with h | h
      · rw [h]; exact List.mem_cons_self
      · exact List.mem_cons_of_mem _ (ih h)
theorem ent_mem {n : Nat} {as : List AV} {v : AV} (h : some v ∈ ent n as) : v ∈ as := by
  unfold ent at h
  rcases List.mem_append.mp h with h | h
  · exact lent_mem h
  · have := List.eq_of_mem_replicate h
    cases this
set_option maxHeartbeats 2000000 in
theorem ok_of {g : GP} {I : MI} {d : Nat} {as : List AV} {σ : Sg} {o : Option (Option Int32 × Sg)} (hI : MIok I) (hd : 1 ≤ d) (hlen : (lent as).length ≤ iL I) (k : WR g I d (0, ent (iL I) as, [], σ) o) : ∀ r σ', o = some (r, σ') → Ok g d (iN I) as σ r σ' := by
  intro r σ' ho hA hL hv hS
  have kk := k hI r σ' ho
  obtain ⟨hlt, hO, hmL, hmC, hmR, hk, how⟩ := id hI
  have hgd : GD (iL I) (gL g) (gx g) (0, ent (iL I) as, [], σ) := by
    refine ⟨?_, fun v hv' => hv v (ent_mem hv'), fun v hv' => absurd hv' List.not_mem_nil, hS⟩
    simp only [ent, List.length_append, List.length_replicate]; omega
  have hmt := mt_init (iN I) (by omega)
  have body : ∀ p e s m args below meth c s₁, BodyLoose p (gl g) (mY (iN I)) (headSpec (mW (iN I)) (rmD d)) (mC (iN I)) (mL (iN I)) (mR (iN I)) e s m args below meth c s₁ → c.maxLocals = mL (iN I) → OP g as σ args s → W p (gl g) e (headSpec (mW (iN I)) (rmD d)).room s m args below meth c s.heap [] 0 0 (MQ below (OQ g r σ') args s 0 0 (fun q => gB g ≤ q)) (entryFrame m args (mL (iN I))) := by
    intro p e s m args below meth c s₁ B hml hvp
    obtain ⟨rfl, hP, hK, hE⟩ := hvp
    have hts := atoms_spec (ws := mW (iN I)) B.pre
    have hown : s.vm.findClass (cR (iO I)) = some m.cls := by
      rw [← hO, ← hmt.2.1]; exact findClass_of_methodNamed B.named
    have X : FX p (rmD d) s m (as.map (cv (ga g))).toArray c 0 0 (ga g) (gc g) (gD g) (gB g) (gL g) (gx g) (iC I) (iL I) (iO I) := ⟨B.exec, by rw [← hmC]; exact B.bytes, by rw [hml, hmL], hown, fun w hw => hts w (List.mem_cons_of_mem _ hw), hK, hE, hA, ⟨hd, by show 64 ≤ 64 * d; omega⟩, Nat.zero_le _, Nat.zero_le _, how, hL⟩
    have b := kk p e s m _ below meth c X (by rw [← hmR]; exact B.returns) B.notSynchronized hgd
    rw [lg_entry_eq]
    have hl := lv_entry (as.map (cv (ga g))) (n := mL (iN I)) (by rw [lent_len, hmL]; exact hlen)
    rw [← lent_args (ad := ga g) (iL I - (lent as).length) as 0] at hl
    rw [hmL] at hl ⊢
    exact b s.heap [] _ hl hP va_S.rf
  refine Met.ofW (cc := mC (iN I)) (maxL := mL (iN I)) (ret := mR (iN I)) (mt_plain (iN I) (by omega)) rfl ?_
  intro p e s m args below meth c s₁ B hml hvp
  exact body p e s m args below meth c s₁ B hml hvp
