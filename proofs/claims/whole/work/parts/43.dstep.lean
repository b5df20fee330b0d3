def FD (p : Program) (R : Room) (s : State) (m : MethodId) (args : Array Value) (meth : Method) (c : Code) (cA : Nat → ClassId) (D : va_G) (B0 : Nat) (cc : ByteArray) (nL ow n0 nM : Nat) : Prop :=
  p.tables.exec = Jvm.exec ∧ c.code = cc ∧ c.maxLocals = nL ∧ s.vm.findClass (cR ow) = some m.cls ∧ (∀ w ∈ TB, w.before args s = true) ∧ DK D cA s ∧ (ow = 12 ∨ meth.name = "<init>") ∧ B0 ≤ s.heap.size ∧ (1 ≤ R.frames ∧ 64 ≤ R.locals) ∧ ow < 13 ∧ (nM - n0 ≤ R.cells ∧ szs nM - szs n0 ≤ R.slots)
def WD (p : Program) (l : Launch) (e : Env) (R : Room) (s : State) (m : MethodId) (args : Array Value) (below : List Frame) (meth : Method) (c : Code) (Q : State → Prop) (cA : Nat → ClassId) (D : va_G) (B0 nL n0 : Nat) (ad0 : Nat → Nat) (q : DS) : Prop :=
  ∀ (ad : Nat → Nat) (H : Heap) (locs : List Loc) (ls : Array Slot), (∀ i, i < n0 ∨ 173 ≤ i → ad i = ad0 i) → lv_has ls nL (prs ad 0 q.2.1) → va_P D cl12 (wsd q.2.2.2.1 ad cA q.2.2.2.2.1 q.2.2.2.2.2) H → ADn ad B0 q.2.2.2.1 → va_S (fun x => B0 ≤ x) s.heap H locs → W p l e R s m args below meth c H locs (q.2.2.2.1 - n0) (szs q.2.2.2.1 - szs n0) Q (F0 m q.1 ls (q.2.2.1.map (cv ad)))
theorem szs_le : ∀ (k n : Nat), szs n ≤ szs (n + k) := by
  intro k
  induction k with
  | zero => intro n; exact Nat.le_refl _
  | succ k ih => intro n; exact Nat.le_trans (ih n) (by rw [← Nat.add_assoc]; show szs (n + k) ≤ szs (n + k) + szc (n + k); omega)
theorem szs_mono {a b : Nat} (h : a ≤ b) : szs a ≤ szs b := by
  have := szs_le (b - a) a
  rwa [Nat.add_sub_cancel' h] at this
theorem prs_ad {ad ad' : Nat → Nat} : ∀ (lo : LO) (i : Nat), (∀ v, some v ∈ lo → cv ad' v = cv ad v) → prs ad' i lo = prs ad i lo := by
  intro lo
  induction lo with
  | nil => intro i _; rfl
  | cons a r ih =>
    intro i h
    cases a with
    | none => exact ih (i + 1) (fun v hv => h v (List.mem_cons_of_mem _ hv))
    | some v =>
      simp only [prs]
      rw [h v List.mem_cons_self, ih (i + 1) (fun w hw => h w (List.mem_cons_of_mem _ hw))]
theorem cv_ad {ad ad' : Nat → Nat} {n : Nat} {v : AV} (h : ∀ i, i < n → ad' i = ad i) (hv : vokd n v) : cv ad' v = cv ad v := by
  obtain ⟨t, v⟩ := v
  cases v with
  | ref c => simp only [cv]; rw [h c (hv c rfl).2]
  | _ => rfl
section DST
variable {p : Program} {l : Launch} {e : Env} {R : Room} {s : State} {m : MethodId} {args : Array Value} {below : List Frame} {meth : Method} {c : Code} {Q : State → Prop} {cA : Nat → ClassId} {D : va_G} {B0 : Nat} {cc : ByteArray} {nL ow n0 nM : Nat} {ad0 : Nat → Nat}
variable {pc n : Nat} {lo : LO} {st : List AV} {σ : Sg} {ρ : Rh} {q' : DS}
theorem vokd_i {t : Nat} {x : Int32} : vokd n (t, .int x) := fun _ h => by cases h
theorem vokd_up {v : AV} (h : vokd n v) : vokd (n + 1) v := fun c hc => ⟨(h c hc).1, Nat.lt_succ_of_lt (h c hc).2⟩
theorem GDd.push {v : AV} {pc' : Nat} (h : GDd nL (pc, lo, st, n, σ, ρ)) (hv : vokd n v) : GDd nL (pc', lo, v :: st, n, σ, ρ) :=
  ⟨h.1, h.2.1, fun w hw => by rcases List.mem_cons.mp hw with rfl | h1; exact hv; exact h.2.2.1 w h1, h.2.2.2⟩
theorem GDd.tail {v : AV} (h : GDd nL (pc, lo, v :: st, n, σ, ρ)) : GDd nL (pc, lo, st, n, σ, ρ) :=
  ⟨h.1, h.2.1, fun w hw => h.2.2.1 w (List.mem_cons_of_mem _ hw), h.2.2.2⟩
theorem GDd.head {v : AV} (h : GDd nL (pc, lo, v :: st, n, σ, ρ)) : vokd n v := h.2.2.1 v List.mem_cons_self
theorem GDd.sto {v : AV} {i pc' : Nat} (h : GDd nL (pc, lo, st, n, σ, ρ)) (hv : vokd n v) : GDd nL (pc', lst lo i v, st, n, σ, ρ) :=
  ⟨by rw [← h.1]; exact lst_len, fun w hw => by rcases lst_mem hw with rfl | h1; exact Or.inl hv; exact h.2.1 w h1, h.2.2.1, h.2.2.2⟩
def OKd (p : Program) (l : Launch) (e : Env) (R : Room) (s : State) (m : MethodId) (args : Array Value) (below : List Frame) (meth : Method) (c : Code) (Q : State → Prop) (cA : Nat → ClassId) (D : va_G) (B0 nL n0 : Nat) (ad0 : Nat → Nat) (q q' : DS) : Prop :=
  GDd nL q' ∧ q.2.2.2.1 ≤ q'.2.2.2.1 ∧ (WD p l e R s m args below meth c Q cA D B0 nL n0 ad0 q' → WD p l e R s m args below meth c Q cA D B0 nL n0 ad0 q)
theorem dok_alloc {t N pc' : Nat} {r : List AV} {x : List Value} (hn0 : n0 ≤ n) (hg : GDd nL (pc, lo, r, n, σ, ρ)) (h : d_alloc t N pc' n lo r σ ρ = some q') (hM : q'.2.2.2.1 ≤ nM) (hR : nM - n0 ≤ R.cells ∧ szs nM - szs n0 ≤ R.slots)
    (row : ∀ (ad : Nat → Nat) (H : Heap) (locs : List Loc) (ls : Array Slot) (cells slots : Nat), va_P D cl12 (wsd n ad cA σ ρ) H → ADn ad B0 n → va_S (fun x => B0 ≤ x) s.heap H locs → kd n = t → szc n = N → n < 173 → cells + 1 ≤ R.cells → slots + N ≤ R.slots → (∀ (q : Nat) (H1 : Heap), va_P D cl12 (wsd n ad cA σ ρ ++ [(q, cexd ad cA (σ n) (ρ n) n)]) H1 → va_D (fun x => B0 ≤ x) (wsd n ad cA σ ρ ++ [(q, cexd ad cA (σ n) (ρ n) n)]) → va_S (fun x => B0 ≤ x) s.heap H1 locs → W p l e R s m args below meth c H1 locs (cells + 1) (slots + N) Q (F0 m pc' ls (.ref q :: r.map (cv ad)))) → W p l e R s m args below meth c H locs cells slots Q (F0 m pc ls (x ++ r.map (cv ad)))) :
    GDd nL q' ∧ n ≤ q'.2.2.2.1 ∧ (WD p l e R s m args below meth c Q cA D B0 nL n0 ad0 q' → ∀ (ad : Nat → Nat) (H : Heap) (locs : List Loc) (ls : Array Slot), (∀ i, i < n0 ∨ 173 ≤ i → ad i = ad0 i) → lv_has ls nL (prs ad 0 lo) → va_P D cl12 (wsd n ad cA σ ρ) H → ADn ad B0 n → va_S (fun x => B0 ≤ x) s.heap H locs → W p l e R s m args below meth c H locs (n - n0) (szs n - szs n0) Q (F0 m pc ls (x ++ r.map (cv ad)))) := by
  unfold d_alloc at h
  split at h
  · rename_i hc
    cases h
    simp only [Bool.and_eq_true] at hc
    have hlt : n < 173 := by simpa [Nat.blt_eq] using hc.1
    have hk := Nat.eq_of_beq_eq_true hc.2.1
    have hN := Nat.eq_of_beq_eq_true hc.2.2
    simp only at hM
    have hz : szs (n + 1) = szs n + N := by rw [← hN]; rfl
    have hzm := szs_mono hM
    have hzn := szs_mono hn0
    refine ⟨⟨hg.1, fun v hv => (hg.2.1 v hv).imp vokd_up id, fun v hv => ?_, fun c' k r' hr => ⟨Nat.lt_succ_of_lt (hg.2.2.2.1 c' k r' hr).1, Nat.lt_succ_of_lt (hg.2.2.2.1 c' k r' hr).2⟩, fun c' hc' k => hg.2.2.2.2.1 c' (Nat.le_of_succ_le hc') k, hlt⟩, Nat.le_succ n, fun k ad H locs ls ha h1 h2 h3 h4 => ?_⟩
    · rcases List.mem_cons.mp hv with rfl | h9
      · intro c' hc'
        cases hc'
        exact ⟨hk, Nat.lt_succ_self n⟩
      · exact vokd_up (hg.2.2.1 v h9)
    · refine row ad H locs ls _ _ h2 h3 h4 hk hN hlt (by omega) (by omega) (fun q H1 hP1 hD1 hS1 => ?_)
      have hA1 := h3.push hD1
      rw [wsd_push hg.2.2.2.1] at hP1
      have hag : ∀ i, i < n → (fun i => if i = n then q else ad i) i = ad i := fun i hi => if_neg (Nat.ne_of_lt hi)
      have hst : (r.map (cv (fun i => if i = n then q else ad i))) = r.map (cv ad) := List.map_congr_left (fun v hv => cv_ad hag (hg.2.2.1 v hv))
      have hlo : prs (fun i => if i = n then q else ad i) 0 lo = prs ad 0 lo := prs_ad lo 0 (fun v hv => by
        rcases hg.2.1 v hv with h9 | h9
        · exact cv_ad hag h9
        · subst h9
          show Value.ref (if 990 = n then q else ad 990) = Value.ref (ad 990)
          rw [if_neg (by omega)])
      have kk := k (fun i => if i = n then q else ad i) H1 locs ls (fun i hi => by
        show (if i = n then q else ad i) = ad0 i
        rw [if_neg (by omega)]; exact ha i hi) (by simp only; rw [hlo]; exact h1) hP1 hA1 hS1
      simp only [List.map_cons, hst] at kk
      have e1 : n - n0 + 1 = n + 1 - n0 := by omega
      have e2 : szs n - szs n0 + N = szs (n + 1) - szs n0 := by omega
      rw [e1, e2]
      have e3 : cv (fun i => if i = n then q else ad i) (t, .ref n) = .ref q := by simp [cv]
      rw [e3] at kk
      exact kk
  · cases h
end DST
