section q3
variable {σ : Sg}
theorem price0 {A : Nat → Int32} (hw : WF A) (h0 : nB A = 0) : priceA A = 0 := by
  have w : WW A = 0 := by unfold WW PLA; rw [h0]; rfl
  have hh : HH A = 0 := by unfold HH PLA; rw [h0]; rfl
  have wi : wiresA A = 0 := by
    unfold wiresA
    refine itr_inv0 (fun _ s => s = (0 : Int32)) rfl ?_
    intro j s _ e
    have : wireA A j = 0 := by unfold wireA; rw [h0]; rfl
    show s + wireA A j = 0
    rw [e, this]; rfl
  have ot : mx 0 (0 - A 9) = 0 := by
    obtain ⟨f, hf, e⟩ := hw.2.2.2.2.2.2.2.2
    rw [e]
    by_cases c : f = 0
    · subst c; decide
    · have := pk_sneg (a := 0) (b := f) (by omega) (by omega)
      unfold mx
      have z : (0 : Int32) - nI f = nI 0 - nI f := rfl
      rw [z, if_neg (fun h => absurd (Int32.lt_trans h this) (by decide))]
  unfold priceA
  rw [w, hh, wi, ot]
  simp
theorem sr_0 {A : Nat → Int32} (hw : WF A) (h0 : nB A = 0) : (srA A).1 = 0 := by
  have e : rwA A 0 0 = A := by
    funext j; unfold rwA; rw [h0, if_neg (by omega), if_neg (by omega)]
  unfold srA srI
  rw [h0]
  show (sr1 A 0 (2147483647, 0, 0) 0).1 = 0
  rw [sr1_n (by rw [e, price0 hw h0]; decide), e]
  exact price0 hw h0
theorem call_bound (h : InvR σ σ) (x : Int32) : Call σ (s_X10_bound σ x) (fun τ => s_X11_bound τ x) := by
  have hw := h.w
  have hF := h.f
  have n8 := hw.n8
  have hO : OT σ := h.2.2.2.2.2.2.2.2.2.1
  have e0 : (nI (nB (σ 151)) = 0) = (nB (σ 151) = 0) := ieq (b := 0) (by omega) (by omega)
  have e4 : (nI (nB (σ 151)) ≤ 4) = (nB (σ 151) ≤ 4) := propext (nI_leI (b := 4) (by omega) (by omega))
  by_cases c : win x 0 3
  · obtain ⟨k, hk, rfl⟩ := win_n (n := 3) (by omega) rfl c
    have : k = 0 ∨ k = 1 ∨ k = 2 ∨ k = 3 := by omega
    rcases this with rfl | rfl | rfl | rfl
    · refine call_q h (mx (roomsA (σ 151) 0) (roomsA (σ 151) 1)) (bad_c _ _ ?_) (fun τ q => bad_m _ _ ?_)
      · unfold s_X10_bound
        simp only [tI0, ↓reduceIte, x1_roomsOn fl2 hw hF, bn_some, lt_e, mx]
      · have hA : τ 151 = σ 151 := q.m (by omega)
        unfold s_X11_bound s_X11_bound_33
        simp +decide only [isIn_0_3, wI_1 c, bn_some, n10, ↓reduceIte, hA, hw.n, e0, m_roomOn hw hA, most_e]
        by_cases z : nB (σ 151) = 0
        · rw [if_pos z]; unfold roomsA; rw [z]; rfl
        · rw [if_neg z]
    · refine call_q h (glwA (σ 151)) (bad_c _ _ ?_) (fun τ q => bad_m _ _ ?_)
      · unfold s_X10_bound
        simp +decide only [tI1, ↓reduceIte, x1_glw fl2 hw hF, bn_some]
      · have hA : τ 151 = σ 151 := q.m (by omega)
        unfold s_X11_bound s_X11_bound_33
        simp +decide only [isIn_0_3, wI_1 c, bn_some, n10, ↓reduceIte, hA, hw.n, e0, m_leastOf hw hA 1 (.inr rfl)]
        by_cases z : nB (σ 151) = 0
        · rw [if_pos z]; unfold glwA; rw [z]; rfl
        · rw [if_neg z]
    · refine call_q h (glhA (σ 151)) (bad_c _ _ ?_) (fun τ q => bad_m _ _ ?_)
      · unfold s_X10_bound
        simp +decide only [tI2, ↓reduceIte, x1_glh fl2 hw hF, bn_some]
      · have hA : τ 151 = σ 151 := q.m (by omega)
        unfold s_X11_bound s_X11_bound_33
        simp +decide only [isIn_0_3, wI_1 c, bn_some, n10, ↓reduceIte, hA, hw.n, e0, m_leastOf hw hA 0 (.inl rfl)]
        by_cases z : nB (σ 151) = 0
        · rw [if_pos z]; unfold glhA; rw [z]; rfl
        · rw [if_neg z]
    · by_cases z4 : nB (σ 151) ≤ 4
      · refine call_q h (srA (σ 151)).1 ?_ (fun τ q => ?_)
        · unfold s_X10_bound
          simp +decide only [tI3, ↓reduceIte, hF.1.n, hw.n, e4, z4]
          refine gv_n (x4_least hw z4 hO fl2 (by omega) hF) ?_
          intro r τ ⟨a, _, b⟩
          exact gv_i ⟨a, CQ_s b⟩
        · have hA : τ 151 = σ 151 := q.m (by omega)
          unfold s_X11_bound s_X11_bound_33
          simp +decide only [isIn_0_3, wI_1 c, bn_some, n10, ↓reduceIte, hA, hw.n, e0, e4, z4]
          by_cases z : nB (σ 151) = 0
          · rw [if_pos z, sr_0 hw z]; exact gv_i ⟨rfl, FS.r τ⟩
          · rw [if_neg z]
            refine gv_n (m_least hw hA (by omega) z4) ?_
            intro r ρ ⟨a, f⟩
            refine gv_i ⟨?_, f⟩
            rcases a with ⟨a, _⟩ | ⟨a, _⟩
            · have := (sr_f hw z4).1
              rw [a] at this
              obtain ⟨t, ht, et⟩ := this
              have := (nI_eq (a := 2147483647) (by omega) (by omega)).mp et
              omega
            · exact a.symm
      · refine call_q h (-1000000004) (bad_c _ _ ?_) (fun τ q => bad_m _ _ ?_)
        · unfold s_X10_bound
          simp +decide only [tI3, ↓reduceIte, hF.1.n, hw.n, e4, z4]
        · have hA : τ 151 = σ 151 := q.m (by omega)
          unfold s_X11_bound
          simp +decide only [isIn_0_3, wI_1 c, bn_some, n10, ↓reduceIte, hA, hw.n, e4, z4]
  · refine call_q h (-1000000001) (bad_c _ _ ?_) (fun τ q => bad_m _ _ ?_)
    · have ht := win_t (n := 3) (by omega) rfl c
      unfold s_X10_bound
      simp only [show ¬ x.toInt = 0 by omega, show ¬ x.toInt = 1 by omega, show ¬ x.toInt = 2 by omega, show ¬ x.toInt = 3 by omega, ↓reduceIte]
    · unfold s_X11_bound
      simp only [isIn_0_3, wI_0 c, bn_some, ↓reduceIte]
theorem call_best (h : InvR σ σ) (x y : Int32) : Call σ (s_X10_best σ x y) (fun τ => s_X11_best τ x y) := by
  have hw := h.w
  have hF := h.f
  have n8 := hw.n8
  have hO : OT σ := h.2.2.2.2.2.2.2.2.2.1
  have e4 : (nI (nB (σ 151)) ≤ 4) = (nB (σ 151) ≤ 4) := propext (nI_leI (b := 4) (by omega) (by omega))
  by_cases c1 : win x 0 1
  · obtain ⟨k, hk, rfl⟩ := win_n (n := 1) (by omega) rfl c1
    by_cases z4 : nB (σ 151) ≤ 4
    · by_cases c : inb y (nB (σ 151)) = true
      · obtain ⟨i, hi, rfl⟩ := inb_of c (by omega)
        obtain ⟨fs1, fs2, fs3⟩ := sr_f hw z4
        have nM : ¬ (srA (σ 151)).1 = 2147483647 := fun a => by
          obtain ⟨t, ht, et⟩ := fs1
          rw [a] at et
          have := (nI_eq (a := 2147483647) (by omega) (by omega)).mp et
          omega
        refine call_q h (nI (dgt (nB (σ 151)) (if k = 0 then (srA (σ 151)).2.1 else (srA (σ 151)).2.2) i)) ?_ (fun τ q => ?_)
        · unfold s_X10_best
          simp (disch := omega) only [within_e, wI_1 c1, bn_some, n10, ↓reduceIte, hF.1.n, hw.n, e4, z4, has_c hw hF.1.n, c]
          refine gv_n (x4_least hw z4 hO fl2 (by omega) hF) ?_
          intro r τ ⟨_, a, b⟩
          have hd := (a.resolve_left nM) i hi
          simp (disch := omega) only [inb_n, cl_nI, ↓reduceIte, hd.1, hd.2]
          have : k = 0 ∨ k = 1 := by omega
          rcases this with rfl | rfl
          · simp +decide only [↓reduceIte]; exact gv_i ⟨rfl, CQ_s b⟩
          · simp +decide only [↓reduceIte]; exact gv_i ⟨rfl, CQ_s b⟩
        · have hA : τ 151 = σ 151 := q.m (by omega)
          unfold s_X11_best
          simp (disch := omega) only [isIn_0_1, wI_1 c1, bn_some, n10, ↓reduceIte, hA, hw.n, e4, z4, isBlk_e hw hA, c]
          refine gv_n (m_least hw hA (by omega) z4) ?_
          intro r ρ ⟨a, f⟩
          rcases a with ⟨a, _⟩ | ⟨_, _, a1, a2⟩
          · exact absurd a nM
          · rw [lt_e]
            have rn : ρ 151 0 = nI (nB (σ 151)) := by rw [f.s, hA, hw.n]
            have fin : ∀ e, e ∈ pm (nB (σ 151)) → Gv (s_X11_best_65 ρ (nI i) (nI (nB (σ 151))) (nI e)) (fun r κ => r = nI (dgt (nB (σ 151)) e i) ∧ FS τ κ) := by
              intro e he
              have eb := pm_b (by omega) z4 e he
              have pl := pw_le (n := nB (σ 151)) (by omega) z4
              have ps : 1 ≤ nB (σ 151) ^ (nB (σ 151) - 1 - i) := Nat.pow_pos (by omega)
              have pb : nB (σ 151) ^ (nB (σ 151) - 1 - i) ≤ nB (σ 151) ^ nB (σ 151) := Nat.pow_le_pow_right (by omega) (by omega)
              have es : nI (nB (σ 151)) - 1 - nI i = nI (nB (σ 151) - 1 - i) := by rw [predI (by omega), pk_sub (by omega)]
              unfold s_X11_best_65
              rw [es, times_e ρ (by omega), bn_some, if_neg (nI_ne0 (by omega) (by omega)), if_neg (nI_ne0 (by omega) (by omega)), pk_div (by omega) (by omega) (by omega), pk_rem (by have := Nat.div_le_self e (nB (σ 151) ^ (nB (σ 151) - 1 - i)); omega) (by omega) (by omega)]
              exact gv_i ⟨rfl, f⟩
            rw [rn, a1, a2]
            have : k = 0 ∨ k = 1 := by omega
            rcases this with rfl | rfl
            · simp +decide only [↓reduceIte]; exact fin _ fs2
            · simp +decide only [↓reduceIte]; exact fin _ fs3
      · refine call_q h (-1000000001) (bad_c _ _ ?_) (fun τ q => bad_m _ _ ?_)
        · unfold s_X10_best
          simp only [within_e, wI_1 c1, bn_some, n10, ↓reduceIte, hF.1.n, hw.n, e4, z4, has_c hw hF.1.n, c, Bool.false_eq_true]
        · have hA : τ 151 = σ 151 := q.m (by omega)
          unfold s_X11_best
          simp only [isIn_0_1, wI_1 c1, bn_some, n10, ↓reduceIte, hA, hw.n, e4, z4, isBlk_e hw hA, c, Bool.false_eq_true]
    · refine call_q h (-1000000004) (bad_c _ _ ?_) (fun τ q => bad_m _ _ ?_)
      · unfold s_X10_best
        simp only [within_e, wI_1 c1, bn_some, n10, ↓reduceIte, hF.1.n, hw.n, e4, z4]
      · have hA : τ 151 = σ 151 := q.m (by omega)
        unfold s_X11_best
        simp only [isIn_0_1, wI_1 c1, bn_some, n10, ↓reduceIte, hA, hw.n, e4, z4]
  · refine call_q h (-1000000001) (bad_c _ _ ?_) (fun τ q => bad_m _ _ ?_)
    · unfold s_X10_best
      simp only [within_e, wI_0 c1, bn_some, ↓reduceIte]
    · unfold s_X11_best
      simp only [isIn_0_1, wI_0 c1, bn_some, ↓reduceIte]
/- kept layings -/
def btP (A : Nat → Int32) (i j : Nat) : Prop := (¬ A (110 + 3 * j) < A (110 + 3 * i) ∧ ¬ A (110 + 3 * j + 1) < A (110 + 3 * i + 1) ∧ ¬ A (110 + 3 * j + 2) < A (110 + 3 * i + 2)) ∧ (A (110 + 3 * i) < A (110 + 3 * j) ∨ A (110 + 3 * i + 1) < A (110 + 3 * j + 1) ∨ A (110 + 3 * i + 2) < A (110 + 3 * j + 2))
theorem btD (A : Nat → Int32) (i j : Nat) : btP A i j ∨ ¬ btP A i j := Classical.em _
noncomputable def btI (A : Nat → Int32) (i j : Nat) : Int32 := @ite _ (btP A i j) (Classical.propDecidable _) 1 0
noncomputable def bzK (A : Nat → Int32) (j k : Nat) : Int32 := itr (fun i v => if v = 0 then btI A i j else 1) k 0 0
theorem bzK_s (A : Nat → Int32) (j k : Nat) : bzK A j (k + 1) = if bzK A j k = 0 then btI A k j else 1 := itr_0 _ _ _
theorem btI_1 {A : Nat → Int32} {i j : Nat} (h : btP A i j) : btI A i j = 1 := by unfold btI; exact if_pos h
theorem btI_0 {A : Nat → Int32} {i j : Nat} (h : ¬ btP A i j) : btI A i j = 0 := by unfold btI; exact if_neg h
theorem btI_b (A : Nat → Int32) (i j : Nat) : btI A i j = 0 ∨ btI A i j = 1 := by
  rcases btD A i j with h | h
  · exact .inr (btI_1 h)
  · exact .inl (btI_0 h)
theorem bzK_b (A : Nat → Int32) (j : Nat) : ∀ k, bzK A j k = 0 ∨ bzK A j k = 1 := by
  intro k
  induction k with
  | zero => exact .inl rfl
  | succ k ih =>
    rw [bzK_s]
    split
    · exact btI_b A k j
    · exact .inr rfl
theorem bzK_m (A : Nat → Int32) (j k : Nat) (h : bzK A j k = 1) : ∀ d, bzK A j (k + d) = 1 := by
  intro d
  induction d with
  | zero => exact h
  | succ d ih => rw [← Nat.add_assoc, bzK_s, ih, if_neg n10]
theorem x2_beats {A : Nat → Int32} (h : RK σ 21 A) (n8 : nK A ≤ 8) {i j : Nat} (hi : i < nK A) (hj : j < nK A) : s_X2_beats σ 21 (nI i) (nI j) = some (btI A i j, σ) := by
  obtain ⟨ai, bi, ci⟩ := h.2 i hi
  obtain ⟨aj, bj, cj⟩ := h.2 j hj
  have r0 : rt 21 0 = 22 := rfl
  have r1 : rt 21 1 = 23 := rfl
  have r2 : rt 21 2 = 24 := rfl
  have l0 : aln 0 22 = 8 := rfl
  have l1 : aln 0 23 = 8 := rfl
  have l2 : aln 0 24 = 8 := rfl
  unfold s_X2_beats s_X2_beats_50 s_X2_beats_101
  have ai : σ 22 i = A (110 + 3 * i) := ai
  have bi : σ 23 i = A (110 + 3 * i + 1) := bi
  have ci : σ 24 i = A (110 + 3 * i + 2) := ci
  have aj : σ 22 j = A (110 + 3 * j) := aj
  have bj : σ 23 j = A (110 + 3 * j + 1) := bj
  have cj : σ 24 j = A (110 + 3 * j + 2) := cj
  simp (disch := omega) only [r0, r1, r2, l0, l1, l2, inb_n, cl_nI, ↓reduceIte, ai, bi, ci, aj, bj, cj, n10]
  by_cases p1 : A (110 + 3 * j) < A (110 + 3 * i)
  · rw [btI_0 (fun x => x.1.1 p1)]; simp only [p1, ↓reduceIte, ite_self]
  · by_cases p2 : A (110 + 3 * j + 1) < A (110 + 3 * i + 1)
    · rw [btI_0 (fun x => x.1.2.1 p2)]; simp only [p1, p2, ↓reduceIte, ite_self]
    · by_cases p3 : A (110 + 3 * j + 2) < A (110 + 3 * i + 2)
      · rw [btI_0 (fun x => x.1.2.2 p3)]; simp only [p1, p2, p3, ↓reduceIte, ite_self]
      · by_cases q1 : A (110 + 3 * i) < A (110 + 3 * j)
        · rw [btI_1 ⟨⟨p1, p2, p3⟩, .inl q1⟩]; simp only [p1, p2, p3, q1, ↓reduceIte]
        · by_cases q2 : A (110 + 3 * i + 1) < A (110 + 3 * j + 1)
          · rw [btI_1 ⟨⟨p1, p2, p3⟩, .inr (.inl q2)⟩]; simp only [p1, p2, p3, q1, q2, ↓reduceIte]
          · by_cases q3 : A (110 + 3 * j + 2) ≤ A (110 + 3 * i + 2)
            · rw [btI_0 (fun x => x.2.elim q1 (fun x => x.elim q2 (fun x => absurd x (lt_le.mpr q3))))]; simp only [p1, p2, p3, q1, q2, q3, ↓reduceIte]
            · rw [btI_1 ⟨⟨p1, p2, p3⟩, .inr (.inr (le_lt.mp q3))⟩]; simp only [p1, p2, p3, q1, q2, q3, ↓reduceIte]
theorem x2_isBeaten {A : Nat → Int32} (h : RK σ 21 A) (hk : WKp A) {j : Nat} (hj : j < nK A) : s_X2_isBeaten σ 21 (nI j) = some (bzK A j (nK A), σ) := by
  have n8 := hk.2
  have hn : σ 21 3 = nI (nK A) := h.1.trans hk.1
  have key : ∀ d i m, i + d = nK A → d < m → bzK A j i = 0 → s_X2_isBeaten_2 m σ 21 (nI j) (nI i) = some (bzK A j (nK A), σ) := by
    intro d
    induction d with
    | zero =>
      intro i m hi hm hz
      obtain ⟨m', rfl⟩ : ∃ m', m = m' + 1 := ⟨m - 1, by omega⟩
      have : i = nK A := by omega
      subst this
      simp only [s_X2_isBeaten_2]
      simp (disch := omega) only [hn, le_T, ↓reduceIte, hz]
    | succ d ih =>
      intro i m hi hm hz
      obtain ⟨m', rfl⟩ : ∃ m', m = m' + 1 := ⟨m - 1, by omega⟩
      have hs := bzK_s A j i
      rw [if_pos hz] at hs
      simp only [s_X2_isBeaten_2]
      simp (disch := omega) only [hn, le_F, ↓reduceIte, x2_beats h n8 (show i < nK A by omega) hj, bn_some, nI_1]
      rcases btI_b A i j with e | e
      · rw [e, if_pos rfl]; exact ih (i + 1) m' (by omega) (by omega) (by rw [hs, e])
      · rw [e, if_neg n10]
        have := bzK_m A j (i + 1) (by rw [hs, e]) d
        rw [show i + 1 + d = nK A by omega] at this
        rw [this]
  exact key (nK A) 0 FU (by omega) (by show _ < 4096; omega) rfl
theorem bt93 {τ : Sg} {A : Nat → Int32} (hA : τ 151 = A) (K : Sg → Int32 → Int32 → Int32 → RO) {i j : Nat} (hi : i < 8) (hj : j < 8) (v t0 : Int32) : s_X11_isBeaten_93 K τ (nI (110 + 3 * j)) v (nI i) (nI (110 + 3 * i)) t0 = K τ (nI (110 + 3 * j)) (if v = 0 then (if t0 = 0 then 0 else if A (110 + 3 * i) < A (110 + 3 * j) then 1 else if A (110 + 3 * i + 1) < A (110 + 3 * j + 1) then 1 else if A (110 + 3 * j + 2) ≤ A (110 + 3 * i + 2) then 0 else 1) else 1) (nI (i + 1)) := by
  unfold s_X11_isBeaten_93 s_X11_isBeaten_160
  simp (disch := omega) only [hA, NK, inb_n, cl_nI, ↓reduceIte]
  by_cases cv : v = 0
  · by_cases ct : t0 = 0
    · simp only [cv, ct, ↓reduceIte]
    · by_cases q1 : A (110 + 3 * i) < A (110 + 3 * j)
      · simp only [cv, ct, q1, ↓reduceIte]
      · by_cases q2 : A (110 + 3 * i + 1) < A (110 + 3 * j + 1)
        · simp only [cv, ct, q1, q2, ↓reduceIte]
        · by_cases q3 : A (110 + 3 * j + 2) ≤ A (110 + 3 * i + 2)
          · simp only [cv, ct, q1, q2, q3, ↓reduceIte]
          · simp only [cv, ct, q1, q2, q3, ↓reduceIte]
  · simp only [cv, ↓reduceIte]
theorem m_isBeaten {τ : Sg} {A : Nat → Int32} (hA : τ 151 = A) (hk : WKp A) {j : Nat} (hj : j < nK A) : s_X11_isBeaten τ (nI j) = some (bzK A j (nK A), τ) := by
  have n8 := hk.2
  unfold s_X11_isBeaten
  simp only [NK, lt_e]
  have := loop0 (fun m i v => s_X11_isBeaten_12 m τ (nI (110 + 3 * j)) (if v = 0 then 0 else 1) (nI i)) (fun v => some (if v = 0 then 0 else 1, τ)) (fun i v => if v = 0 then btI A i j else 1) (nK A) 0 (by omega) ?_ ?_
  · refine Eq.trans this ?_
    show some (if bzK A j (nK A) = 0 then (0 : Int32) else 1, τ) = _
    rcases bzK_b A j (nK A) with e | e <;> rw [e]
    · rfl
    · rfl
  · intro m i v hi
    simp only [s_X11_isBeaten_12]
    simp (disch := omega) only [hA, hk.1, le_F, ↓reduceIte, NK, inb_n, cl_nI, ↓lt_e, bt93 hA _ (show i < 8 by omega) (show j < 8 by omega)]
    by_cases cv : v = 0
    · simp only [cv, ↓reduceIte, n10]
      by_cases p1 : A (110 + 3 * j) < A (110 + 3 * i)
      · rw [btI_0 (fun x => x.1.1 p1)]; simp only [p1, ↓reduceIte]
      · by_cases p2 : A (110 + 3 * j + 1) < A (110 + 3 * i + 1)
        · rw [btI_0 (fun x => x.1.2.1 p2)]; simp only [p1, p2, ↓reduceIte]
        · by_cases p3 : A (110 + 3 * j + 2) < A (110 + 3 * i + 2)
          · rw [btI_0 (fun x => x.1.2.2 p3)]; simp only [p1, p2, p3, ↓reduceIte]
          · by_cases q1 : A (110 + 3 * i) < A (110 + 3 * j)
            · rw [btI_1 ⟨⟨p1, p2, p3⟩, .inl q1⟩]; simp only [p1, p2, p3, q1, ↓reduceIte, n10]
            · by_cases q2 : A (110 + 3 * i + 1) < A (110 + 3 * j + 1)
              · rw [btI_1 ⟨⟨p1, p2, p3⟩, .inr (.inl q2)⟩]; simp only [p1, p2, p3, q1, q2, ↓reduceIte, n10]
              · by_cases q3 : A (110 + 3 * j + 2) ≤ A (110 + 3 * i + 2)
                · rw [btI_0 (fun x => x.2.elim q1 (fun x => x.elim q2 (fun x => absurd x (lt_le.mpr q3))))]; simp only [p1, p2, p3, q1, q2, q3, ↓reduceIte]
                · rw [btI_1 ⟨⟨p1, p2, p3⟩, .inr (.inr (le_lt.mp q3))⟩]; simp only [p1, p2, p3, q1, q2, q3, ↓reduceIte, n10]
    · simp only [cv, ↓reduceIte, n10, ite_self]
  · intro m v
    simp only [s_X11_isBeaten_12]
    simp (disch := omega) only [hA, hk.1, le_T, ↓reduceIte]
    by_cases cv : v = 0 <;> simp [cv]
theorem call_stowed (h : InvR σ σ) (x y : Int32) : Call σ (s_X10_stowed σ x y) (fun τ => s_X11_stowed τ x y) := by
  have hK : WKp (σ 151) := h.1.2.2.1
  have hR : RK σ 21 (σ 151) := h.2.1.2.2.2
  have n8 := hK.2
  have e1 : wI x 0 (σ 21 3 - 1) = if inb x (nK (σ 151)) = true then 1 else 0 := by
    rw [hR.1, hK.1]; exact has_w x (by omega)
  have e2 : wI x 0 (σ 151 3 - 1) = if inb x (nK (σ 151)) = true then 1 else 0 := by
    rw [hK.1]; exact has_w x (by omega)
  by_cases c : inb x (nK (σ 151)) = true
  · rw [if_pos c] at e1 e2
    obtain ⟨j, hj, rfl⟩ := inb_of c (by omega)
    obtain ⟨aj, bj, cj⟩ := hR.2 j hj
    have aj : σ 22 j = σ 151 (110 + 3 * j) := aj
    have bj : σ 23 j = σ 151 (110 + 3 * j + 1) := bj
    have cj : σ 24 j = σ 151 (110 + 3 * j + 2) := cj
    by_cases c2 : win y 0 3
    · obtain ⟨k, hk, rfl⟩ := win_n (n := 3) (by omega) rfl c2
      refine call_q h (if k < 3 then σ 151 (110 + 3 * j + k) else bzK (σ 151) j (nK (σ 151))) (bad_c _ _ ?_) (fun τ q => bad_m _ _ ?_)
      · unfold s_X10_stowed
        simp (disch := omega) only [within_e, e1, bn_some, n10, ↓reduceIte, inb_n, cl_nI, aj, bj, cj, x2_isBeaten hR hK hj]
        have : k = 0 ∨ k = 1 ∨ k = 2 ∨ k = 3 := by omega
        rcases this with rfl | rfl | rfl | rfl
        · simp +decide only [tI0, ↓reduceIte, Nat.add_zero]
        · simp +decide only [tI1, ↓reduceIte]
        · simp +decide only [tI2, ↓reduceIte]
        · simp +decide only [tI3, ↓reduceIte]
          rcases bzK_b (σ 151) j (nK (σ 151)) with e | e <;> rw [e]
          · rfl
          · rfl
      · have hA : τ 151 = σ 151 := q.m (by omega)
        unfold s_X11_stowed
        simp (disch := omega) only [hA, isIn_0y, e2, bn_some, n10, ↓reduceIte, isIn_0_3, wI_1 c2, NK, nI_add, inb_n, cl_nI, m_isBeaten hA hK hj]
        have : k = 0 ∨ k = 1 ∨ k = 2 ∨ k = 3 := by omega
        rcases this with rfl | rfl | rfl | rfl
        · simp +decide only [↓reduceIte]
        · simp +decide only [↓reduceIte]
        · simp +decide only [↓reduceIte]
        · simp +decide only [↓reduceIte]
          rcases bzK_b (σ 151) j (nK (σ 151)) with e | e <;> rw [e]
          · rfl
          · rfl
    · refine call_q h (-1000000001) (bad_c _ _ ?_) (fun τ q => bad_m _ _ ?_)
      · have ht := win_t (n := 3) (by omega) rfl c2
        unfold s_X10_stowed
        simp only [within_e, e1, bn_some, n10, ↓reduceIte, show ¬ y.toInt = 0 by omega, show ¬ y.toInt = 1 by omega, show ¬ y.toInt = 2 by omega, show ¬ y.toInt = 3 by omega]
      · have hA : τ 151 = σ 151 := q.m (by omega)
        unfold s_X11_stowed
        simp only [hA, isIn_0y, e2, bn_some, n10, ↓reduceIte, isIn_0_3, wI_0 c2]
  · rw [if_neg c] at e1 e2
    refine call_q h (-1000000001) (bad_c _ _ ?_) (fun τ q => bad_m _ _ ?_)
    · unfold s_X10_stowed
      simp only [within_e, e1, bn_some, ↓reduceIte]
    · have hA : τ 151 = σ 151 := q.m (by omega)
      unfold s_X11_stowed
      simp only [hA, isIn_0y, e2, bn_some, ↓reduceIte]
theorem call_front (h : InvR σ σ) : Call σ (s_X10_front σ) (fun τ => s_X11_front τ) := by
  have hK : WKp (σ 151) := h.1.2.2.1
  have hR : RK σ 21 (σ 151) := h.2.1.2.2.2
  have n8 := hK.2
  refine call_q h (itr (fun i v => if bzK (σ 151) i (nK (σ 151)) = 0 then v ||| (1 <<< (nI i &&& 31)) else v) (nK (σ 151)) 0 0) (bad_c _ _ ?_) (fun τ q => bad_m _ _ ?_)
  · unfold s_X10_front
    refine loop0 (fun m i v => s_X10_front_4 m σ v (nI i)) (fun v => some (v, σ)) (fun i v => if bzK (σ 151) i (nK (σ 151)) = 0 then v ||| (1 <<< (nI i &&& 31)) else v) (nK (σ 151)) 0 (by omega) ?_ ?_
    · intro m i v hi
      simp only [s_X10_front_4]
      simp (disch := omega) only [hR.1, hK.1, le_F, ↓reduceIte, x2_isBeaten hR hK hi, bn_some, lt_e, nI_1]
      split <;> rfl
    · intro m v
      simp only [s_X10_front_4]
      simp (disch := omega) only [hR.1, hK.1, le_T, ↓reduceIte]
  · have hA : τ 151 = σ 151 := q.m (by omega)
    unfold s_X11_front
    refine loop0 (fun m i v => s_X11_front_4 m τ v (nI i)) (fun v => some (v, τ)) (fun i v => if bzK (σ 151) i (nK (σ 151)) = 0 then v ||| (1 <<< (nI i &&& 31)) else v) (nK (σ 151)) 0 (by omega) ?_ ?_
    · intro m i v hi
      simp only [s_X11_front_4]
      simp (disch := omega) only [hA, hK.1, le_F, ↓reduceIte, m_isBeaten hA hK hi, bn_some, lt_e, nI_1, Int32.or_zero]
      split <;> rfl
    · intro m v
      simp only [s_X11_front_4]
      simp (disch := omega) only [hA, hK.1, le_T, ↓reduceIte]
end q3
