theorem r3_ {i : Nat} (hi : i < 8) : rt 3 i = 2 + 10 + i := rtb2 i hi
section qs
variable {σ : Sg}
theorem InvR.w (h : InvR σ σ) : WF (σ 151) := h.1.1
theorem InvR.f (h : InvR σ σ) : RF σ 2 (σ 151) := h.2.1.1
theorem win_n {x : Int32} {n : Nat} (hn : n < 2 ^ 31) {M : Int32} (hM : M = nI n) (h : win x 0 M) : ∃ k, k ≤ n ∧ x = nI k := by
  subst hM
  exact nI_of2 (M := nI n) (n := n) (nI_toInt hn) (lt_le.mpr h.1) h.2
theorem win_t {x : Int32} {n : Nat} (hn : n < 2 ^ 31) {M : Int32} (hM : M = nI n) (h : ¬ win x 0 M) : x.toInt < 0 ∨ (n : Int) < x.toInt := by
  subst hM
  unfold win at h
  rw [le_t, le_t, nI_toInt hn, show (0 : Int32).toInt = 0 by decide] at h
  omega
def toldA (A : Nat → Int32) (i k : Nat) : Int32 := if k ≤ 5 then A (20 + 6 * i + k) else if k = 6 then wd A i else if k = 7 then ht A i else if k = 8 then rm A i else if k = 9 then woI (A (20 + 6 * i)) (A (20 + 6 * i + 1)) (A (20 + 6 * i + 2)) (A (20 + 6 * i + 3)) (A (20 + 6 * i + 5)) else if k = 10 then XX A i else if k = 11 then YY A i else if k = 12 then shpI (A (20 + 6 * i)) (A (20 + 6 * i + 2)) else if k = 13 then heatA A i else growA A i

theorem x10_told (h : InvR σ σ) {i k : Nat} (hi : i < nB (σ 151)) (hk : k ≤ 14) : Gv (s_X10_told σ (nI i) (nI k)) (fun r τ => r = toldA (σ 151) i k ∧ CQ σ τ) := by
  have hw := h.w
  have hF := h.f
  have n8 := hw.n8
  unfold s_X10_told
  have ib : inb (nI i) (nB (σ 151)) = true := inb_nI hi (by omega)
  have w1 : wI (nI k) 0 14 = 1 := wI_1 ⟨nI_pos' (by omega), nI_le (b := 14) hk (by omega)⟩
  simp only [has_c hw hF.1.n, bn_some, ib, ↓reduceIte, show ¬ (1 : Int32) = 0 by decide, within_e, w1]
  have br := hF.1.br hi
  unfold toldA
  have : k = 0 ∨ k = 1 ∨ k = 2 ∨ k = 3 ∨ k = 4 ∨ k = 5 ∨ k = 6 ∨ k = 7 ∨ k = 8 ∨ k = 9 ∨ k = 10 ∨ k = 11 ∨ k = 12 ∨ k = 13 ∨ k = 14 := by omega
  rcases this with rfl | rfl | rfl | rfl | rfl | rfl | rfl | rfl | rfl | rfl | rfl | rfl | rfl | rfl | rfl
  · simp +decide (disch := omega) only [inb_n, cl_nI, ↓reduceIte, r3_, ↓lt_e, show (nI 0).toInt = 0 by decide]
    unfold s_X0_ofItself
    simp +decide only [↓reduceIte, show (nI 0).toInt = 0 by decide, bn_some]
    exact gv_i ⟨hF.1.f hi (k := 0) (by omega), CQ.r σ⟩
  · simp +decide (disch := omega) only [inb_n, cl_nI, ↓reduceIte, r3_, ↓lt_e, show (nI 1).toInt = 1 by decide]
    unfold s_X0_ofItself
    simp +decide only [↓reduceIte, show (nI 1).toInt = 1 by decide, bn_some]
    exact gv_i ⟨hF.1.f hi (k := 1) (by omega), CQ.r σ⟩
  · simp +decide (disch := omega) only [inb_n, cl_nI, ↓reduceIte, r3_, ↓lt_e, show (nI 2).toInt = 2 by decide]
    unfold s_X0_ofItself
    simp +decide only [↓reduceIte, show (nI 2).toInt = 2 by decide, bn_some]
    exact gv_i ⟨hF.1.f hi (k := 2) (by omega), CQ.r σ⟩
  · simp +decide (disch := omega) only [inb_n, cl_nI, ↓reduceIte, r3_, ↓lt_e, show (nI 3).toInt = 3 by decide]
    unfold s_X0_ofItself
    simp +decide only [↓reduceIte, show (nI 3).toInt = 3 by decide, bn_some]
    exact gv_i ⟨hF.1.f hi (k := 3) (by omega), CQ.r σ⟩
  · simp +decide (disch := omega) only [inb_n, cl_nI, ↓reduceIte, r3_, ↓lt_e, show (nI 4).toInt = 4 by decide]
    unfold s_X0_ofItself
    simp +decide only [↓reduceIte, show (nI 4).toInt = 4 by decide, bn_some]
    exact gv_i ⟨hF.1.f hi (k := 4) (by omega), CQ.r σ⟩
  · simp +decide (disch := omega) only [inb_n, cl_nI, ↓reduceIte, r3_, ↓lt_e, show (nI 5).toInt = 5 by decide]
    unfold s_X0_ofItself
    simp +decide only [↓reduceIte, show (nI 5).toInt = 5 by decide, bn_some]
    exact gv_i ⟨hF.1.f hi (k := 5) (by omega), CQ.r σ⟩
  · simp +decide (disch := omega) only [inb_n, cl_nI, ↓reduceIte, r3_, ↓lt_e, show (nI 6).toInt = 6 by decide]
    unfold s_X0_ofItself
    simp +decide only [↓reduceIte, show (nI 6).toInt = 6 by decide, bn_some]
    exact gv_i ⟨hF.1.w hi, CQ.r σ⟩
  · simp +decide (disch := omega) only [inb_n, cl_nI, ↓reduceIte, r3_, ↓lt_e, show (nI 7).toInt = 7 by decide]
    unfold s_X0_ofItself
    simp +decide only [↓reduceIte, show (nI 7).toInt = 7 by decide, bn_some]
    exact gv_i ⟨hF.1.hh hi, CQ.r σ⟩
  · simp +decide (disch := omega) only [inb_n, cl_nI, ↓reduceIte, r3_, ↓lt_e, show (nI 8).toInt = 8 by decide]
    unfold s_X0_ofItself
    simp +decide only [↓reduceIte, show (nI 8).toInt = 8 by decide, bn_some]
    rw [x0_room _ _ _ _ br, bn_some, bn_some]
    exact gv_i ⟨rfl, CQ.r σ⟩
  · simp +decide (disch := omega) only [inb_n, cl_nI, ↓reduceIte, r3_, ↓lt_e, show (nI 9).toInt = 9 by decide]
    unfold s_X0_ofItself
    simp +decide only [↓reduceIte, show (nI 9).toInt = 9 by decide, bn_some]
    rw [x0_worth _ _ _ _ br, bn_some, bn_some]
    exact gv_i ⟨rfl, CQ.r σ⟩
  · simp +decide (disch := omega) only [inb_n, cl_nI, ↓reduceIte, r3_, ↓lt_e, show (nI 10).toInt = 10 by decide]
    exact gv_i ⟨hF.x hi, CQ.r σ⟩
  · simp +decide (disch := omega) only [inb_n, cl_nI, ↓reduceIte, r3_, ↓lt_e, show (nI 11).toInt = 11 by decide]
    exact gv_i ⟨hF.y hi, CQ.r σ⟩
  · simp +decide (disch := omega) only [inb_n, cl_nI, ↓reduceIte, r3_, ↓lt_e, show (nI 12).toInt = 12 by decide]
    unfold s_X0_ofItself
    simp +decide only [↓reduceIte, show (nI 12).toInt = 12 by decide, bn_some]
    rw [x0_shapes, bn_some, bn_some, show σ (2 + 10 + i) 0 = σ 151 (20 + 6 * i) from hF.1.f hi (k := 0) (by omega), hF.1.f hi (k := 2) (by omega)]
    exact gv_i ⟨rfl, CQ.r σ⟩
  · simp +decide (disch := omega) only [inb_n, cl_nI, ↓reduceIte, r3_, ↓lt_e, show (nI 13).toInt = 13 by decide]
    rw [x1_heatOf fl2 hw hF hi, bn_some]
    exact gv_i ⟨rfl, CQ.r σ⟩
  · simp +decide (disch := omega) only [inb_n, cl_nI, ↓reduceIte, r3_, ↓lt_e, show (nI 14).toInt = 14 by decide]
    exact gv_n (x1_grows fl2 hw hF hi) (fun r τ q => gv_i ⟨q.1, CQ_1 q.2⟩)
theorem m_told {τ : Sg} {A : Nat → Int32} (hw : WF A) (hA : τ 151 = A) {i k : Nat} (hi : i < nB A) (hk : k ≤ 14) : Gv (s_X11_told τ (nI i) (nI k)) (fun r ρ => r = toldA A i k ∧ FS τ ρ) := by
  have n8 := hw.n8
  unfold s_X11_told s_X11_blockAt
  have ib : inb (nI i) (nB A) = true := inb_nI hi (by omega)
  simp only [isBlk_e hw hA, bn_some, ib, ↓reduceIte, show ¬ (1 : Int32) = 0 by decide, NK]
  refine gv_v (findPlaces_e hw hA) ?_
  intro _ ρ ⟨f, p⟩
  have rA : ρ 151 = A := f.s.trans hA
  have ff := f.fs
  have hv : VA (ρ 151) (20 + 6 * i) := by rw [rA]; exact hw.v hi
  unfold toldA
  have : k = 0 ∨ k = 1 ∨ k = 2 ∨ k = 3 ∨ k = 4 ∨ k = 5 ∨ k = 6 ∨ k = 7 ∨ k = 8 ∨ k = 9 ∨ k = 10 ∨ k = 11 ∨ k = 12 ∨ k = 13 ∨ k = 14 := by omega
  rcases this with rfl | rfl | rfl | rfl | rfl | rfl | rfl | rfl | rfl | rfl | rfl | rfl | rfl | rfl | rfl
  · simp +decide (disch := omega) only [↓reduceIte, show (nI 0).toInt = 0 by decide, nI_add, inb_n, cl_nI, rA]
    exact gv_i ⟨rfl, ff⟩
  · simp +decide (disch := omega) only [↓reduceIte, show (nI 1).toInt = 1 by decide, nI_add, inb_n, cl_nI, rA]
    exact gv_i ⟨rfl, ff⟩
  · simp +decide (disch := omega) only [↓reduceIte, show (nI 2).toInt = 2 by decide, nI_add, inb_n, cl_nI, rA]
    exact gv_i ⟨rfl, ff⟩
  · simp +decide (disch := omega) only [↓reduceIte, show (nI 3).toInt = 3 by decide, nI_add, inb_n, cl_nI, rA]
    exact gv_i ⟨rfl, ff⟩
  · simp +decide (disch := omega) only [↓reduceIte, show (nI 4).toInt = 4 by decide, nI_add, inb_n, cl_nI, rA]
    exact gv_i ⟨rfl, ff⟩
  · simp +decide (disch := omega) only [↓reduceIte, show (nI 5).toInt = 5 by decide, nI_add, inb_n, cl_nI, rA]
    exact gv_i ⟨rfl, ff⟩
  · simp +decide (disch := omega) only [↓reduceIte, show (nI 6).toInt = 6 by decide, width_e, bn_some, rA]
    exact gv_i ⟨rfl, ff⟩
  · simp +decide (disch := omega) only [↓reduceIte, show (nI 7).toInt = 7 by decide]
    rw [height_e ρ (by omega) hv, bn_some, rA]
    exact gv_i ⟨rfl, ff⟩
  · simp +decide (disch := omega) only [↓reduceIte, show (nI 8).toInt = 8 by decide]
    rw [room_e ρ (by omega) hv, bn_some, rA]
    exact gv_i ⟨rfl, ff⟩
  · simp +decide (disch := omega) only [↓reduceIte, show (nI 9).toInt = 9 by decide, NK, inb_n, cl_nI, rA]
    rw [worthOf_e ρ _ (hw.v hi), bn_some]
    exact gv_i ⟨rfl, ff⟩
  · simp +decide (disch := omega) only [↓reduceIte, show (nI 10).toInt = 10 by decide, inb_n, cl_nI]
    exact gv_i ⟨p.x hi, ff⟩
  · simp +decide (disch := omega) only [↓reduceIte, show (nI 11).toInt = 11 by decide, inb_n, cl_nI]
    exact gv_i ⟨p.y hi, ff⟩
  · simp +decide (disch := omega) only [↓reduceIte, show (nI 12).toInt = 12 by decide, NK, inb_n, cl_nI, rA, shapesOf_e, bn_some]
    exact gv_i ⟨rfl, ff⟩
  · simp +decide (disch := omega) only [↓reduceIte, show (nI 13).toInt = 13 by decide]
    rw [m_heatOf hw rA p hi, bn_some]
    exact gv_i ⟨rfl, ff⟩
  · simp +decide (disch := omega) only [↓reduceIte, show (nI 14).toInt = 14 by decide]
    rw [m_grows hw rA p hi, bn_some]
    exact gv_i ⟨rfl, ff⟩
theorem call_told (h : InvR σ σ) (x y : Int32) : Call σ (s_X10_told σ x y) (fun τ => s_X11_told τ x y) := by
  have hw := h.w
  have hF := h.f
  have n8 := hw.n8
  have bad : ∀ (X : RO), X = some (-1000000001, σ) → Gv X (fun r τ => r = -1000000001 ∧ CQ σ τ) := fun X e => by rw [e]; exact gv_i ⟨rfl, CQ.r σ⟩
  by_cases c : inb x (nB (σ 151)) = true
  · obtain ⟨i, hi, rfl⟩ := inb_of c (by omega)
    by_cases c2 : win y 0 14
    · obtain ⟨k, hk, rfl⟩ := win_n (n := 14) (by omega) rfl c2
      exact call_q h (toldA (σ 151) i k) (x10_told h hi hk) (fun τ q => m_told hw (q.m (by omega)) hi hk)
    · refine call_q h (-1000000001) (bad _ ?_) (fun τ q => ?_)
      · unfold s_X10_told
        simp only [has_c hw hF.1.n, bn_some, c, ↓reduceIte, show ¬ (1 : Int32) = 0 by decide, within_e, wI_0 c2]
      · have hA : τ 151 = σ 151 := q.m (by omega)
        unfold s_X11_told s_X11_blockAt
        simp only [isBlk_e hw hA, bn_some, c, ↓reduceIte, show ¬ (1 : Int32) = 0 by decide]
        refine gv_v (findPlaces_e hw hA) ?_
        intro _ ρ ⟨f, p⟩
        have ht := win_t (n := 14) (by omega) rfl c2
        simp only [show ¬ y.toInt = 0 by omega, show ¬ y.toInt = 1 by omega, show ¬ y.toInt = 2 by omega, show ¬ y.toInt = 3 by omega, show ¬ y.toInt = 4 by omega, show ¬ y.toInt = 5 by omega, show ¬ y.toInt = 6 by omega, show ¬ y.toInt = 7 by omega, show ¬ y.toInt = 8 by omega, show ¬ y.toInt = 9 by omega, show ¬ y.toInt = 10 by omega, show ¬ y.toInt = 11 by omega, show ¬ y.toInt = 12 by omega, show ¬ y.toInt = 13 by omega, show ¬ y.toInt = 14 by omega, ↓reduceIte]
        exact gv_i ⟨rfl, f.fs⟩
  · refine call_q h (-1000000001) (bad _ ?_) (fun τ q => ?_)
    · unfold s_X10_told
      simp only [has_c hw hF.1.n, bn_some, c, ↓reduceIte, Bool.false_eq_true]
    · have hA : τ 151 = σ 151 := q.m (by omega)
      unfold s_X11_told
      simp only [isBlk_e hw hA, bn_some, c, ↓reduceIte, Bool.false_eq_true]
      exact gv_i ⟨rfl, FS.r τ⟩
end qs
