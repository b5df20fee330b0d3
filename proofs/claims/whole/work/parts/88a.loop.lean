section lv
variable {σ : Sg}
theorem lwv_204 (h : InvR σ σ) {L j : Nat} (hj : j + 6 ≤ L) (hL : L ≤ 3072) : ∃ ρ, InvR ρ ρ ∧ ∀ k18, s_L_law_204 L k18 σ (nI j) = k18 ρ (nI (j + 6)) := by
  obtain ⟨v, τ, ρ, e1, e2, i, n1, n2⟩ := call_block h (σ 990 (j + 1)) (σ 990 (j + 2)) (σ 990 (j + 3))
  have e2 : s_X11_block τ (σ 990 (j + 1)) (σ 990 (j + 2)) (σ 990 (j + 3)) = some (v, ρ) := e2
  have a6 : nI j + 6 = nI (j + 6) := nI_add _ _
  have a1 : nI j + 1 = nI (j + 1) := nI_add _ _
  have b1 : inb (nI (j + 1)) L = true := inb_nI (by omega) (by omega)
  have a2 : nI j + 2 = nI (j + 2) := nI_add _ _
  have b2 : inb (nI (j + 2)) L = true := inb_nI (by omega) (by omega)
  have a3 : nI j + 3 = nI (j + 3) := nI_add _ _
  have b3 : inb (nI (j + 3)) L = true := inb_nI (by omega) (by omega)
  refine ⟨ρ, i, fun k18 => ?_⟩
  unfold s_L_law_204
  rw [a6, a1, a2, a3, if_pos b1, if_pos b2, if_pos b3, cl_nI (by omega), cl_nI (by omega), cl_nI (by omega), e1, bn_some, if_pos b1, if_pos b2, if_pos b3, n1, e2, bn_some, if_pos rfl]
theorem lwv_247 (h : InvR σ σ) {L j : Nat} (hj : j + 6 ≤ L) (hL : L ≤ 3072) : ∃ ρ, InvR ρ ρ ∧ ∀ k18, s_L_law_247 L k18 σ (nI j) = k18 ρ (nI (j + 6)) := by
  obtain ⟨v, τ, ρ, e1, e2, i, n1, n2⟩ := call_told h (σ 990 (j + 1)) (σ 990 (j + 2))
  have e2 : s_X11_told τ (σ 990 (j + 1)) (σ 990 (j + 2)) = some (v, ρ) := e2
  have a6 : nI j + 6 = nI (j + 6) := nI_add _ _
  have a1 : nI j + 1 = nI (j + 1) := nI_add _ _
  have b1 : inb (nI (j + 1)) L = true := inb_nI (by omega) (by omega)
  have a2 : nI j + 2 = nI (j + 2) := nI_add _ _
  have b2 : inb (nI (j + 2)) L = true := inb_nI (by omega) (by omega)
  refine ⟨ρ, i, fun k18 => ?_⟩
  unfold s_L_law_247
  rw [a6, a1, a2, if_pos b1, if_pos b2, cl_nI (by omega), cl_nI (by omega), e1, bn_some, if_pos b1, if_pos b2, n1, e2, bn_some, if_pos rfl]
theorem lwv_280 (h : InvR σ σ) {L j : Nat} (hj : j + 6 ≤ L) (hL : L ≤ 3072) : ∃ ρ, InvR ρ ρ ∧ ∀ k18, s_L_law_280 L k18 σ (nI j) = k18 ρ (nI (j + 6)) := by
  obtain ⟨v, τ, ρ, e1, e2, i, n1, n2⟩ := call_as h (σ 990 (j + 1)) (σ 990 (j + 2))
  have e2 : s_X11_as τ (σ 990 (j + 1)) (σ 990 (j + 2)) = some (v, ρ) := e2
  have a6 : nI j + 6 = nI (j + 6) := nI_add _ _
  have a1 : nI j + 1 = nI (j + 1) := nI_add _ _
  have b1 : inb (nI (j + 1)) L = true := inb_nI (by omega) (by omega)
  have a2 : nI j + 2 = nI (j + 2) := nI_add _ _
  have b2 : inb (nI (j + 2)) L = true := inb_nI (by omega) (by omega)
  refine ⟨ρ, i, fun k18 => ?_⟩
  unfold s_L_law_280
  rw [a6, a1, a2, if_pos b1, if_pos b2, cl_nI (by omega), cl_nI (by omega), e1, bn_some, if_pos b1, if_pos b2, n1, e2, bn_some, if_pos rfl]
theorem lwv_313 (h : InvR σ σ) {L j : Nat} (hj : j + 6 ≤ L) (hL : L ≤ 3072) : ∃ ρ, InvR ρ ρ ∧ ∀ k18, s_L_law_313 L k18 σ (nI j) = k18 ρ (nI (j + 6)) := by
  obtain ⟨v, τ, ρ, e1, e2, i, n1, n2⟩ := call_power h (σ 990 (j + 1)) (σ 990 (j + 2))
  have e2 : s_X11_power τ (σ 990 (j + 1)) (σ 990 (j + 2)) = some (v, ρ) := e2
  have a6 : nI j + 6 = nI (j + 6) := nI_add _ _
  have a1 : nI j + 1 = nI (j + 1) := nI_add _ _
  have b1 : inb (nI (j + 1)) L = true := inb_nI (by omega) (by omega)
  have a2 : nI j + 2 = nI (j + 2) := nI_add _ _
  have b2 : inb (nI (j + 2)) L = true := inb_nI (by omega) (by omega)
  refine ⟨ρ, i, fun k18 => ?_⟩
  unfold s_L_law_313
  rw [a6, a1, a2, if_pos b1, if_pos b2, cl_nI (by omega), cl_nI (by omega), e1, bn_some, if_pos b1, if_pos b2, n1, e2, bn_some, if_pos rfl]
theorem lwv_346 (h : InvR σ σ) {L j : Nat} (hj : j + 6 ≤ L) (hL : L ≤ 3072) : ∃ ρ, InvR ρ ρ ∧ ∀ k18, s_L_law_346 L k18 σ (nI j) = k18 ρ (nI (j + 6)) := by
  obtain ⟨v, τ, ρ, e1, e2, i, n1, n2⟩ := call_rule h (σ 990 (j + 1)) (σ 990 (j + 2))
  have e2 : s_X11_rule τ (σ 990 (j + 1)) (σ 990 (j + 2)) = some (v, ρ) := e2
  have a6 : nI j + 6 = nI (j + 6) := nI_add _ _
  have a1 : nI j + 1 = nI (j + 1) := nI_add _ _
  have b1 : inb (nI (j + 1)) L = true := inb_nI (by omega) (by omega)
  have a2 : nI j + 2 = nI (j + 2) := nI_add _ _
  have b2 : inb (nI (j + 2)) L = true := inb_nI (by omega) (by omega)
  refine ⟨ρ, i, fun k18 => ?_⟩
  unfold s_L_law_346
  rw [a6, a1, a2, if_pos b1, if_pos b2, cl_nI (by omega), cl_nI (by omega), e1, bn_some, if_pos b1, if_pos b2, n1, e2, bn_some, if_pos rfl]
theorem lwv_379 (h : InvR σ σ) {L j : Nat} (hj : j + 6 ≤ L) (hL : L ≤ 3072) : ∃ ρ, InvR ρ ρ ∧ ∀ k18, s_L_law_379 L k18 σ (nI j) = k18 ρ (nI (j + 6)) := by
  obtain ⟨v, τ, ρ, e1, e2, i, n1, n2⟩ := call_net h (σ 990 (j + 1)) (σ 990 (j + 2))
  have e2 : s_X11_net τ (σ 990 (j + 1)) (σ 990 (j + 2)) = some (v, ρ) := e2
  have a6 : nI j + 6 = nI (j + 6) := nI_add _ _
  have a1 : nI j + 1 = nI (j + 1) := nI_add _ _
  have b1 : inb (nI (j + 1)) L = true := inb_nI (by omega) (by omega)
  have a2 : nI j + 2 = nI (j + 2) := nI_add _ _
  have b2 : inb (nI (j + 2)) L = true := inb_nI (by omega) (by omega)
  refine ⟨ρ, i, fun k18 => ?_⟩
  unfold s_L_law_379
  rw [a6, a1, a2, if_pos b1, if_pos b2, cl_nI (by omega), cl_nI (by omega), e1, bn_some, if_pos b1, if_pos b2, n1, e2, bn_some, if_pos rfl]
theorem lwv_412 (h : InvR σ σ) {L j : Nat} (hj : j + 6 ≤ L) (hL : L ≤ 3072) : ∃ ρ, InvR ρ ρ ∧ ∀ k18, s_L_law_412 L k18 σ (nI j) = k18 ρ (nI (j + 6)) := by
  obtain ⟨v, τ, ρ, e1, e2, i, n1, n2⟩ := call_wire h (σ 990 (j + 1)) (σ 990 (j + 2))
  have e2 : s_X11_wire τ (σ 990 (j + 1)) (σ 990 (j + 2)) = some (v, ρ) := e2
  have a6 : nI j + 6 = nI (j + 6) := nI_add _ _
  have a1 : nI j + 1 = nI (j + 1) := nI_add _ _
  have b1 : inb (nI (j + 1)) L = true := inb_nI (by omega) (by omega)
  have a2 : nI j + 2 = nI (j + 2) := nI_add _ _
  have b2 : inb (nI (j + 2)) L = true := inb_nI (by omega) (by omega)
  refine ⟨ρ, i, fun k18 => ?_⟩
  unfold s_L_law_412
  rw [a6, a1, a2, if_pos b1, if_pos b2, cl_nI (by omega), cl_nI (by omega), e1, bn_some, if_pos b1, if_pos b2, n1, e2, bn_some, if_pos rfl]
theorem lwv_445 (h : InvR σ σ) {L j : Nat} (hj : j + 6 ≤ L) (hL : L ≤ 3072) : ∃ ρ, InvR ρ ρ ∧ ∀ k18, s_L_law_445 L k18 σ (nI j) = k18 ρ (nI (j + 6)) := by
  obtain ⟨v, τ, ρ, e1, e2, i, n1, n2⟩ := call_at h (σ 990 (j + 1)) (σ 990 (j + 2))
  have e2 : s_X11_at τ (σ 990 (j + 1)) (σ 990 (j + 2)) = some (v, ρ) := e2
  have a6 : nI j + 6 = nI (j + 6) := nI_add _ _
  have a1 : nI j + 1 = nI (j + 1) := nI_add _ _
  have b1 : inb (nI (j + 1)) L = true := inb_nI (by omega) (by omega)
  have a2 : nI j + 2 = nI (j + 2) := nI_add _ _
  have b2 : inb (nI (j + 2)) L = true := inb_nI (by omega) (by omega)
  refine ⟨ρ, i, fun k18 => ?_⟩
  unfold s_L_law_445
  rw [a6, a1, a2, if_pos b1, if_pos b2, cl_nI (by omega), cl_nI (by omega), e1, bn_some, if_pos b1, if_pos b2, n1, e2, bn_some, if_pos rfl]
theorem lwv_478 (h : InvR σ σ) {L j : Nat} (hj : j + 6 ≤ L) (hL : L ≤ 3072) : ∃ ρ, InvR ρ ρ ∧ ∀ k18, s_L_law_478 L k18 σ (nI j) = k18 ρ (nI (j + 6)) := by
  obtain ⟨v, τ, ρ, e1, e2, i, n1, n2⟩ := call_whole h (σ 990 (j + 1))
  have e2 : s_X11_whole τ (σ 990 (j + 1)) = some (v, ρ) := e2
  have a6 : nI j + 6 = nI (j + 6) := nI_add _ _
  have a1 : nI j + 1 = nI (j + 1) := nI_add _ _
  have b1 : inb (nI (j + 1)) L = true := inb_nI (by omega) (by omega)
  refine ⟨ρ, i, fun k18 => ?_⟩
  unfold s_L_law_478
  rw [a6, a1, if_pos b1, cl_nI (by omega), e1, bn_some, if_pos b1, n1, e2, bn_some, if_pos rfl]
theorem lwv_501 (h : InvR σ σ) {L j : Nat} (hj : j + 6 ≤ L) (hL : L ≤ 3072) : ∃ ρ, InvR ρ ρ ∧ ∀ k18, s_L_law_501 L k18 σ (nI j) = k18 ρ (nI (j + 6)) := by
  obtain ⟨v, τ, ρ, e1, e2, i, n1, n2⟩ := call_stands h (σ 990 (j + 1)) (σ 990 (j + 2))
  have e2 : s_X11_stands τ (σ 990 (j + 1)) (σ 990 (j + 2)) = some (v, ρ) := e2
  have a6 : nI j + 6 = nI (j + 6) := nI_add _ _
  have a1 : nI j + 1 = nI (j + 1) := nI_add _ _
  have b1 : inb (nI (j + 1)) L = true := inb_nI (by omega) (by omega)
  have a2 : nI j + 2 = nI (j + 2) := nI_add _ _
  have b2 : inb (nI (j + 2)) L = true := inb_nI (by omega) (by omega)
  refine ⟨ρ, i, fun k18 => ?_⟩
  unfold s_L_law_501
  rw [a6, a1, a2, if_pos b1, if_pos b2, cl_nI (by omega), cl_nI (by omega), e1, bn_some, if_pos b1, if_pos b2, n1, e2, bn_some, if_pos rfl]
theorem lwv_534 (h : InvR σ σ) {L j : Nat} (hj : j + 6 ≤ L) (hL : L ≤ 3072) : ∃ ρ, InvR ρ ρ ∧ ∀ k18, s_L_law_534 L k18 σ (nI j) = k18 ρ (nI (j + 6)) := by
  obtain ⟨v, τ, ρ, e1, e2, i, n1, n2⟩ := call_move h (σ 990 (j + 1)) (σ 990 (j + 2)) (σ 990 (j + 3))
  have e2 : s_X11_move τ (σ 990 (j + 1)) (σ 990 (j + 2)) (σ 990 (j + 3)) = some (v, ρ) := e2
  have a6 : nI j + 6 = nI (j + 6) := nI_add _ _
  have a1 : nI j + 1 = nI (j + 1) := nI_add _ _
  have b1 : inb (nI (j + 1)) L = true := inb_nI (by omega) (by omega)
  have a2 : nI j + 2 = nI (j + 2) := nI_add _ _
  have b2 : inb (nI (j + 2)) L = true := inb_nI (by omega) (by omega)
  have a3 : nI j + 3 = nI (j + 3) := nI_add _ _
  have b3 : inb (nI (j + 3)) L = true := inb_nI (by omega) (by omega)
  refine ⟨ρ, i, fun k18 => ?_⟩
  unfold s_L_law_534
  rw [a6, a1, a2, a3, if_pos b1, if_pos b2, if_pos b3, cl_nI (by omega), cl_nI (by omega), cl_nI (by omega), e1, bn_some, if_pos b1, if_pos b2, if_pos b3, n1, e2, bn_some, if_pos rfl]
theorem lwv_577 (h : InvR σ σ) {L j : Nat} (hj : j + 6 ≤ L) (hL : L ≤ 3072) : ∃ ρ, InvR ρ ρ ∧ ∀ k18, s_L_law_577 L k18 σ (nI j) = k18 ρ (nI (j + 6)) := by
  obtain ⟨v, τ, ρ, e1, e2, i, n1, n2⟩ := call_undo h
  have e2 : s_X11_undo τ = some (v, ρ) := e2
  have a6 : nI j + 6 = nI (j + 6) := nI_add _ _
  refine ⟨ρ, i, fun k18 => ?_⟩
  unfold s_L_law_577
  rw [a6, e1, bn_some, e2, bn_some, if_pos rfl]
theorem lwv_590 (h : InvR σ σ) {L j : Nat} (hj : j + 6 ≤ L) (hL : L ≤ 3072) : ∃ ρ, InvR ρ ρ ∧ ∀ k18, s_L_law_590 L k18 σ (nI j) = k18 ρ (nI (j + 6)) := by
  obtain ⟨v, τ, ρ, e1, e2, i, n1, n2⟩ := call_seed h (σ 990 (j + 1))
  have e2 : s_X11_seed τ (σ 990 (j + 1)) = some (v, ρ) := e2
  have a6 : nI j + 6 = nI (j + 6) := nI_add _ _
  have a1 : nI j + 1 = nI (j + 1) := nI_add _ _
  have b1 : inb (nI (j + 1)) L = true := inb_nI (by omega) (by omega)
  refine ⟨ρ, i, fun k18 => ?_⟩
  unfold s_L_law_590
  rw [a6, a1, if_pos b1, cl_nI (by omega), e1, bn_some, if_pos b1, n1, e2, bn_some, if_pos rfl]
theorem lwv_613 (h : InvR σ σ) {L j : Nat} (hj : j + 6 ≤ L) (hL : L ≤ 3072) : ∃ ρ, InvR ρ ρ ∧ ∀ k18, s_L_law_613 L k18 σ (nI j) = k18 ρ (nI (j + 6)) := by
  obtain ⟨v, τ, ρ, e1, e2, i, n1, n2⟩ := call_walk h (σ 990 (j + 1)) (σ 990 (j + 2))
  have e2 : s_X11_walk τ (σ 990 (j + 1)) (σ 990 (j + 2)) = some (v, ρ) := e2
  have a6 : nI j + 6 = nI (j + 6) := nI_add _ _
  have a1 : nI j + 1 = nI (j + 1) := nI_add _ _
  have b1 : inb (nI (j + 1)) L = true := inb_nI (by omega) (by omega)
  have a2 : nI j + 2 = nI (j + 2) := nI_add _ _
  have b2 : inb (nI (j + 2)) L = true := inb_nI (by omega) (by omega)
  refine ⟨ρ, i, fun k18 => ?_⟩
  unfold s_L_law_613
  rw [a6, a1, a2, if_pos b1, if_pos b2, cl_nI (by omega), cl_nI (by omega), e1, bn_some, if_pos b1, if_pos b2, n1, e2, bn_some, if_pos rfl]
theorem lwv_646 (h : InvR σ σ) {L j : Nat} (hj : j + 6 ≤ L) (hL : L ≤ 3072) : ∃ ρ, InvR ρ ρ ∧ ∀ k18, s_L_law_646 L k18 σ (nI j) = k18 ρ (nI (j + 6)) := by
  obtain ⟨v, τ, ρ, e1, e2, i, n1, n2⟩ := call_bound h (σ 990 (j + 1))
  have e2 : s_X11_bound τ (σ 990 (j + 1)) = some (v, ρ) := e2
  have a6 : nI j + 6 = nI (j + 6) := nI_add _ _
  have a1 : nI j + 1 = nI (j + 1) := nI_add _ _
  have b1 : inb (nI (j + 1)) L = true := inb_nI (by omega) (by omega)
  refine ⟨ρ, i, fun k18 => ?_⟩
  unfold s_L_law_646
  rw [a6, a1, if_pos b1, cl_nI (by omega), e1, bn_some, if_pos b1, n1, e2, bn_some, if_pos rfl]
theorem lwv_669 (h : InvR σ σ) {L j : Nat} (hj : j + 6 ≤ L) (hL : L ≤ 3072) : ∃ ρ, InvR ρ ρ ∧ ∀ k18, s_L_law_669 L k18 σ (nI j) = k18 ρ (nI (j + 6)) := by
  obtain ⟨v, τ, ρ, e1, e2, i, n1, n2⟩ := call_best h (σ 990 (j + 1)) (σ 990 (j + 2))
  have e2 : s_X11_best τ (σ 990 (j + 1)) (σ 990 (j + 2)) = some (v, ρ) := e2
  have a6 : nI j + 6 = nI (j + 6) := nI_add _ _
  have a1 : nI j + 1 = nI (j + 1) := nI_add _ _
  have b1 : inb (nI (j + 1)) L = true := inb_nI (by omega) (by omega)
  have a2 : nI j + 2 = nI (j + 2) := nI_add _ _
  have b2 : inb (nI (j + 2)) L = true := inb_nI (by omega) (by omega)
  refine ⟨ρ, i, fun k18 => ?_⟩
  unfold s_L_law_669
  rw [a6, a1, a2, if_pos b1, if_pos b2, cl_nI (by omega), cl_nI (by omega), e1, bn_some, if_pos b1, if_pos b2, n1, e2, bn_some, if_pos rfl]
theorem lwv_702 (h : InvR σ σ) {L j : Nat} (hj : j + 6 ≤ L) (hL : L ≤ 3072) : ∃ ρ, InvR ρ ρ ∧ ∀ k18, s_L_law_702 L k18 σ (nI j) = k18 ρ (nI (j + 6)) := by
  obtain ⟨v, τ, ρ, e1, e2, i, n1, n2⟩ := call_touch h (σ 990 (j + 1)) (σ 990 (j + 2))
  have e2 : s_X11_touch τ (σ 990 (j + 1)) (σ 990 (j + 2)) = some (v, ρ) := e2
  have a6 : nI j + 6 = nI (j + 6) := nI_add _ _
  have a1 : nI j + 1 = nI (j + 1) := nI_add _ _
  have b1 : inb (nI (j + 1)) L = true := inb_nI (by omega) (by omega)
  have a2 : nI j + 2 = nI (j + 2) := nI_add _ _
  have b2 : inb (nI (j + 2)) L = true := inb_nI (by omega) (by omega)
  refine ⟨ρ, i, fun k18 => ?_⟩
  unfold s_L_law_702
  rw [a6, a1, a2, if_pos b1, if_pos b2, cl_nI (by omega), cl_nI (by omega), e1, bn_some, if_pos b1, if_pos b2, n1, e2, bn_some, if_pos rfl]
theorem lwv_735 (h : InvR σ σ) {L j : Nat} (hj : j + 6 ≤ L) (hL : L ≤ 3072) : ∃ ρ, InvR ρ ρ ∧ ∀ k18, s_L_law_735 L k18 σ (nI j) = k18 ρ (nI (j + 6)) := by
  obtain ⟨v, τ, ρ, e1, e2, i, n1, n2⟩ := call_hottest h
  have e2 : s_X11_hottest τ = some (v, ρ) := e2
  have a6 : nI j + 6 = nI (j + 6) := nI_add _ _
  refine ⟨ρ, i, fun k18 => ?_⟩
  unfold s_L_law_735
  rw [a6, e1, bn_some, e2, bn_some, if_pos rfl]
theorem lwv_748 (h : InvR σ σ) {L j : Nat} (hj : j + 6 ≤ L) (hL : L ≤ 3072) : ∃ ρ, InvR ρ ρ ∧ ∀ k18, s_L_law_748 L k18 σ (nI j) = k18 ρ (nI (j + 6)) := by
  obtain ⟨v, τ, ρ, e1, e2, i, n1, n2⟩ := call_feed h (σ 990 (j + 1)) (σ 990 (j + 2)) (σ 990 (j + 3))
  have e2 : s_X11_feed τ (σ 990 (j + 1)) (σ 990 (j + 2)) (σ 990 (j + 3)) = some (v, ρ) := e2
  have a6 : nI j + 6 = nI (j + 6) := nI_add _ _
  have a1 : nI j + 1 = nI (j + 1) := nI_add _ _
  have b1 : inb (nI (j + 1)) L = true := inb_nI (by omega) (by omega)
  have a2 : nI j + 2 = nI (j + 2) := nI_add _ _
  have b2 : inb (nI (j + 2)) L = true := inb_nI (by omega) (by omega)
  have a3 : nI j + 3 = nI (j + 3) := nI_add _ _
  have b3 : inb (nI (j + 3)) L = true := inb_nI (by omega) (by omega)
  refine ⟨ρ, i, fun k18 => ?_⟩
  unfold s_L_law_748
  rw [a6, a1, a2, a3, if_pos b1, if_pos b2, if_pos b3, cl_nI (by omega), cl_nI (by omega), cl_nI (by omega), e1, bn_some, if_pos b1, if_pos b2, if_pos b3, n1, e2, bn_some, if_pos rfl]
theorem lwv_791 (h : InvR σ σ) {L j : Nat} (hj : j + 6 ≤ L) (hL : L ≤ 3072) : ∃ ρ, InvR ρ ρ ∧ ∀ k18, s_L_law_791 L k18 σ (nI j) = k18 ρ (nI (j + 6)) := by
  obtain ⟨v, τ, ρ, e1, e2, i, n1, n2⟩ := call_trim h (σ 990 (j + 1))
  have e2 : s_X11_trim τ (σ 990 (j + 1)) = some (v, ρ) := e2
  have a6 : nI j + 6 = nI (j + 6) := nI_add _ _
  have a1 : nI j + 1 = nI (j + 1) := nI_add _ _
  have b1 : inb (nI (j + 1)) L = true := inb_nI (by omega) (by omega)
  refine ⟨ρ, i, fun k18 => ?_⟩
  unfold s_L_law_791
  rw [a6, a1, if_pos b1, cl_nI (by omega), e1, bn_some, if_pos b1, n1, e2, bn_some, if_pos rfl]
theorem lwv_814 (h : InvR σ σ) {L j : Nat} (hj : j + 6 ≤ L) (hL : L ≤ 3072) : ∃ ρ, InvR ρ ρ ∧ ∀ k18, s_L_law_814 L k18 σ (nI j) = k18 ρ (nI (j + 6)) := by
  obtain ⟨v, τ, ρ, e1, e2, i, n1, n2⟩ := call_wish h
  have e2 : s_X11_wish τ = some (v, ρ) := e2
  have a6 : nI j + 6 = nI (j + 6) := nI_add _ _
  refine ⟨ρ, i, fun k18 => ?_⟩
  unfold s_L_law_814
  rw [a6, e1, bn_some, e2, bn_some, if_pos rfl]
theorem lwv_827 (h : InvR σ σ) {L j : Nat} (hj : j + 6 ≤ L) (hL : L ≤ 3072) : ∃ ρ, InvR ρ ρ ∧ ∀ k18, s_L_law_827 L k18 σ (nI j) = k18 ρ (nI (j + 6)) := by
  obtain ⟨v, τ, ρ, e1, e2, i, n1, n2⟩ := call_of h (σ 990 (j + 1)) (σ 990 (j + 2))
  have e2 : s_X11_of τ (σ 990 (j + 1)) (σ 990 (j + 2)) = some (v, ρ) := e2
  have a6 : nI j + 6 = nI (j + 6) := nI_add _ _
  have a1 : nI j + 1 = nI (j + 1) := nI_add _ _
  have b1 : inb (nI (j + 1)) L = true := inb_nI (by omega) (by omega)
  have a2 : nI j + 2 = nI (j + 2) := nI_add _ _
  have b2 : inb (nI (j + 2)) L = true := inb_nI (by omega) (by omega)
  refine ⟨ρ, i, fun k18 => ?_⟩
  unfold s_L_law_827
  rw [a6, a1, a2, if_pos b1, if_pos b2, cl_nI (by omega), cl_nI (by omega), e1, bn_some, if_pos b1, if_pos b2, n1, e2, bn_some, if_pos rfl]
theorem lwv_860 (h : InvR σ σ) {L j : Nat} (hj : j + 6 ≤ L) (hL : L ≤ 3072) : ∃ ρ, InvR ρ ρ ∧ ∀ k18, s_L_law_860 L k18 σ (nI j) = k18 ρ (nI (j + 6)) := by
  obtain ⟨v, τ, ρ, e1, e2, i, n1, n2⟩ := call_missed h
  have e2 : s_X11_missed τ = some (v, ρ) := e2
  have a6 : nI j + 6 = nI (j + 6) := nI_add _ _
  refine ⟨ρ, i, fun k18 => ?_⟩
  unfold s_L_law_860
  rw [a6, e1, bn_some, e2, bn_some, if_pos rfl]
theorem lwv_873 (h : InvR σ σ) {L j : Nat} (hj : j + 6 ≤ L) (hL : L ≤ 3072) : ∃ ρ, InvR ρ ρ ∧ ∀ k18, s_L_law_873 L k18 σ (nI j) = k18 ρ (nI (j + 6)) := by
  obtain ⟨v, τ, ρ, e1, e2, i, n1, n2⟩ := call_stow h
  have e2 : s_X11_stow τ = some (v, ρ) := e2
  have a6 : nI j + 6 = nI (j + 6) := nI_add _ _
  refine ⟨ρ, i, fun k18 => ?_⟩
  unfold s_L_law_873
  rw [a6, e1, bn_some, e2, bn_some, if_pos rfl]
theorem lwv_886 (h : InvR σ σ) {L j : Nat} (hj : j + 6 ≤ L) (hL : L ≤ 3072) : ∃ ρ, InvR ρ ρ ∧ ∀ k18, s_L_law_886 L k18 σ (nI j) = k18 ρ (nI (j + 6)) := by
  obtain ⟨v, τ, ρ, e1, e2, i, n1, n2⟩ := call_stowed h (σ 990 (j + 1)) (σ 990 (j + 2))
  have e2 : s_X11_stowed τ (σ 990 (j + 1)) (σ 990 (j + 2)) = some (v, ρ) := e2
  have a6 : nI j + 6 = nI (j + 6) := nI_add _ _
  have a1 : nI j + 1 = nI (j + 1) := nI_add _ _
  have b1 : inb (nI (j + 1)) L = true := inb_nI (by omega) (by omega)
  have a2 : nI j + 2 = nI (j + 2) := nI_add _ _
  have b2 : inb (nI (j + 2)) L = true := inb_nI (by omega) (by omega)
  refine ⟨ρ, i, fun k18 => ?_⟩
  unfold s_L_law_886
  rw [a6, a1, a2, if_pos b1, if_pos b2, cl_nI (by omega), cl_nI (by omega), e1, bn_some, if_pos b1, if_pos b2, n1, e2, bn_some, if_pos rfl]
theorem lwv_919 (h : InvR σ σ) {L j : Nat} (hj : j + 6 ≤ L) (hL : L ≤ 3072) : ∃ ρ, InvR ρ ρ ∧ ∀ k18, s_L_law_919 L k18 σ (nI j) = k18 ρ (nI (j + 6)) := by
  obtain ⟨v, τ, ρ, e1, e2, i, n1, n2⟩ := call_front h
  have e2 : s_X11_front τ = some (v, ρ) := e2
  have a6 : nI j + 6 = nI (j + 6) := nI_add _ _
  refine ⟨ρ, i, fun k18 => ?_⟩
  unfold s_L_law_919
  rw [a6, e1, bn_some, e2, bn_some, if_pos rfl]
theorem lwv_932 (h : InvR σ σ) {L j : Nat} (hj : j + 6 ≤ L) (hL : L ≤ 3072) : ∃ ρ, InvR ρ ρ ∧ ∀ k18, s_L_law_932 L k18 σ (nI j) = k18 ρ (nI (j + 6)) := by
  obtain ⟨v, τ, ρ, e1, e2, i, n1, n2⟩ := call_sheet h (σ 990 (j + 1)) (σ 990 (j + 2)) (σ 990 (j + 3))
  have e2 : s_X11_sheet τ (σ 990 (j + 1)) (σ 990 (j + 2)) (σ 990 (j + 3)) = some (v, ρ) := e2
  have a6 : nI j + 6 = nI (j + 6) := nI_add _ _
  have a1 : nI j + 1 = nI (j + 1) := nI_add _ _
  have b1 : inb (nI (j + 1)) L = true := inb_nI (by omega) (by omega)
  have a2 : nI j + 2 = nI (j + 2) := nI_add _ _
  have b2 : inb (nI (j + 2)) L = true := inb_nI (by omega) (by omega)
  have a3 : nI j + 3 = nI (j + 3) := nI_add _ _
  have b3 : inb (nI (j + 3)) L = true := inb_nI (by omega) (by omega)
  refine ⟨ρ, i, fun k18 => ?_⟩
  unfold s_L_law_932
  rw [a6, a1, a2, a3, if_pos b1, if_pos b2, if_pos b3, cl_nI (by omega), cl_nI (by omega), cl_nI (by omega), e1, bn_some, if_pos b1, if_pos b2, if_pos b3, n1, e2, bn_some, if_pos rfl]
theorem lwv_975 (h : InvR σ σ) {L j : Nat} (hj : j + 6 ≤ L) (hL : L ≤ 3072) : ∃ ρ, InvR ρ ρ ∧ ∀ k18, s_L_law_975 L k18 σ (nI j) = k18 ρ (nI (j + 6)) := by
  obtain ⟨v, τ, ρ, e1, e2, i, n1, n2⟩ := call_mark h (σ 990 (j + 1)) (σ 990 (j + 2)) (σ 990 (j + 3))
  have e2 : s_X11_mark τ (σ 990 (j + 1)) (σ 990 (j + 2)) (σ 990 (j + 3)) = some (v, ρ) := e2
  have a6 : nI j + 6 = nI (j + 6) := nI_add _ _
  have a1 : nI j + 1 = nI (j + 1) := nI_add _ _
  have b1 : inb (nI (j + 1)) L = true := inb_nI (by omega) (by omega)
  have a2 : nI j + 2 = nI (j + 2) := nI_add _ _
  have b2 : inb (nI (j + 2)) L = true := inb_nI (by omega) (by omega)
  have a3 : nI j + 3 = nI (j + 3) := nI_add _ _
  have b3 : inb (nI (j + 3)) L = true := inb_nI (by omega) (by omega)
  refine ⟨ρ, i, fun k18 => ?_⟩
  unfold s_L_law_975
  rw [a6, a1, a2, a3, if_pos b1, if_pos b2, if_pos b3, cl_nI (by omega), cl_nI (by omega), cl_nI (by omega), e1, bn_some, if_pos b1, if_pos b2, if_pos b3, n1, e2, bn_some, if_pos rfl]
theorem lwv_1018 (h : InvR σ σ) {L j : Nat} (hj : j + 6 ≤ L) (hL : L ≤ 3072) : ∃ ρ, InvR ρ ρ ∧ ∀ k18, s_L_law_1018 L k18 σ (nI j) = k18 ρ (nI (j + 6)) := by
  obtain ⟨v, τ, ρ, e1, e2, i, n1, n2⟩ := call_powers h (σ 990 (j + 1)) (σ 990 (j + 2))
  have e2 : s_X11_powers τ (σ 990 (j + 1)) (σ 990 (j + 2)) = some (v, ρ) := e2
  have a6 : nI j + 6 = nI (j + 6) := nI_add _ _
  have a1 : nI j + 1 = nI (j + 1) := nI_add _ _
  have b1 : inb (nI (j + 1)) L = true := inb_nI (by omega) (by omega)
  have a2 : nI j + 2 = nI (j + 2) := nI_add _ _
  have b2 : inb (nI (j + 2)) L = true := inb_nI (by omega) (by omega)
  refine ⟨ρ, i, fun k18 => ?_⟩
  unfold s_L_law_1018
  rw [a6, a1, a2, if_pos b1, if_pos b2, cl_nI (by omega), cl_nI (by omega), e1, bn_some, if_pos b1, if_pos b2, n1, e2, bn_some, if_pos rfl]
theorem lwv_1051 (h : InvR σ σ) {L j : Nat} (hj : j + 6 ≤ L) (hL : L ≤ 3072) : ∃ ρ, InvR ρ ρ ∧ ∀ k18, s_L_law_1051 L k18 σ (nI j) = k18 ρ (nI (j + 6)) := by
  obtain ⟨v, τ, ρ, e1, e2, i, n1, n2⟩ := call_copy h (σ 990 (j + 1)) (σ 990 (j + 2)) (σ 990 (j + 3)) (σ 990 (j + 4)) (σ 990 (j + 5))
  have e2 : s_X11_copy τ (σ 990 (j + 1)) (σ 990 (j + 2)) (σ 990 (j + 3)) (σ 990 (j + 4)) (σ 990 (j + 5)) = some (v, ρ) := e2
  have a6 : nI j + 6 = nI (j + 6) := nI_add _ _
  have a1 : nI j + 1 = nI (j + 1) := nI_add _ _
  have b1 : inb (nI (j + 1)) L = true := inb_nI (by omega) (by omega)
  have a2 : nI j + 2 = nI (j + 2) := nI_add _ _
  have b2 : inb (nI (j + 2)) L = true := inb_nI (by omega) (by omega)
  have a3 : nI j + 3 = nI (j + 3) := nI_add _ _
  have b3 : inb (nI (j + 3)) L = true := inb_nI (by omega) (by omega)
  have a4 : nI j + 4 = nI (j + 4) := nI_add _ _
  have b4 : inb (nI (j + 4)) L = true := inb_nI (by omega) (by omega)
  have a5 : nI j + 5 = nI (j + 5) := nI_add _ _
  have b5 : inb (nI (j + 5)) L = true := inb_nI (by omega) (by omega)
  refine ⟨ρ, i, fun k18 => ?_⟩
  unfold s_L_law_1051
  rw [a6, a1, a2, a3, a4, a5, if_pos b1, if_pos b2, if_pos b3, if_pos b4, if_pos b5, cl_nI (by omega), cl_nI (by omega), cl_nI (by omega), cl_nI (by omega), cl_nI (by omega), e1, bn_some, if_pos b1, if_pos b2, if_pos b3, if_pos b4, if_pos b5, n1, e2, bn_some, if_pos rfl]
theorem lwv_1114 (h : InvR σ σ) {L j : Nat} (hj : j + 6 ≤ L) (hL : L ≤ 3072) : ∃ ρ, InvR ρ ρ ∧ ∀ k18, s_L_law_1114 L k18 σ (nI j) = k18 ρ (nI (j + 6)) := by
  obtain ⟨v, τ, ρ, e1, e2, i, n1, n2⟩ := call_lay h (σ 990 (j + 1)) (σ 990 (j + 2)) (σ 990 (j + 3))
  have e2 : s_X11_lay τ (σ 990 (j + 1)) (σ 990 (j + 2)) (σ 990 (j + 3)) = some (v, ρ) := e2
  have a6 : nI j + 6 = nI (j + 6) := nI_add _ _
  have a1 : nI j + 1 = nI (j + 1) := nI_add _ _
  have b1 : inb (nI (j + 1)) L = true := inb_nI (by omega) (by omega)
  have a2 : nI j + 2 = nI (j + 2) := nI_add _ _
  have b2 : inb (nI (j + 2)) L = true := inb_nI (by omega) (by omega)
  have a3 : nI j + 3 = nI (j + 3) := nI_add _ _
  have b3 : inb (nI (j + 3)) L = true := inb_nI (by omega) (by omega)
  refine ⟨ρ, i, fun k18 => ?_⟩
  unfold s_L_law_1114
  rw [a6, a1, a2, a3, if_pos b1, if_pos b2, if_pos b3, cl_nI (by omega), cl_nI (by omega), cl_nI (by omega), e1, bn_some, if_pos b1, if_pos b2, if_pos b3, n1, e2, bn_some, if_pos rfl]
theorem lwv_1157 (h : InvR σ σ) {L j : Nat} (hj : j + 6 ≤ L) (hL : L ≤ 3072) : ∃ ρ, InvR ρ ρ ∧ ∀ k18, s_L_law_1157 L k18 σ (nI j) = k18 ρ (nI (j + 6)) := by
  obtain ⟨v, τ, ρ, e1, e2, i, n1, n2⟩ := call_ask h (σ 990 (j + 1)) (σ 990 (j + 2))
  have e2 : s_X11_ask τ (σ 990 (j + 1)) (σ 990 (j + 2)) = some (v, ρ) := e2
  have a6 : nI j + 6 = nI (j + 6) := nI_add _ _
  have a1 : nI j + 1 = nI (j + 1) := nI_add _ _
  have b1 : inb (nI (j + 1)) L = true := inb_nI (by omega) (by omega)
  have a2 : nI j + 2 = nI (j + 2) := nI_add _ _
  have b2 : inb (nI (j + 2)) L = true := inb_nI (by omega) (by omega)
  refine ⟨ρ, i, fun k18 => ?_⟩
  unfold s_L_law_1157
  rw [a6, a1, a2, if_pos b1, if_pos b2, cl_nI (by omega), cl_nI (by omega), e1, bn_some, if_pos b1, if_pos b2, n1, e2, bn_some, if_pos rfl]
theorem lwv_1190 (h : InvR σ σ) {L j : Nat} (hj : j + 6 ≤ L) (hL : L ≤ 3072) : ∃ ρ, InvR ρ ρ ∧ ∀ k18, s_L_law_1190 L k18 σ (nI j) = k18 ρ (nI (j + 6)) := by
  obtain ⟨v, τ, ρ, e1, e2, i, n1, n2⟩ := call_item h (σ 990 (j + 1)) (σ 990 (j + 2))
  have e2 : s_X11_item τ (σ 990 (j + 1)) (σ 990 (j + 2)) = some (v, ρ) := e2
  have a6 : nI j + 6 = nI (j + 6) := nI_add _ _
  have a1 : nI j + 1 = nI (j + 1) := nI_add _ _
  have b1 : inb (nI (j + 1)) L = true := inb_nI (by omega) (by omega)
  have a2 : nI j + 2 = nI (j + 2) := nI_add _ _
  have b2 : inb (nI (j + 2)) L = true := inb_nI (by omega) (by omega)
  refine ⟨ρ, i, fun k18 => ?_⟩
  unfold s_L_law_1190
  rw [a6, a1, a2, if_pos b1, if_pos b2, cl_nI (by omega), cl_nI (by omega), e1, bn_some, if_pos b1, if_pos b2, n1, e2, bn_some, if_pos rfl]
theorem lwv_1223 (h : InvR σ σ) {L j : Nat} (hj : j + 6 ≤ L) (hL : L ≤ 3072) : ∃ ρ, InvR ρ ρ ∧ ∀ k18, s_L_law_1223 L k18 σ (nI j) = k18 ρ (nI (j + 6)) := by
  obtain ⟨v, τ, ρ, e1, e2, i, n1, n2⟩ := call_rest h (σ 990 (j + 1)) (σ 990 (j + 2))
  have e2 : s_X11_rest τ (σ 990 (j + 1)) (σ 990 (j + 2)) = some (v, ρ) := e2
  have a6 : nI j + 6 = nI (j + 6) := nI_add _ _
  have a1 : nI j + 1 = nI (j + 1) := nI_add _ _
  have b1 : inb (nI (j + 1)) L = true := inb_nI (by omega) (by omega)
  have a2 : nI j + 2 = nI (j + 2) := nI_add _ _
  have b2 : inb (nI (j + 2)) L = true := inb_nI (by omega) (by omega)
  refine ⟨ρ, i, fun k18 => ?_⟩
  unfold s_L_law_1223
  rw [a6, a1, a2, if_pos b1, if_pos b2, cl_nI (by omega), cl_nI (by omega), e1, bn_some, if_pos b1, if_pos b2, n1, e2, bn_some, if_pos rfl]
theorem lwv_1256 (h : InvR σ σ) {L j : Nat} (hj : j + 6 ≤ L) (hL : L ≤ 3072) : ∃ ρ, InvR ρ ρ ∧ ∀ k18, s_L_law_1256 L k18 σ (nI j) = k18 ρ (nI (j + 6)) := by
  obtain ⟨v, τ, ρ, e1, e2, i, n1, n2⟩ := call_tell h (σ 990 (j + 1))
  have e2 : s_X11_tell τ (σ 990 (j + 1)) = some (v, ρ) := e2
  have a6 : nI j + 6 = nI (j + 6) := nI_add _ _
  have a1 : nI j + 1 = nI (j + 1) := nI_add _ _
  have b1 : inb (nI (j + 1)) L = true := inb_nI (by omega) (by omega)
  refine ⟨ρ, i, fun k18 => ?_⟩
  unfold s_L_law_1256
  rw [a6, a1, if_pos b1, cl_nI (by omega), e1, bn_some, if_pos b1, n1, e2, bn_some, if_pos rfl]
theorem lwv_1279 (h : InvR σ σ) {L j : Nat} (hj : j + 6 ≤ L) (hL : L ≤ 3072) : ∃ ρ, InvR ρ ρ ∧ ∀ k18, s_L_law_1279 L k18 σ (nI j) = k18 ρ (nI (j + 6)) := by
  obtain ⟨v, τ, ρ, e1, e2, i, n1, n2⟩ := call_check h (σ 990 (j + 1))
  have e2 : s_X11_check τ (σ 990 (j + 1)) = some (v, ρ) := e2
  have a6 : nI j + 6 = nI (j + 6) := nI_add _ _
  have a1 : nI j + 1 = nI (j + 1) := nI_add _ _
  have b1 : inb (nI (j + 1)) L = true := inb_nI (by omega) (by omega)
  refine ⟨ρ, i, fun k18 => ?_⟩
  unfold s_L_law_1279
  rw [a6, a1, if_pos b1, cl_nI (by omega), e1, bn_some, if_pos b1, n1, e2, bn_some, if_pos rfl]
theorem lwv_1302 (h : InvR σ σ) {L j : Nat} (hj : j + 6 ≤ L) (hL : L ≤ 3072) : ∃ ρ, InvR ρ ρ ∧ ∀ k18, s_L_law_1302 L k18 σ (nI j) = k18 ρ (nI (j + 6)) := by
  obtain ⟨v, τ, ρ, e1, e2, i, n1, n2⟩ := call_keep h
  have e2 : s_X11_keep τ = some (v, ρ) := e2
  have a6 : nI j + 6 = nI (j + 6) := nI_add _ _
  refine ⟨ρ, i, fun k18 => ?_⟩
  unfold s_L_law_1302
  rw [a6, e1, bn_some, e2, bn_some, if_pos rfl]
theorem lwv_1315 (h : InvR σ σ) {L j : Nat} (hj : j + 6 ≤ L) (hL : L ≤ 3072) : ∃ ρ, InvR ρ ρ ∧ ∀ k18, s_L_law_1315 L k18 σ (nI j) = k18 ρ (nI (j + 6)) := by
  obtain ⟨v, τ, ρ, e1, e2, i, n1, n2⟩ := call_back h
  have e2 : s_X11_back τ = some (v, ρ) := e2
  have a6 : nI j + 6 = nI (j + 6) := nI_add _ _
  refine ⟨ρ, i, fun k18 => ?_⟩
  unfold s_L_law_1315
  rw [a6, e1, bn_some, e2, bn_some, if_pos rfl]
theorem lwv_1328 (h : InvR σ σ) {L j : Nat} (hj : j + 6 ≤ L) (hL : L ≤ 3072) : ∃ ρ, InvR ρ ρ ∧ ∀ k18, s_L_law_1328 L k18 σ (nI j) = k18 ρ (nI (j + 6)) := by
  obtain ⟨v, τ, ρ, e1, e2, i, n1, n2⟩ := call_count h (σ 990 (j + 1))
  have e2 : s_X11_count τ (σ 990 (j + 1)) = some (v, ρ) := e2
  have a6 : nI j + 6 = nI (j + 6) := nI_add _ _
  have a1 : nI j + 1 = nI (j + 1) := nI_add _ _
  have b1 : inb (nI (j + 1)) L = true := inb_nI (by omega) (by omega)
  refine ⟨ρ, i, fun k18 => ?_⟩
  unfold s_L_law_1328
  rw [a6, a1, if_pos b1, cl_nI (by omega), e1, bn_some, if_pos b1, n1, e2, bn_some, if_pos rfl]
theorem lwv_end {L j : Nat} (hL : L ≤ 3072) (hj : j ≤ 4096) : ((Int32.ofNat L) - 6 < nI j) = (L < j + 6) := by
  by_cases c : 6 ≤ L
  · have e : (Int32.ofNat L) - 6 = nI (L - 6) := pk_sub (a := L) (b := 6) c
    rw [e]
    by_cases d : L < j + 6
    · exact propext ⟨fun _ => d, fun _ => nI_lt (a := L - 6) (by omega) (by omega)⟩
    · exact propext ⟨fun x => absurd x (nI_nlt (a := L - 6) (by omega) (by omega)), fun x => absurd x d⟩
  · have e : (Int32.ofNat L) - 6 < 0 := by
      have : L = 0 ∨ L = 1 ∨ L = 2 ∨ L = 3 ∨ L = 4 ∨ L = 5 := by omega
      rcases this with rfl | rfl | rfl | rfl | rfl | rfl <;> decide
    have g : (0 : Int32) ≤ nI j := nI_le (a := 0) (by omega) (by omega)
    exact propext ⟨fun _ => by omega, fun _ => Int32.lt_of_lt_of_le e g⟩
set_option maxRecDepth 100000 in
theorem lwv_18 {L : Nat} (hL : L ≤ 3072) : ∀ (f : Nat) (σ : Sg) (j : Nat), InvR σ σ → L + 6 < j + 6 * f → j ≤ L + 6 → ∃ σ', s_L_law_18 L f σ (nI j) = some (1, σ') := by
  intro f
  induction f with
  | zero => intro σ j _ a b; omega
  | succ f ih =>
    intro σ j h a b
    simp only [s_L_law_18, lwv_end hL (show j ≤ 4096 by omega)]
    by_cases c : L < j + 6
    · rw [if_pos c]; exact ⟨σ, rfl⟩
    rw [if_neg c, if_pos (inb_nI (by omega) (by omega))]
    have hj : j + 6 ≤ L := by omega
    have stp : ∀ F : (Sg → Int32 → RO) → RO, (∃ ρ, InvR ρ ρ ∧ ∀ k18, F k18 = k18 ρ (nI (j + 6))) → ∃ σ', F (s_L_law_18 L f) = some (1, σ') := by
      intro F ⟨ρ, i, e⟩
      rw [e]
      exact ih ρ (j + 6) i (by omega) (by omega)
    generalize Int32.toInt ((σ 990 (nI j).toNatClampNeg) &&& 63) = w
    by_cases w0 : w = 0
    · rw [if_pos w0]; exact stp (fun k => s_L_law_204 L k σ (nI j)) (lwv_204 h hj hL)
    rw [if_neg w0]
    by_cases w1 : w = 1
    · rw [if_pos w1]; exact stp (fun k => s_L_law_247 L k σ (nI j)) (lwv_247 h hj hL)
    rw [if_neg w1]
    by_cases w2 : w = 2
    · rw [if_pos w2]; exact stp (fun k => s_L_law_280 L k σ (nI j)) (lwv_280 h hj hL)
    rw [if_neg w2]
    by_cases w3 : w = 3
    · rw [if_pos w3]; exact stp (fun k => s_L_law_313 L k σ (nI j)) (lwv_313 h hj hL)
    rw [if_neg w3]
    by_cases w4 : w = 4
    · rw [if_pos w4]; exact stp (fun k => s_L_law_346 L k σ (nI j)) (lwv_346 h hj hL)
    rw [if_neg w4]
    by_cases w5 : w = 5
    · rw [if_pos w5]; exact stp (fun k => s_L_law_379 L k σ (nI j)) (lwv_379 h hj hL)
    rw [if_neg w5]
    by_cases w6 : w = 6
    · rw [if_pos w6]; exact stp (fun k => s_L_law_412 L k σ (nI j)) (lwv_412 h hj hL)
    rw [if_neg w6]
    by_cases w7 : w = 7
    · rw [if_pos w7]; exact stp (fun k => s_L_law_445 L k σ (nI j)) (lwv_445 h hj hL)
    rw [if_neg w7]
    by_cases w8 : w = 8
    · rw [if_pos w8]; exact stp (fun k => s_L_law_478 L k σ (nI j)) (lwv_478 h hj hL)
    rw [if_neg w8]
    by_cases w9 : w = 9
    · rw [if_pos w9]; exact stp (fun k => s_L_law_501 L k σ (nI j)) (lwv_501 h hj hL)
    rw [if_neg w9]
    by_cases w10 : w = 10
    · rw [if_pos w10]; exact stp (fun k => s_L_law_534 L k σ (nI j)) (lwv_534 h hj hL)
    rw [if_neg w10]
    by_cases w11 : w = 11
    · rw [if_pos w11]; exact stp (fun k => s_L_law_577 L k σ (nI j)) (lwv_577 h hj hL)
    rw [if_neg w11]
    by_cases w12 : w = 12
    · rw [if_pos w12]; exact stp (fun k => s_L_law_590 L k σ (nI j)) (lwv_590 h hj hL)
    rw [if_neg w12]
    by_cases w13 : w = 13
    · rw [if_pos w13]; exact stp (fun k => s_L_law_613 L k σ (nI j)) (lwv_613 h hj hL)
    rw [if_neg w13]
    by_cases w14 : w = 14
    · rw [if_pos w14]; exact stp (fun k => s_L_law_646 L k σ (nI j)) (lwv_646 h hj hL)
    rw [if_neg w14]
    by_cases w15 : w = 15
    · rw [if_pos w15]; exact stp (fun k => s_L_law_669 L k σ (nI j)) (lwv_669 h hj hL)
    rw [if_neg w15]
    by_cases w16 : w = 16
    · rw [if_pos w16]; exact stp (fun k => s_L_law_702 L k σ (nI j)) (lwv_702 h hj hL)
    rw [if_neg w16]
    by_cases w17 : w = 17
    · rw [if_pos w17]; exact stp (fun k => s_L_law_735 L k σ (nI j)) (lwv_735 h hj hL)
    rw [if_neg w17]
    by_cases w18 : w = 18
    · rw [if_pos w18]; exact stp (fun k => s_L_law_748 L k σ (nI j)) (lwv_748 h hj hL)
    rw [if_neg w18]
    by_cases w19 : w = 19
    · rw [if_pos w19]; exact stp (fun k => s_L_law_791 L k σ (nI j)) (lwv_791 h hj hL)
    rw [if_neg w19]
    by_cases w20 : w = 20
    · rw [if_pos w20]; exact stp (fun k => s_L_law_814 L k σ (nI j)) (lwv_814 h hj hL)
    rw [if_neg w20]
    by_cases w21 : w = 21
    · rw [if_pos w21]; exact stp (fun k => s_L_law_827 L k σ (nI j)) (lwv_827 h hj hL)
    rw [if_neg w21]
    by_cases w22 : w = 22
    · rw [if_pos w22]; exact stp (fun k => s_L_law_860 L k σ (nI j)) (lwv_860 h hj hL)
    rw [if_neg w22]
    by_cases w23 : w = 23
    · rw [if_pos w23]; exact stp (fun k => s_L_law_873 L k σ (nI j)) (lwv_873 h hj hL)
    rw [if_neg w23]
    by_cases w24 : w = 24
    · rw [if_pos w24]; exact stp (fun k => s_L_law_886 L k σ (nI j)) (lwv_886 h hj hL)
    rw [if_neg w24]
    by_cases w25 : w = 25
    · rw [if_pos w25]; exact stp (fun k => s_L_law_919 L k σ (nI j)) (lwv_919 h hj hL)
    rw [if_neg w25]
    by_cases w26 : w = 26
    · rw [if_pos w26]; exact stp (fun k => s_L_law_932 L k σ (nI j)) (lwv_932 h hj hL)
    rw [if_neg w26]
    by_cases w27 : w = 27
    · rw [if_pos w27]; exact stp (fun k => s_L_law_975 L k σ (nI j)) (lwv_975 h hj hL)
    rw [if_neg w27]
    by_cases w28 : w = 28
    · rw [if_pos w28]; exact stp (fun k => s_L_law_1018 L k σ (nI j)) (lwv_1018 h hj hL)
    rw [if_neg w28]
    by_cases w29 : w = 29
    · rw [if_pos w29]; exact stp (fun k => s_L_law_1051 L k σ (nI j)) (lwv_1051 h hj hL)
    rw [if_neg w29]
    by_cases w30 : w = 30
    · rw [if_pos w30]; exact stp (fun k => s_L_law_1114 L k σ (nI j)) (lwv_1114 h hj hL)
    rw [if_neg w30]
    by_cases w31 : w = 31
    · rw [if_pos w31]; exact stp (fun k => s_L_law_1157 L k σ (nI j)) (lwv_1157 h hj hL)
    rw [if_neg w31]
    by_cases w32 : w = 32
    · rw [if_pos w32]; exact stp (fun k => s_L_law_1190 L k σ (nI j)) (lwv_1190 h hj hL)
    rw [if_neg w32]
    by_cases w33 : w = 33
    · rw [if_pos w33]; exact stp (fun k => s_L_law_1223 L k σ (nI j)) (lwv_1223 h hj hL)
    rw [if_neg w33]
    by_cases w34 : w = 34
    · rw [if_pos w34]; exact stp (fun k => s_L_law_1256 L k σ (nI j)) (lwv_1256 h hj hL)
    rw [if_neg w34]
    by_cases w35 : w = 35
    · rw [if_pos w35]; exact stp (fun k => s_L_law_1279 L k σ (nI j)) (lwv_1279 h hj hL)
    rw [if_neg w35]
    by_cases w36 : w = 36
    · rw [if_pos w36]; exact stp (fun k => s_L_law_1302 L k σ (nI j)) (lwv_1302 h hj hL)
    rw [if_neg w36]
    by_cases w37 : w = 37
    · rw [if_pos w37]; exact stp (fun k => s_L_law_1315 L k σ (nI j)) (lwv_1315 h hj hL)
    rw [if_neg w37]
    by_cases w38 : w = 38
    · rw [if_pos w38]; exact stp (fun k => s_L_law_1328 L k σ (nI j)) (lwv_1328 h hj hL)
    rw [if_neg w38]
    rw [show nI j + 6 = nI (j + 6) from nI_add _ _]
    exact ih σ (j + 6) h (by omega) (by omega)
end lv
