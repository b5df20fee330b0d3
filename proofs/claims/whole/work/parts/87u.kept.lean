section kpt
variable {σ : Sg}
def KCc (w : Nat) : Prop := (rt w 0 = w + 1 ∧ rt w 1 = w + 2 ∧ rt w 2 = w + 3) ∧ aln 0 (w + 1) = 8 ∧ aln 0 (w + 2) = 8 ∧ aln 0 (w + 3) = 8
theorem kc21 : KCc 21 := by unfold KCc; decide
theorem kc65 : KCc 65 := by unfold KCc; decide
theorem x2_take {w v : Nat} (hw : KCc w) (hv : KCc v) (h : v + 4 ≤ w ∨ w + 4 ≤ v) : Gv (s_X2_takeFrom σ w v) (fun _ τ => τ w 3 = σ v 3 ∧ (∀ k, k < 8 → τ (w + 1) k = σ (v + 1) k ∧ τ (w + 2) k = σ (v + 2) k ∧ τ (w + 3) k = σ (v + 3) k) ∧ ∀ c, c < w ∨ w + 4 ≤ c → τ c = σ c) := by
  obtain ⟨⟨a1, a2, a3⟩, a4, a5, a6⟩ := hw
  obtain ⟨⟨b1, b2, b3⟩, b4, b5, b6⟩ := hv
  unfold s_X2_takeFrom
  simp only [a1, a2, a3, a4, a5, a6, b1, b2, b3, b4, b5, b6, ck8, ↓reduceIte, lt_e, k0c, k8c]
  refine gv_i ⟨?_, fun k hk => ⟨?_, ?_, ?_⟩, fun c hc => ?_⟩
  · rw [up_f, ua_s, cpy_d (by omega), cpy_d (by omega), cpy_d (by omega)]
  · rw [up_d (by omega), cpy_d (by omega), cpy_d (by omega), cpy_f, ub0 hk]
  · rw [up_d (by omega), cpy_d (by omega), cpy_f, ub0 hk, cpy_d (by omega)]
  · rw [up_d (by omega), cpy_f, ub0 hk, cpy_d (by omega), cpy_d (by omega)]
  · rw [up_d (by omega), cpy_d (by omega), cpy_d (by omega), cpy_d (by omega)]
end kpt
