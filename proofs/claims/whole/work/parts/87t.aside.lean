section asd
variable {σ : Sg}
theorem m_setAside (σ : Sg) {a b : Nat} (ha : aln 0 a = 2350) (hb : aln 0 b = 2350) (hab : a ≠ b) : Gv (s_X11_setAside σ a b) (fun _ τ => (∀ j, j < 2350 → τ b j = σ a j) ∧ (∀ j, 2350 ≤ j → τ b j = σ b j) ∧ ∀ c, c ≠ b → τ c = σ c) := by
  unfold s_X11_setAside
  refine gv_loop0 (fun m i s => s_X11_setAside_2 m s a b (nI i)) 2350 (fun i s => (∀ j, j < i → s b j = σ a j) ∧ (∀ j, 2350 ≤ j → s b j = σ b j) ∧ ∀ c, c ≠ b → s c = σ c) (by omega) ⟨fun _ h => absurd h (by omega), fun _ _ => rfl, fun _ _ => rfl⟩ ?_ ?_
  · intro m i s hi ⟨p1, p2, p3⟩
    refine ⟨up s b i (s a i), ?_, ?_, ?_, ?_⟩
    · simp only [s_X11_setAside_2]
      have l1 : ¬ (2350 : Int32) ≤ nI i := nI_ge (b := 2350) (by omega) (by omega)
      rw [if_neg l1, ha, hb, if_pos (inb_nI hi (by omega)), if_pos (inb_nI hi (by omega)), lt_e, cl_nI (by omega), nI_1]
    · intro j hj
      rw [up_f]
      by_cases q : j = i
      · subst q; rw [ua_s, p3 _ hab]
      · rw [ua_n q]; exact p1 j (by omega)
    · intro j hj; rw [up_f, ua_n (by omega)]; exact p2 j hj
    · intro c hc; rw [up_d hc]; exact p3 c hc
  · intro m s ⟨p1, p2, p3⟩
    simp only [s_X11_setAside_2]
    have l1 : (2350 : Int32) ≤ nI 2350 := nI_le (a := 2350) (by omega) (by omega)
    rw [if_pos l1]
    exact gv_i ⟨p1, p2, p3⟩
theorem aside_e {A B C : Nat → Int32} (hA : WZ A) (hB : WZ B) (h1 : ∀ j, j < 2350 → C j = A j) (h2 : ∀ j, 2350 ≤ j → C j = B j) : C = A := by
  funext j
  by_cases c : j < 2350
  · exact h1 j c
  · rw [h2 j (by omega), hB j (by omega), hA j (by omega)]
end asd
