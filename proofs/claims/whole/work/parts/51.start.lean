def dx : Option DS := dgo 8 10 2 kX10_init (0, ent 2 [br 11 0], [], 1, σz, ρz) 400
def dxS : DS := dx.getD (0, [], [], 0, σz, ρz)
def dy : Option DS := dgo 8 11 2 kX11_init (0, ent 2 [br 12 150], [], 151, dxS.2.2.2.2.1, dxS.2.2.2.2.2) 400
def dyS : DS := dy.getD (0, [], [], 0, σz, ρz)
theorem dx_some : (dx.isSome && Nat.beq dxS.2.2.2.1 150) = true := by decide +kernel
theorem dy_some : (dy.isSome && (Nat.beq dyS.2.2.2.1 173 && dck dyS.2.2.2.2.2)) = true := by decide +kernel
def σ0 (xs : Nat → Int32) : Sg := fun c => if c < 173 then dyS.2.2.2.2.1 c else if c = 990 then xs else if 900 ≤ c ∧ c < 904 then sva (c - 900) else fun _ => 0
theorem σ0_SX (L : Nat) (xs : Nat → Int32) : SX L xs (σ0 xs) := by
  refine ⟨fun j i hj hi => ?_, fun i hi => ?_⟩
  · unfold σ0
    rw [if_neg (by omega), if_neg (by omega), if_pos (by omega), Nat.add_sub_cancel_left]
  · unfold σ0
    rw [if_neg (by omega), if_pos rfl]
theorem arrV_ext {cI : ClassId} {N : Nat} {f g : Nat → Value} (h : ∀ j, j < N → f j = g j) : arrV cI N f = arrV cI N g := by
  unfold arrV
  congr 2
  funext j
  exact h j.val j.isLt
theorem wsd_P {D : va_G} {H : Heap} {ad : Nat → Nat} {cA : Nat → ClassId} {xs : Nat → Int32} {ρ : Rh} (h : dck ρ = true) (hP : va_P D cl12 (wsd 173 ad cA dyS.2.2.2.2.1 ρ) H) : va_P D cl12 (wsl ad cA (σ0 xs)) H := by
  intro c q hq
  by_cases hc : c < 173
  · rw [wsl_get hc] at hq
    cases hq
    have hk := kd_in c hc
    have h0 := hP c _ (wsd_get hc)
    unfold dck at h
    have h1 := List.all_eq_true.mp h c (List.mem_range.mpr hc)
    have e1 : σ0 xs c = dyS.2.2.2.2.1 c := by unfold σ0; rw [if_pos hc]
    rw [e1]
    by_cases h20 : kd c = 20
    · rw [cex_arr h20]
      rw [cexd_arr h20] at h0
      exact h0
    · by_cases h21 : 20 < kd c
      · rw [cex_ref h21]
        rw [cexd_ref h21] at h0
        rw [if_neg (by omega), if_pos h21] at h1
        show H[ad c]? = some (vp_cell _ _)
        have h0 : H[ad c]? = some (vp_cell _ _) := h0
        rw [h0]
        congr 1
        rw [vp_cell_q, vp_cell_q]
        apply arrV_ext
        intro j hj
        have h2 := List.all_eq_true.mp h1 j (List.mem_range.mpr hj)
        simp only [Bool.or_eq_true, Bool.and_eq_true] at h2
        rcases h2 with h2 | h2
        · exact absurd (Nat.le_of_ble_eq_true h2.1) (by omega)
        · rw [eq_of_beq h2]; rfl
      · rw [cex_obj (by omega)]
        rw [cexd_obj (by omega)] at h0
        rw [if_pos (by omega)] at h1
        have e2 : flsd ad (dyS.2.2.2.2.1 c) (ρ c) c = fls ad (dyS.2.2.2.2.1 c) c := by
          unfold flsd fls
          apply List.map_congr_left
          intro k hkk
          have h2 := List.all_eq_true.mp h1 k hkk
          simp only [Bool.or_eq_true, Bool.and_eq_true] at h2
          by_cases hf : ftg (kd c) k = 0
          · rw [if_pos hf, if_pos hf]
          · rw [if_neg hf, if_neg hf]
            rcases h2 with h2 | h2
            · exact absurd (Nat.eq_of_beq_eq_true h2.2) hf
            · rw [eq_of_beq h2]; rfl
        rw [e2] at h0
        exact h0
  · rw [List.getElem?_eq_none (by simp [wsl]; omega)] at hq
    cases hq
