def ZB (σ : Sg) : Prop := ∀ c, 151 ≤ c → c ≤ 153 → ∀ j, 2350 ≤ j → σ c j = 0
theorem fr_j : ∀ l, l ∈ frl → ∀ q, q ∈ l → q.2.2.1 < 100 := by decide +kernel
theorem al15 : ∀ c, c < 154 → 151 ≤ c → aln 0 c = 2350 := by decide +kernel
theorem ZB_f {σ : Sg} (h : ZB σ) {ow k u j c : Nat} {v : Int32} (hf : fr ow k = some (u, j)) : ZB (up σ c j v) := by
  obtain ⟨w, hw⟩ := look_mem hf
  have hj : j < 100 := by
    rw [List.getD_eq_getElem?_getD] at hw
    cases hl : frl[ow]? with
    | none => rw [hl] at hw; cases hw
    | some l => rw [hl] at hw; exact fr_j l (List.mem_of_getElem? hl) _ hw
  intro d a b i hi
  unfold up
  by_cases e : d = c
  · subst e
    have : i ≠ j := by omega
    simp [this, h d a b i hi]
  · simp [e, h d a b i hi]
theorem ZB_a {σ : Sg} (h : ZB σ) {i : Int32} {c : Nat} {v : Int32} (hf : inb i (aln 0 c) = true) : ZB (up σ c i.toNatClampNeg v) := by
  intro d a b j hj
  by_cases e : d = c
  · subst e
    rw [al15 d (by omega) a] at hf
    obtain ⟨t, ht, rfl⟩ := inb_of hf (by omega)
    rw [cl_nI (by omega), up_f, ua_n (by omega)]
    exact h d a b j hj
  · rw [up_d e]; exact h d a b j hj
theorem de_z {ow : Nat} {i : Instr} {q q' : DS} (h : de ow i q = some q') (hz : ZB q.2.2.2.2.1) : ZB q'.2.2.2.2.1 := by
  obtain ⟨pc, lo, st, n, σ, ρ⟩ := q
  have hz : ZB σ := hz
  have ha : ∀ t N pc' r, d_alloc t N pc' n lo r σ ρ = some q' → ZB q'.2.2.2.2.1 := by
    intro t N pc' r h
    unfold d_alloc at h
    split at h
    · cases h; exact hz
    · cases h
  unfold de at h
  simp only at h
  split at h
  all_goals repeat' (split at h)
  all_goals first | (cases h; exact hz) | exact ha _ _ _ _ h | (cases h; exact ZB_f hz (by assumption)) | (cases h; exact ZB_a hz (by assumption)) | cases h
theorem dgo_z : ∀ (d fu ow nL : Nat) (K : List (Nat × Instr × Nat)) (q q' : DS), dgo d ow nL K q fu = some q' → ZB q.2.2.2.2.1 → ZB q'.2.2.2.2.1 := by
  intro d
  induction d with
  | zero => intro fu ow nL K q q' h; cases h
  | succ d ihd =>
    intro fu
    induction fu with
    | zero => intro ow nL K q q' h; cases h
    | succ fu ih =>
      intro ow nL K q q' h hz
      rw [dgo_s] at h
      split at h
      · split at h
        · cases h; exact hz
        · cases h
      · split at h
        · split at h
          · split at h
            · exact ih _ _ _ _ _ h hz
            · cases h
          · cases h
        · split at h
          · split at h
            · split at h
              · rename_i hq
                have h1 := ihd _ _ _ _ _ _ hq hz
                exact ih _ _ _ _ _ h h1
              · cases h
            · cases h
          · cases h
        · cases h
      · split at h
        · rename_i hq
          exact ih _ _ _ _ _ h (de_z hq hz)
        · cases h
      · cases h
def κ0 : Sg := dyS.2.2.2.2.1
theorem κ0_z : ZB κ0 := by
  have h := dy_some
  simp only [Bool.and_eq_true] at h
  have hx : ZB dxS.2.2.2.2.1 := by
    have h2 := dx_some
    simp only [Bool.and_eq_true] at h2
    cases hd : dx with
    | none => rw [hd] at h2; cases h2.1
    | some q =>
      have hq : dxS = q := by unfold dxS; rw [hd]; rfl
      rw [hq]
      unfold dx at hd
      exact dgo_z _ _ _ _ _ _ _ hd (fun _ _ _ _ _ => rfl)
  cases hd : dy with
  | none => rw [hd] at h; cases h.1
  | some q =>
    have hq : dyS = q := by unfold dyS; rw [hd]; rfl
    unfold κ0
    rw [hq]
    unfold dy at hd
    exact dgo_z _ _ _ _ _ _ _ hd hx
def smd (N : Nat) (v : Int32) : Prop := v.toNatClampNeg ≤ N ∧ v = nI v.toNatClampNeg
theorem smd_s {N : Nat} {v : Int32} (h : smd N v) : sm N v := ⟨_, h.1, h.2⟩
theorem k_1 : (κ0 151 0 = 0 ∧ κ0 151 1 = 0 ∧ κ0 151 2 = 0 ∧ κ0 151 3 = 0) ∧ (κ0 2 1 = κ0 151 0 ∧ κ0 2 10 = κ0 151 1 ∧ κ0 2 11 = κ0 151 4) ∧ (∀ k, k < 5 → κ0 9 k = κ0 151 (5 + k)) ∧ (κ0 2 12 = 0 ∧ κ0 2 13 = 0) ∧ (κ0 1 2 = κ0 151 2 ∧ κ0 21 3 = κ0 151 3) := by decide +kernel
theorem k_2 : (κ0 0 2 = κ0 150 3 ∧ κ0 150 3 = 0) ∧ (κ0 110 4 = 0 ∧ κ0 110 3 = 0 ∧ κ0 150 5 = 0) ∧ (κ0 114 1 = 0 ∧ κ0 150 23 = 0) ∧ (κ0 0 10 = 0 ∧ κ0 150 38 = 0) := by decide +kernel
theorem k_3 : smd 9 (κ0 151 5) ∧ smd 9 (κ0 151 6) ∧ smd 9 (κ0 151 7) ∧ smd 99 (κ0 151 8) ∧ smd 240 (κ0 151 9) := by unfold smd; decide +kernel
theorem k_4 : ∀ k, k < 4 → κ0 (120 + 2 * k) 0 = κ0 155 k ∧ κ0 (120 + 2 * k) 1 = κ0 156 k ∧ (∀ i, i < 24 → κ0 (121 + 2 * k) i = κ0 157 (24 * k + i)) ∧ (κ0 155 k = -1 ∨ smd 2 (κ0 155 k)) ∧ smd 24 (κ0 156 k) := by unfold smd; decide +kernel
theorem k_5 : (∀ k, k < 5 → κ0 (129 + 4 * k) 0 = κ0 158 k ∧ κ0 158 k = 0) ∧ ∀ k, k < 5 → κ0 162 k = mCr k := by decide +kernel
theorem k_6 : ∀ k, k < 5 → sva 1 k = (if k = 4 then 1 else 0) ∧ sva 2 k = mCr k ∧ sva 3 k = nI (pm k).length := by decide
theorem inv_0 (xs : Nat → Int32) : InvR (σ0 xs) (σ0 xs) := by
  have lo : ∀ c, c < 173 → σ0 xs c = κ0 c := fun c h => by unfold σ0 κ0; rw [if_pos h]
  have hi : ∀ c, 900 ≤ c → c < 904 → σ0 xs c = sva (c - 900) := fun c h1 h2 => by unfold σ0; rw [if_neg (by omega), if_neg (by omega), if_pos ⟨h1, h2⟩]
  obtain ⟨⟨a0, a1, a2, a3⟩, b, d, f, g⟩ := k_1
  obtain ⟨u1, u2, u3, u4⟩ := k_2
  have n0 : nB (κ0 151) = 0 := by unfold nB; rw [a0]; rfl
  have m0 : nN (κ0 151) = 0 := by unfold nN; rw [a1]; rfl
  have t0 : nT (κ0 151) = 0 := by unfold nT; rw [a2]; rfl
  have s0 : nK (κ0 151) = 0 := by unfold nK; rw [a3]; rfl
  have z : ∀ c, 151 ≤ c → c ≤ 153 → WZ (κ0 c) := fun c h1 h2 j hj => κ0_z c h1 h2 j hj
  have pm0 : ∀ f : Nat → Nat, PM f 0 := fun f => ⟨fun i h => absurd h (by omega), fun i j h => absurd h (by omega), fun j h => absurd h (by omega)⟩
  have w : WSA (κ0 151) := by
    refine ⟨⟨⟨by rw [n0]; exact a0, by omega⟩, ⟨fun i h => absurd h (by omega), fun i h => absurd h (by omega), by rw [n0]; exact pm0 _, by rw [n0]; exact pm0 _⟩, fun i h => absurd h (by omega), ⟨by rw [m0]; exact a1, by omega, fun i h => absurd h (by omega)⟩, ?_⟩, ⟨by rw [t0]; exact a2, by omega⟩, ⟨by rw [s0]; exact a3, by omega⟩, z 151 (by omega) (by omega)⟩
    obtain ⟨k1, k2, k3, k4, k5⟩ := k_3
    exact ⟨smd_s k1, smd_s k2, smd_s k3, smd_s k4, smd_s k5⟩
  have pl : PLA (κ0 151) = (fun _ => 0, fun _ => 0, 0, 0) := by unfold PLA; rw [n0]; rfl
  unfold InvR
  rw [lo 151 (by omega)]
  refine ⟨w, ⟨⟨⟨?_, fun i h => absurd h (by omega), fun i h => absurd h (by omega), ?_, fun i h => absurd h (by omega)⟩, fun i h => absurd h (by omega), fun i h => absurd h (by omega), ?_, ?_⟩, ?_, fun t h => absurd h (by omega), ?_, fun t h => absurd h (by omega)⟩, ⟨?_, ?_, ?_, .inl ?_⟩, ⟨[], by simp, ⟨?_, 0, by omega, ?_, fun i e h => by simp at h⟩, ⟨?_, fun i e h => by simp at h⟩, trivial⟩, ⟨0, by omega, ?_, ?_, fun i h => absurd h (by omega)⟩, ?_, ?_, ⟨0, by omega, ?_, ?_, fun i h => absurd h (by omega)⟩, ⟨?_, ?_, ?_⟩⟩
  · rw [lo 2 (by omega)]; exact b
  · intro k hk; rw [lo _ (by omega)]; exact d k hk
  · rw [lo 2 (by omega)]; unfold WW; rw [pl]; exact f.1
  · rw [lo 2 (by omega)]; unfold HH; rw [pl]; exact f.2
  · rw [lo 1 (by omega)]; exact g.1
  · rw [lo _ (by omega)]; exact g.2
  · rw [lo 0 (by omega), lo 150 (by omega)]; exact u1.1
  · rw [lo _ (by omega)]; exact z _ (by omega) (by omega)
  · rw [lo _ (by omega)]; exact z _ (by omega) (by omega)
  · rw [lo _ (by omega)]; exact u1.2
  · rw [lo _ (by omega)]; exact u2.1
  · rw [lo _ (by omega)]; exact u2.2.1
  · rw [lo _ (by omega)]; exact u2.2.2
  · rw [lo _ (by omega)]; exact u3.1
  · rw [lo _ (by omega)]; exact u3.2
  · intro k hk
    obtain ⟨q1, q2, q3, q4, q5⟩ := k_4 k hk
    rw [lo _ (by omega), lo (121 + 2 * k) (by omega), lo 155 (by omega), lo 156 (by omega), lo 157 (by omega)]
    exact ⟨q1, q2, q3, q4.elim .inl (fun x => .inr (smd_s x)), smd_s q5⟩
  · intro k hk
    obtain ⟨q1, q2⟩ := k_5.1 k hk
    rw [lo (129 + 4 * k) (by omega), lo 158 (by omega), q2]
    refine ⟨by rw [q1, q2], ⟨0, by omega, rfl⟩, fun x => absurd x (by decide), fun x => absurd x (by decide), fun x => absurd x (by decide)⟩
  · rw [lo _ (by omega)]; exact u4.1
  · rw [lo _ (by omega)]; exact u4.2
  · unfold KA; rw [hi 900 (by omega) (by omega)]; decide
  · intro n hn
    rw [hi 903 (by omega) (by omega)]; exact (k_6 n (by omega)).2.2
  · intro k hk
    rw [hi 901 (by omega) (by omega), hi 902 (by omega) (by omega), lo 162 (by omega)]
    exact ⟨(k_6 k hk).1, (k_6 k hk).2.1, k_5.2 k hk⟩
theorem law_true (L : Nat) (xs : Nat → Int32) (hL : L ≤ 3072) : ∃ σ', s_L_law L (σ0 xs) = some (1, σ') := by
  unfold s_L_law
  exact lwv_18 hL 4096 (σ0 xs) 0 (inv_0 xs) (by omega) (by omega)
