section nx
variable {σ τ ρ : Sg}
theorem WF_g {A B : Nat → Int32} (hw : WF A) (h0 : B 0 = A 0) (h : ∀ j, 20 ≤ j → j < 86 → B j = A j) (h4 : W4 B) (h5 : W5 B) : WF B := by
  have n8 := hw.n8
  have en : nB B = nB A := by unfold nB; rw [h0]
  have q1 : ∀ i, i < 8 → o1 B i = o1 A i := fun i hi => by unfold o1; rw [h (70 + i) (by omega) (by omega)]
  have q2 : ∀ i, i < 8 → o2 B i = o2 A i := fun i hi => by unfold o2; rw [h (78 + i) (by omega) (by omega)]
  refine ⟨⟨?_, by omega⟩, ⟨?_, ?_, ?_, ?_⟩, ?_, h4, h5⟩
  · rw [h0, en]; exact hw.n
  · intro i hi; rw [en] at hi; rw [q1 i (by omega), h (70 + i) (by omega) (by omega)]; exact hw.e1 hi
  · intro i hi; rw [en] at hi; rw [q2 i (by omega), h (78 + i) (by omega) (by omega)]; exact hw.e2 hi
  · rw [en]; exact PM_c hw.m1 (fun i hi => q1 i (by omega))
  · rw [en]; exact PM_c hw.m2 (fun i hi => q2 i (by omega))
  · intro i hi
    rw [en] at hi
    have := hw.2.2.1 i hi
    unfold VA pw ly at this ⊢
    rw [h _ (by omega) (by omega), h (20 + 6 * i + 1) (by omega) (by omega), h (20 + 6 * i + 2) (by omega) (by omega), h (20 + 6 * i + 5) (by omega) (by omega), h (20 + 6 * i + 3) (by omega) (by omega), h (20 + 6 * i + 4) (by omega) (by omega)]
    exact this
theorem BR_g {A B : Nat → Int32} {c o : Nat} (h : BR σ c A o) (e : τ c = σ c) (hB : ∀ k, k < 6 → B (o + k) = A (o + k)) : BR τ c B o := by
  obtain ⟨h1, h2, h3⟩ := h
  have b0 : B o = A o := hB 0 (by omega)
  unfold BR
  rw [e, b0, hB 1 (by omega), hB 2 (by omega), hB 5 (by omega)]
  exact ⟨fun k hk => by rw [hB k hk]; exact h1 k hk, h2, h3⟩
theorem RF_g {b : Nat} {A B : Nat → Int32} (hw : WF A) (h : RF σ b A) (h0 : B 0 = A 0) (hB : ∀ j, 20 ≤ j → j < 86 → B j = A j) (e1 : τ b 1 = σ b 1) (e2 : τ b 10 = B 1) (e3 : τ b 11 = B 4) (e4 : τ b 12 = σ b 12 ∧ τ b 13 = σ b 13) (ec : ∀ c, (b + 2 ≤ c ∧ c < b + 6) ∨ (b + 10 ≤ c ∧ c < b + 18) → τ c = σ c) (eR : ∀ k, k < 5 → τ (b + 7) k = B (5 + k)) (eN : ∀ j, j < nN B → τ (b + 8) j = B (90 + 2 * j) ∧ τ (b + 9) j = B (90 + 2 * j + 1)) : RF τ b B := by
  have n8 := hw.n8
  have en : nB B = nB A := by unfold nB; rw [h0]
  refine RF_ap hw h ⟨h0, fun i k a c d => hB _ (by omega) (by omega), fun j a c => hB _ (by omega) (by omega)⟩ ⟨⟨by rw [e1, h0]; exact h.1.n, e2, e3⟩, ?_, ?_, eR, eN⟩ (fun c a => ec c (by omega)) (fun i hi => by rw [ec _ (by omega)]; exact ⟨rfl, rfl⟩) e4
  · intro i hi
    rw [en] at hi
    exact BR_g (h.1.br hi) (ec _ (by omega)) (fun k hk => hB _ (by omega) (by omega))
  · intro i hi
    rw [en] at hi
    rw [ec _ (by omega), ec _ (by omega), hB _ (by omega) (by omega), hB _ (by omega) (by omega)]
    exact ⟨h.1.one hi, h.1.oth hi⟩
def mN (k : Nat) : Nat := if k = 3 then 99 else if k = 4 then 240 else 9
theorem mN_e (k : Nat) : mCr k = nI (mN k) := by
  unfold mCr mN
  split
  · rfl
  · split <;> rfl
theorem mN_b (k : Nat) : mN k ≤ 240 := by unfold mN; split <;> (try split) <;> omega
theorem W5_j {A : Nat → Int32} (h : W5 A) : ∀ j, j < 5 → sm (mN j) (A (5 + j)) := by
  intro j hj
  have : j = 0 ∨ j = 1 ∨ j = 2 ∨ j = 3 ∨ j = 4 := by omega
  obtain ⟨a, b, c, d, e⟩ := h
  rcases this with rfl | rfl | rfl | rfl | rfl
  · exact a
  · exact b
  · exact c
  · exact d
  · exact e
theorem W5_m {A : Nat → Int32} (h : ∀ j, j < 5 → sm (mN j) (A (5 + j))) : W5 A := ⟨h 0 (by omega), h 1 (by omega), h 2 (by omega), h 3 (by omega), h 4 (by omega)⟩
theorem W4_c {A B : Nat → Int32} (h : W4 A) (e1 : B 1 = A 1) (e : ∀ j, 90 ≤ j → j < 110 → B j = A j) : W4 B := by
  have m : nN B = nN A := by unfold nN; rw [e1]
  obtain ⟨a, b, c⟩ := h
  unfold W4; rw [m, e1]
  refine ⟨a, b, fun j hj => ?_⟩
  rw [e _ (by omega) (by omega), e _ (by omega) (by omega)]; exact c j hj
theorem call_rule (h : InvR σ σ) (x y : Int32) : Call σ (s_X10_rule σ x y) (fun τ => s_X11_rule τ x y) := by
  have hw := h.w
  have n8 := hw.n8
  by_cases c : win x 0 4
  · obtain ⟨k, hk, rfl⟩ := win_n (n := 4) (by omega) rfl c
    obtain ⟨c1, c2, c3⟩ := h.2.2.2.2.2.2.2.2.2.2 k (by omega)
    have hM : ∀ τ : Sg, τ 162 k = mCr k → s_X11_rule τ (nI k) y = (bn (some (wI y (if k = 4 then 1 else 0) (mCr k), τ)) fun v2 s1 => if v2 = 0 then some (-1000000001, s1) else bn (s_X11_becomes s1 (5 + nI k) y) fun v4 s3 => some (v4, s3)) := by
      intro τ hτ
      unfold s_X11_rule s_X11_rule_24
      by_cases k4 : k = 4
      · subst k4
        simp (disch := omega) only [isIn_0_4, wI_1 c, bn_some, n10, ↓reduceIte, inb_n, cl_nI, hτ, show nI 4 = 4 from rfl, isIn_1y, b45, k4c]
        rw [if_neg (by decide)]
      · have : ¬ nI k = 4 := fun e => k4 ((nI_eq (a := k) (b := 4) (by omega) (by omega)).mp e)
        simp (disch := omega) only [isIn_0_4, wI_1 c, bn_some, n10, ↓reduceIte, inb_n, cl_nI, hτ, this, isIn_0y, k4]
    by_cases c4 : win y (if k = 4 then 1 else 0) (mCr k)
    · have hv : ∃ t, t ≤ mN k ∧ y = nI t := by
        have := mN_b k
        refine win_n (n := mN k) (by omega) (mN_e k) ⟨?_, c4.2⟩
        refine Int32.le_trans ?_ c4.1
        split <;> decide
      have e : ∀ d, d ≠ 9 → d ≠ 151 → up (up σ 9 k y) 151 (5 + k) y d = σ d := fun d a b => by rw [up_d b, up_d a]
      refine ⟨σ 9 k, up σ 9 k y, up (up σ 9 k y) 151 (5 + k) y, ?_, ?_, ?_, ?_, ?_⟩
      · unfold s_X10_rule
        simp (disch := omega) only [within_e, wI_1 c, bn_some, n10, ↓reduceIte, inb_n, cl_nI, c1, c2, wI_1 c4, lt_e]
      · show s_X11_rule _ _ _ = _
        rw [hM _ (by rw [up_d (by omega)]; exact c3), wI_1 c4, bn_some, if_neg n10]
        simp (disch := omega) only [NK, becomes_e, bn_some]
        rw [up_d (by omega), ← h.f.1.rul (by omega)]
      · refine inv_b h (B := ua (σ 151) (5 + k) y) (by rw [up_f, up_d (by omega)]) ?_ (fun j hj => ua_n (by omega)) ?_ ?_ (fun c a b d f => e c (by omega) (by omega)) (by rw [e _ (by omega) (by omega)]) ⟨by rw [e _ (by omega) (by omega)], by rw [e _ (by omega) (by omega)], by rw [e _ (by omega) (by omega)]⟩
        · refine WF_g hw (ua_n (by omega)) (fun j a b => ua_n (by omega)) (W4_c hw.2.2.2.1 (ua_n (by omega)) (fun j a b => ua_n (by omega))) (W5_m (fun j hj => ?_))
          by_cases q : j = k
          · subst q; rw [ua_s]; exact hv
          · rw [ua_n (by omega)]; exact W5_j hw.2.2.2.2 j hj
        · refine RF_g hw h.f (ua_n (by omega)) (fun j a b => ua_n (by omega)) (by rw [e _ (by omega) (by omega)]) (by rw [e _ (by omega) (by omega), ua_n (by omega)]; exact h.f.1.nets) (by rw [e _ (by omega) (by omega), ua_n (by omega)]; exact h.f.1.z) (by rw [e _ (by omega) (by omega)]; exact ⟨rfl, rfl⟩) (fun c a => e _ (by omega) (by omega)) ?_ ?_
          · intro j hj
            rw [up_d (by omega), up_f]
            by_cases q : j = k
            · subst q; rw [ua_s, ua_s]
            · rw [ua_n q, ua_n (by omega)]; exact h.f.1.rul hj
          · have m : nN (ua (σ 151) (5 + k) y) = nN (σ 151) := by unfold nN; rw [ua_n (by omega)]
            intro j hj
            rw [m] at hj
            rw [e _ (by omega) (by omega), e _ (by omega) (by omega), ua_n (by omega), ua_n (by omega)]
            exact ⟨h.f.1.set hj, h.f.1.wgt hj⟩
        · exact TRL_k h.2.2.2.1 (by unfold nB; rw [ua_n (by omega)]) (fun p hp => ⟨ua_n (by omega), ua_n (by omega), ua_n (by omega)⟩) (fun c a b => e c (by omega) (by omega)) (by rw [e _ (by omega) (by omega)]) (e _ (by omega) (by omega))
      · rw [up_d (by omega)]
      · rw [up_d (by omega), up_d (by omega)]
    · refine call_q h (-1000000001) (bad_c _ _ ?_) (fun τ q => bad_m _ _ ?_)
      · unfold s_X10_rule
        simp (disch := omega) only [within_e, wI_1 c, bn_some, n10, ↓reduceIte, inb_n, cl_nI, c1, c2, wI_0 c4]
      · rw [hM _ (by rw [q.m (by omega)]; exact c3), wI_0 c4, bn_some, if_pos rfl]
  · refine call_q h (-1000000001) (bad_c _ _ ?_) (fun τ q => bad_m _ _ ?_)
    · unfold s_X10_rule
      simp (disch := omega) only [within_e, wI_0 c, bn_some, ↓reduceIte]
    · unfold s_X11_rule
      simp (disch := omega) only [isIn_0_4, wI_0 c, bn_some, ↓reduceIte]
/- nets -/
def bcI (x : Int32) : Int32 :=
  let y1 := x - ((((x).toUInt32 >>> ((1 : Int32).toUInt32 &&& Int32.toUInt32 31)).toInt32) &&& 1431655765)
  let y2 := (y1 &&& 858993459) + ((((y1).toUInt32 >>> ((2 : Int32).toUInt32 &&& Int32.toUInt32 31)).toInt32) &&& 858993459)
  let y3 := (y2 + (((y2).toUInt32 >>> ((4 : Int32).toUInt32 &&& Int32.toUInt32 31)).toInt32)) &&& 252645135
  let y4 := y3 + (((y3).toUInt32 >>> ((8 : Int32).toUInt32 &&& Int32.toUInt32 31)).toInt32)
  let y5 := y4 + (((y4).toUInt32 >>> ((16 : Int32).toUInt32 &&& Int32.toUInt32 31)).toInt32)
  y5 &&& 63
theorem bc_e (σ : Sg) (x : Int32) : s_J6_bitCount_0f7a4 σ x = some (bcI x, σ) := by
  unfold s_J6_bitCount_0f7a4 bcI
  simp only [lt_e]
def onI (x : Int32) : Int32 := itr (fun i s => s + ((x >>> (nI i &&& 31)) &&& 1)) 8 0 0
theorem on_e (σ : Sg) (x : Int32) : s_X11_ones σ x = some (onI x, σ) := by
  unfold s_X11_ones onI
  refine loop0 (fun m i s => s_X11_ones_4 m σ x s (nI i)) (fun s => some (s, σ)) (fun i s => s + ((x >>> (nI i &&& 31)) &&& 1)) 8 0 (by omega) ?_ ?_
  · intro m i a hi
    simp only [s_X11_ones_4]
    have : ¬ (8 : Int32) ≤ nI i := nI_ge (b := 8) hi (by omega)
    rw [if_neg this, lt_e, nI_1]
  · intro m a
    simp only [s_X11_ones_4]
    rw [if_pos (by decide)]
theorem on_bc : ∀ m, m < 256 → onI (nI m) = bcI (nI m) := by decide +kernel
theorem call_net (h : InvR σ σ) (x y : Int32) : Call σ (s_X10_net σ x y) (fun τ => s_X11_net τ x y) := by
  have hw := h.w
  have n8 := hw.n8
  have hn10 := hw.nn10
  have e1 : σ 2 10 = nI (nN (σ 151)) := by rw [h.f.1.nets]; exact hw.nn
  have e2 : σ 151 1 = nI (nN (σ 151)) := hw.nn
  by_cases c : win x 0 255
  · obtain ⟨m, hm, rfl⟩ := win_n (n := 255) (by omega) rfl c
    by_cases c0 : bcI (nI m) < 2
    · refine call_q h (-1000000001) (bad_c _ _ ?_) (fun τ q => bad_m _ _ ?_)
      · unfold s_X10_net
        simp only [within_e, wI_1 c, bn_some, n10, ↓reduceIte, bc_e, c0]
      · unfold s_X11_net
        simp only [isIn_0_255, wI_1 c, bn_some, n10, ↓reduceIte, on_e, on_bc m (by omega), c0]
    · by_cases c2 : win y 1 9
      · have hy : sm 9 y := win_n (n := 9) (by omega) rfl ⟨Int32.le_trans (by decide) c2.1, c2.2⟩
        by_cases c3 : nN (σ 151) < 10
        · generalize hn : nN (σ 151) = n at *
          have l1 : nI n < 10 := nI_lt (a := n) (b := 10) (by omega) (by omega)
          have l2 : ¬ nI n = 10 := fun e => by have := (nI_eq (a := n) (b := 10) (by omega) (by omega)).mp e; omega
          let B := ua (ua (ua (σ 151) (90 + 2 * n) (nI m)) (90 + 2 * n + 1) y) 1 (nI (n + 1))
          have eB : B = ua (ua (ua (σ 151) (90 + 2 * n) (nI m)) (90 + 2 * n + 1) y) 1 (nI (n + 1)) := rfl
          let τ := up (up (up σ 10 n (nI m)) 11 n y) 2 10 (nI (n + 1))
          have eτ : τ = up (up (up σ 10 n (nI m)) 11 n y) 2 10 (nI (n + 1)) := rfl
          let ρ := up (up (up τ 151 (90 + 2 * n) (nI m)) 151 (90 + 2 * n + 1) y) 151 1 (nI (n + 1))
          have eρ : ρ = up (up (up τ 151 (90 + 2 * n) (nI m)) 151 (90 + 2 * n + 1) y) 151 1 (nI (n + 1)) := rfl
          have tA : τ 151 = σ 151 := by rw [eτ, up_d (by omega), up_d (by omega), up_d (by omega)]
          have rB : ρ 151 = B := by rw [eρ, up_f, up_f, up_f, tA]
          have rc : ∀ d, d ≠ 151 → ρ d = τ d := fun d a => by rw [eρ, up_d a, up_d a, up_d a]
          have e : ∀ d, d ≠ 2 → d ≠ 10 → d ≠ 11 → d ≠ 151 → ρ d = σ d := fun d a b c f => by rw [rc d f, eτ, up_d a, up_d c, up_d b]
          have r2 : ∀ j, j ≠ 10 → ρ 2 j = σ 2 j := fun j hj => by rw [rc 2 (by omega), eτ, up_f, ua_n hj, up_d (by omega), up_d (by omega)]
          have r2' : ρ 2 10 = nI (n + 1) := by rw [rc 2 (by omega), eτ, up_f, ua_s]
          have Bo : ∀ j, j ≠ 1 → j ≠ 90 + 2 * n → j ≠ 90 + 2 * n + 1 → B j = σ 151 j := fun j a b c => by rw [eB, ua_n a, ua_n c, ua_n b]
          have B1 : B 1 = nI (n + 1) := by rw [eB, ua_s]
          have Ba : B (90 + 2 * n) = nI m := by rw [eB, ua_n (by omega), ua_n (by omega), ua_s]
          have Bb : B (90 + 2 * n + 1) = y := by rw [eB, ua_n (by omega), ua_s]
          have mB : nN B = n + 1 := by unfold nN; rw [B1]; exact cl_nI (by omega)
          refine ⟨nI n, τ, ρ, ?_, ?_, ?_, ?_, ?_⟩
          · unfold s_X10_net s_X1_addNet
            have fk := FK (b := 2) (.inl rfl)
            simp (disch := omega) only [within_e, wI_1 c, bn_some, n10, ↓reduceIte, bc_e, c0, wI_1 c2, e1, l1, fk, inb_n, cl_nI, lt_e, up_d, show (2 : Nat) + 8 = 10 from rfl, show (2 : Nat) + 9 = 11 from rfl, up_f, ua_s, nI_1, predI, Nat.add_sub_cancel]
            rfl
          · show s_X11_net τ (nI m) y = _
            unfold s_X11_net
            simp (disch := omega) only [isIn_0_255, wI_1 c, bn_some, n10, ↓reduceIte, on_e, on_bc m (by omega), c0, isIn_1_9, wI_1 c2, tA, e2, l2, NK, inb_n, cl_nI, lt_e, up_f, ua_n, ua_s, nI_1, predI, Nat.add_sub_cancel]
            rfl
          · refine inv_b h rB ?_ (fun j hj => Bo j (by omega) (by omega) (by omega)) ?_ ?_ (fun c a b d f => e c (by omega) (by omega) (by omega) (by omega)) (by rw [e _ (by omega) (by omega) (by omega) (by omega)]) ⟨by rw [e _ (by omega) (by omega) (by omega) (by omega)], by rw [e _ (by omega) (by omega) (by omega) (by omega)], by rw [e _ (by omega) (by omega) (by omega) (by omega)]⟩
            · refine WF_g hw (Bo 0 (by omega) (by omega) (by omega)) (fun j a b => Bo j (by omega) (by omega) (by omega)) ⟨by rw [mB]; exact B1, by omega, fun j hj => ?_⟩ (W5_m (fun j hj => by rw [Bo _ (by omega) (by omega) (by omega)]; exact W5_j hw.2.2.2.2 j hj))
              by_cases q : j = n
              · subst q; rw [Ba, Bb]; exact ⟨sm_k hm, hy⟩
              · rw [Bo _ (by omega) (by omega) (by omega), Bo _ (by omega) (by omega) (by omega)]; exact hw.2.2.2.1.2.2 j (by omega)
            · refine RF_g hw h.f (Bo 0 (by omega) (by omega) (by omega)) (fun j a b => Bo j (by omega) (by omega) (by omega)) (r2 _ (by omega)) (by rw [B1]; exact r2') (by rw [r2 _ (by omega), Bo _ (by omega) (by omega) (by omega)]; exact h.f.1.z) ⟨r2 _ (by omega), r2 _ (by omega)⟩ (fun c a => e _ (by omega) (by omega) (by omega) (by omega)) ?_ ?_
              · intro j hj
                rw [e _ (by omega) (by omega) (by omega) (by omega), Bo _ (by omega) (by omega) (by omega)]; exact h.f.1.rul hj
              · intro j hj
                have u1 : ρ (2 + 8) = ua (σ 10) n (nI m) := by rw [rc _ (by omega), eτ, up_d (by omega), up_d (by omega), up_f]
                have u2 : ρ (2 + 9) = ua (σ 11) n y := by rw [rc _ (by omega), eτ, up_d (by omega), up_f, up_d (by omega)]
                rw [u1, u2]
                by_cases q : j = n
                · subst q; rw [Ba, Bb, ua_s, ua_s]; exact ⟨rfl, rfl⟩
                · rw [Bo _ (by omega) (by omega) (by omega), Bo _ (by omega) (by omega) (by omega), ua_n q, ua_n q]; exact ⟨h.f.1.set (by omega), h.f.1.wgt (by omega)⟩
            · exact TRL_k h.2.2.2.1 (by unfold nB; rw [Bo _ (by omega) (by omega) (by omega)]) (fun p hp => ⟨Bo _ (by omega) (by omega) (by omega), Bo _ (by omega) (by omega) (by omega), Bo _ (by omega) (by omega) (by omega)⟩) (fun c a b => e c (by omega) (by omega) (by omega) (by omega)) (by rw [e _ (by omega) (by omega) (by omega) (by omega)]) (e _ (by omega) (by omega) (by omega) (by omega))
          · rw [eτ, up_d (by omega), up_d (by omega), up_d (by omega)]
          · exact e _ (by omega) (by omega) (by omega) (by omega)
        · have n10' : nN (σ 151) = 10 := by omega
          rw [n10'] at e1 e2
          refine call_q h (-1000000003) (bad_c _ _ ?_) (fun τ q => bad_m _ _ ?_)
          · unfold s_X10_net
            simp only [within_e, wI_1 c, bn_some, n10, ↓reduceIte, bc_e, c0, wI_1 c2, e1]
            rfl
          · have hA : τ 151 = σ 151 := q.m (by omega)
            unfold s_X11_net
            simp only [isIn_0_255, wI_1 c, bn_some, n10, ↓reduceIte, on_e, on_bc m (by omega), c0, isIn_1_9, wI_1 c2, hA, e2]
            rfl
      · refine call_q h (-1000000001) (bad_c _ _ ?_) (fun τ q => bad_m _ _ ?_)
        · unfold s_X10_net
          simp only [within_e, wI_1 c, bn_some, n10, ↓reduceIte, bc_e, c0, wI_0 c2]
        · unfold s_X11_net
          simp only [isIn_0_255, wI_1 c, bn_some, n10, ↓reduceIte, on_e, on_bc m (by omega), c0, isIn_1_9, wI_0 c2]
  · refine call_q h (-1000000001) (bad_c _ _ ?_) (fun τ q => bad_m _ _ ?_)
    · unfold s_X10_net
      simp only [within_e, wI_0 c, bn_some, ↓reduceIte]
    · unfold s_X11_net
      simp only [isIn_0_255, wI_0 c, bn_some, ↓reduceIte]
end nx
