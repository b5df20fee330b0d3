section nw
variable {σ τ ρ : Sg}
theorem WSA_b {A B : Nat → Int32} (h : WSA A) (hw : WF B) (hB : ∀ j, j = 2 ∨ j = 3 ∨ 110 ≤ j → B j = A j) : WSA B := by
  have n2 : nT B = nT A := by unfold nT; rw [hB 2 (by omega)]
  have n3 : nK B = nK A := by unfold nK; rw [hB 3 (by omega)]
  refine ⟨hw, ?_, ?_, ?_⟩
  · unfold WTx; rw [n2, hB 2 (by omega)]; exact h.2.1
  · unfold WKp; rw [n3, hB 3 (by omega)]; exact h.2.2.1
  · intro j hj; rw [hB j (by omega)]; exact h.2.2.2 j hj
theorem RS_b {A B : Nat → Int32} (hw : WSA A) (h : RS σ 1 A) (hB : ∀ j, j = 2 ∨ j = 3 ∨ 110 ≤ j → B j = A j) (hF : RF ρ 2 B) (e : ∀ c, c = 1 ∨ (21 ≤ c ∧ c < 45) → ρ c = σ c) : RS ρ 1 B := by
  have n2 : nT B = nT A := by unfold nT; rw [hB 2 (by omega)]
  have n3 : nK B = nK A := by unfold nK; rw [hB 3 (by omega)]
  have t10 := hw.2.1.2
  obtain ⟨_, h2, h3, h4⟩ := h
  refine ⟨hF, ?_, ?_, ?_⟩
  · rw [e 1 (by omega), hB 2 (by omega)]; exact h2
  · intro t ht
    rw [n2] at ht
    obtain ⟨key, c, L, k1, k2, k3⟩ := h3 t ht
    refine ⟨key, c, L, k1, ?_, TXc_c k3 (e _ (by omega)) (e _ (by omega))⟩
    obtain ⟨m1, m2, m3, m4⟩ := k2
    refine ⟨by rw [hB _ (by omega)]; exact m1, by rw [hB _ (by omega)]; exact m2, by rw [hB _ (by omega)]; exact m3, fun i tk hi => ?_⟩
    rw [hB _ (by omega), hB _ (by omega)]; exact m4 i tk hi
  · refine ⟨by rw [e _ (by omega), hB 3 (by omega)]; exact h4.1, ?_⟩
    intro k hk
    rw [n3] at hk
    rw [hB _ (by omega), hB _ (by omega), hB _ (by omega), e (1 + 20 + 1) (by omega), e (1 + 20 + 2) (by omega), e (1 + 20 + 3) (by omega)]
    exact h4.2 k hk
theorem inv_b (h : InvR σ σ) {B : Nat → Int32} (hρ : ρ 151 = B) (hw : WF B) (hB : ∀ j, j = 2 ∨ j = 3 ∨ 110 ≤ j → B j = σ 151 j) (hF : RF ρ 2 B) (t : TRL ρ ρ B) (e : ∀ c, c < 2 ∨ (21 ≤ c ∧ c < 89) ∨ (115 ≤ c ∧ c < 150) ∨ (152 ≤ c ∧ c < 163 ∧ c ≠ 154) ∨ c = 167 ∨ c = 171 ∨ 900 ≤ c → c ≠ 116 → c ≠ 117 → c ≠ 118 → ρ c = σ c) (e1 : ρ 114 1 = σ 114 1) (s : ρ 150 3 = σ 150 3 ∧ ρ 150 23 = σ 150 23 ∧ ρ 150 38 = σ 150 38) : InvR ρ ρ := by
  refine inv_now h ?_ ?_ ?_ (fun c a b d f => e c (by omega) b d f) e1 s
  · rw [hρ]; exact WSA_b h.1 hw hB
  · rw [hρ]; exact RS_b h.1 h.2.1 hB hF (fun c a => e c (by omega) (by omega) (by omega) (by omega))
  · rw [hρ]; exact t
theorem TRL_k {A B : Nat → Int32} (h : TRL σ σ A) (hn : nB B = nB A) (hk : ∀ p, p < nB A → B (20 + 6 * p) = A (20 + 6 * p) ∧ B (20 + 6 * p + 2) = A (20 + 6 * p + 2) ∧ B (20 + 6 * p + 5) = A (20 + 6 * p + 5)) (e : ∀ c, 110 ≤ c → c < 114 → ρ c = σ c) (e5 : ρ 150 5 = σ 150 5) (e4 : ρ 154 = σ 154) : TRL ρ ρ B := by
  obtain ⟨E, l, a, b, d⟩ := h
  exact ⟨E, l, TRLc_c a e, TRLm_c b e5 e4, TRS_c hn (fun p hp => ⟨(hk p hp).1, (hk p hp).2.1⟩) E _ _ (fun p hp => (hk p hp).2.2) d⟩
theorem becomes_e (σ : Sg) {j : Nat} (hj : j < 2350) (x : Int32) : s_X11_becomes σ (nI j) x = some (σ 151 j, up σ 151 j x) := by
  unfold s_X11_becomes
  simp (disch := omega) only [inb_n, ↓reduceIte, lt_e, cl_nI]
theorem WF_z {A : Nat → Int32} (hw : WF A) (v : Int32) : WF (ua A 4 v) := by
  have e : ∀ j, j ≠ 4 → ua A 4 v j = A j := fun j h => ua_n h
  obtain ⟨h1, h2, h3, h4, h5⟩ := hw
  have n : nB (ua A 4 v) = nB A := by unfold nB; rw [e 0 (by omega)]
  have m : nN (ua A 4 v) = nN A := by unfold nN; rw [e 1 (by omega)]
  have k1 : o1 (ua A 4 v) = o1 A := by funext i; unfold o1; rw [e _ (by omega)]
  have k2 : o2 (ua A 4 v) = o2 A := by funext i; unfold o2; rw [e _ (by omega)]
  refine ⟨?_, ?_, ?_, ?_, ?_⟩
  · unfold W1; rw [n, e 0 (by omega)]; exact h1
  · unfold W2; rw [n, k1, k2]
    refine ⟨fun i hi => ?_, fun i hi => ?_, h2.2.2⟩
    · rw [e _ (by omega)]; exact h2.1 i hi
    · rw [e _ (by omega)]; exact h2.2.1 i hi
  · unfold W3 VA pw ly; rw [n]
    intro i hi
    have := h3 i hi
    unfold VA pw ly at this
    rw [e _ (by omega), e _ (by omega), e _ (by omega), e _ (by omega), e _ (by omega), e _ (by omega)]; exact this
  · unfold W4; rw [m, e 1 (by omega)]
    refine ⟨h4.1, h4.2.1, fun j hj => ?_⟩
    rw [e _ (by omega), e _ (by omega)]; exact h4.2.2 j hj
  · unfold W5; rw [e 5 (by omega), e 6 (by omega), e 7 (by omega), e 8 (by omega), e 9 (by omega)]; exact h5
theorem call_seed (h : InvR σ σ) (x : Int32) : Call σ (s_X10_seed σ x) (fun τ => s_X11_seed τ x) := by
  refine ⟨σ 2 11, up σ 2 11 x, up (up σ 2 11 x) 151 4 x, ?_, ?_, ?_, ?_, ?_⟩
  · unfold s_X10_seed; simp only [lt_e]
  · show bn (s_X11_becomes (up σ 2 11 x) (nI 4) x) _ = _
    rw [becomes_e _ (by omega), bn_some, up_d (by omega), h.f.1.z]
  · have e : ∀ c, c ≠ 2 → c ≠ 151 → up (up σ 2 11 x) 151 4 x c = σ c := fun c a b => by rw [up_d b, up_d a]
    refine inv_b h (B := ua (σ 151) 4 x) (by rw [up_f, up_d (by omega)]) (WF_z h.w x) (fun j hj => ua_n (by omega)) ?_ ?_ (fun c a b d f => e c (by omega) (by omega)) (by rw [e _ (by omega) (by omega)]) ⟨by rw [e _ (by omega) (by omega)], by rw [e _ (by omega) (by omega)], by rw [e _ (by omega) (by omega)]⟩
    · refine RF_c (RF_z h.w h.f x) ?_ (fun c a b d => up_d (by omega))
      show nB (ua (σ 151) 4 x) ≤ 8
      unfold nB; rw [ua_n (by omega)]; exact h.w.n8
    · refine TRL_k h.2.2.2.1 (by unfold nB; rw [ua_n (by omega)]) (fun p hp => ⟨ua_n (by omega), ua_n (by omega), ua_n (by omega)⟩) (fun c a b => e c (by omega) (by omega)) (by rw [e _ (by omega) (by omega)]) (e _ (by omega) (by omega))
  · rw [up_d (by omega)]
  · rw [up_d (by omega), up_d (by omega)]
theorem RF_p {b : Nat} {A : Nat → Int32} (hw : WF A) (h : RF σ b A) {i : Nat} (hi : i < nB A) (v : Int32) : RF (up σ (b + 10 + i) 3 v) b (ua A (20 + 6 * i + 3) v) := by
  have n8 := hw.n8
  refine RF_ap hw h ⟨ua_n (by omega), fun k j a c d => ua_n (by omega), fun j a c => ua_n (by omega)⟩ (RU_b h.1 hw hi (fun j hj => ua_n (by omega)) (fun c a d f => up_d f) ?_) (fun c a => up_d (by omega)) ?_ ⟨by rw [up_d (by omega)], by rw [up_d (by omega)]⟩
  · obtain ⟨b1, b2, b3⟩ := h.1.br hi
    refine ⟨fun k hk => ?_, ?_, ?_⟩
    · rw [up_f]
      by_cases c : k = 3
      · subst c; rw [ua_s, ua_s]
      · rw [ua_n c, ua_n (by omega)]; exact b1 k hk
    · rw [up_f, ua_n (by omega), ua_n (by omega), ua_n (by omega), ua_n (by omega), ua_n (by omega)]; exact b2
    · rw [up_f, ua_n (by omega), ua_n (by omega), ua_n (by omega), ua_n (by omega), ua_n (by omega)]; exact b3
  · intro k hk
    by_cases c : k = i
    · subst c; rw [up_f, ua_n (by omega), ua_n (by omega)]; exact ⟨rfl, rfl⟩
    · rw [up_d (by omega)]; exact ⟨rfl, rfl⟩
theorem isPw_e (σ : Sg) (x : Int32) : s_X10_isPower σ x = some (wI x 0 99, σ) := by
  unfold s_X10_isPower
  rw [within_e, bn_some]
  by_cases c : win x 0 99
  · rw [wI_1 c]; rfl
  · rw [wI_0 c]; rfl
theorem call_power (h : InvR σ σ) (x y : Int32) : Call σ (s_X10_power σ x y) (fun τ => s_X11_power τ x y) := by
  have hw := h.w
  have n8 := hw.n8
  by_cases c : inb x (nB (σ 151)) = true
  · obtain ⟨i, hi, rfl⟩ := inb_of c (by omega)
    by_cases c2 : win y 0 99
    · obtain ⟨k, hk, rfl⟩ := win_n (n := 99) (by omega) rfl c2
      have e : ∀ d, d ≠ 12 + i → d ≠ 151 → up (up σ (12 + i) 3 (nI k)) 151 (20 + 6 * i + 3) (nI k) d = σ d := fun d a b => by rw [up_d b, up_d a]
      refine ⟨σ (12 + i) 3, up σ (12 + i) 3 (nI k), up (up σ (12 + i) 3 (nI k)) 151 (20 + 6 * i + 3) (nI k), ?_, ?_, ?_, ?_, ?_⟩
      · unfold s_X10_power
        simp (disch := omega) only [has_c hw h.f.1.n, c, bn_some, n10, ↓reduceIte, isPw_e, wI_1 c2, inb_n, cl_nI, r3_, lt_e]
      · show s_X11_power _ _ _ = _
        unfold s_X11_power s_X11_blockAt
        have hA : up σ (12 + i) 3 (nI k) 151 = σ 151 := up_d (by omega)
        simp (disch := omega) only [isBlk_e hw hA, c, bn_some, n10, ↓reduceIte, isIn_0_99, wI_1 c2, NK, becomes_e, hA]
        have := h.f.1.f hi (k := 3) (by omega)
        rw [← this]
      · refine inv_b h (B := ua (σ 151) (20 + 6 * i + 3) (nI k)) (by rw [up_f, up_d (by omega)]) (WF_pw hw hi (sm_k hk)) (fun j hj => ua_n (by omega)) ?_ ?_ (fun c a b d f => e c (by omega) (by omega)) (by rw [e _ (by omega) (by omega)]) ⟨by rw [e _ (by omega) (by omega)], by rw [e _ (by omega) (by omega)], by rw [e _ (by omega) (by omega)]⟩
        · refine RF_c (RF_p hw h.f hi (nI k)) ?_ (fun c a b d => up_d (by omega))
          unfold nB; rw [ua_n (by omega)]; exact hw.n8
        · exact TRL_k h.2.2.2.1 (by unfold nB; rw [ua_n (by omega)]) (fun p hp => ⟨ua_n (by omega), ua_n (by omega), ua_n (by omega)⟩) (fun c a b => e c (by omega) (by omega)) (by rw [e _ (by omega) (by omega)]) (e _ (by omega) (by omega))
      · rw [up_d (by omega)]
      · rw [up_d (by omega), up_d (by omega)]
    · refine call_q h (-1000000001) (bad_c _ _ ?_) (fun τ q => bad_m _ _ ?_)
      · unfold s_X10_power
        simp (disch := omega) only [has_c hw h.f.1.n, c, bn_some, n10, ↓reduceIte, isPw_e, wI_0 c2]
      · have hA : τ 151 = σ 151 := q.m (by omega)
        unfold s_X11_power
        simp (disch := omega) only [isBlk_e hw hA, c, bn_some, n10, ↓reduceIte, isIn_0_99, wI_0 c2]
  · refine call_q h (-1000000001) (bad_c _ _ ?_) (fun τ q => bad_m _ _ ?_)
    · unfold s_X10_power
      simp (disch := omega) only [has_c hw h.f.1.n, c, bn_some, ↓reduceIte, Bool.false_eq_true]
    · have hA : τ 151 = σ 151 := q.m (by omega)
      unfold s_X11_power
      simp (disch := omega) only [isBlk_e hw hA, c, bn_some, ↓reduceIte, Bool.false_eq_true]
end nw
