section wi
variable {σ : Sg}
theorem call_wish (h : InvR σ σ) : Call σ (s_X10_wish σ) (fun τ => s_X11_wish τ) := by
  obtain ⟨len, hl, t1, t2, t3⟩ := h.2.2.2.2.1
  have hT := h.1.2.1
  have hw := h.w
  have n8 := hw.n8
  have k8 := h.1.2.2.1.2
  have nn10 := hw.nn10
  have hF := h.f
  have hB : CB σ (σ 167) len := ⟨t1, hl, fun i hi => t3 i hi⟩
  obtain ⟨n, hn⟩ : ∃ n, nT (σ 151) = n := ⟨_, rfl⟩
  have n10 : n ≤ 10 := by rw [← hn]; exact hT.2
  have e2 : σ 151 2 = nI n := by rw [← hn]; exact hT.1
  have e1 : σ 1 2 = nI n := by rw [h.2.1.2.1]; exact e2
  refine call_g _ (x10_wish e1 n10 hB) ?_ ?_
  · intro r τ ⟨_, _, p2, _⟩
    exact p2 _ (by omega) (by omega) (by omega) (by omega) (fun _ => by omega)
  · intro r τ ⟨hr, p1, p2, p3, p4, p5⟩
    have tc : ∀ c, c ≠ 1 → c ≠ 114 → c ≠ 116 → c ≠ 117 → c < 25 ∨ 47 ≤ c → τ c = σ c := fun c a b d f g => p2 c a b d f (fun _ => by omega)
    have tM : MB τ (σ 167) len := by
      refine ⟨?_, hl, fun i hi => ?_⟩
      · rw [tc 150 (by omega) (by omega) (by omega) (by omega) (by omega)]; exact t2
      · rw [tc 167 (by omega) (by omega) (by omega) (by omega) (by omega)]; exact ⟨rfl, (t3 i hi).2⟩
    refine gv_w (m_wish (A := σ 151) (tc 151 (by omega) (by omega) (by omega) (by omega) (by omega)) e2 n10 tM) ?_
    intro r' ρ ⟨hr', q1, q2, q3, q4, q5, q6⟩
    have sj : ∀ j, j < 23 ∨ 33 < j → ρ 150 j = σ 150 j := fun j hj => by rw [q3 j hj, tc 150 (by omega) (by omega) (by omega) (by omega) (by omega)]
    have ek : ∀ c, c ≠ 1 → c ≠ 114 → c ≠ 116 → c ≠ 117 → (wOK (σ 167) len n → c ≠ 25 + 2 * n ∧ c ≠ 25 + 2 * n + 1) → c ≠ 150 → c ≠ 151 → ρ c = σ c := fun c a b d f g i j => by rw [q2 c i j]; exact p2 c a b d f g
    have e : ∀ c, c ≠ 1 → c ≠ 114 → c ≠ 116 → c ≠ 117 → c < 25 ∨ 45 ≤ c → c ≠ 150 → c ≠ 151 → ρ c = σ c := fun c a b d f g i j => ek c a b d f (fun x => by have := x.2; omega) i j
    have g : Ag (σ 151) (ρ 151) := fun j a b c d => q4 j (by omega)
    have hS := h.2.1
    have hN : (wOK (σ 167) len n ∧ nT (ρ 151) = n + 1 ∧ ρ 151 2 = nI (n + 1) ∧ n < 10) ∨ (¬ wOK (σ 167) len n ∧ nT (ρ 151) = n ∧ ρ 151 2 = nI n) := by
      by_cases ok : wOK (σ 167) len n
      · exact .inl ⟨ok, by unfold nT; rw [(q5 ok).1]; exact cl_nI (by omega), (q5 ok).1, ok.2⟩
      · have : ρ 151 2 = nI n := by rw [q6 ok]; exact e2
        exact .inr ⟨ok, by unfold nT; rw [this]; exact cl_nI (by omega), this⟩
    have hNT : ρ 151 2 = nI (nT (ρ 151)) ∧ nT (ρ 151) ≤ 10 := by
      rcases hN with ⟨_, a, b, c⟩ | ⟨_, a, b⟩
      · rw [a]; exact ⟨b, by omega⟩
      · rw [a]; exact ⟨b, by omega⟩
    have hnK : nK (ρ 151) = nK (σ 151) := by unfold nK; rw [q4 3 (by omega)]
    refine ⟨by rw [hr', hr], ?_, ek _ (by omega) (by omega) (by omega) (by omega) (fun _ => by omega) (by omega) (by omega)⟩
    refine ⟨⟨g.wf hw, hNT, ?_, ?_⟩, ⟨?_, ?_, ?_, ?_, ?_⟩, ?_, ?_, ⟨0, by omega, ?_, q1, fun _ x => absurd x (by omega)⟩, ?_, ?_, ?_, ?_⟩
    · unfold WKp; rw [hnK, q4 3 (by omega)]; exact h.1.2.2.1
    · intro j hj; rw [q4 j (by omega)]; exact h.1.2.2.2 j hj
    · refine RF_g hw hF (g 0 (by omega) (by omega) (by omega) (by omega)) (fun j a b => g j (by omega) (by omega) (by omega) (by omega)) (by rw [e _ (by omega) (by omega) (by omega) (by omega) (by omega) (by omega) (by omega)]) (by rw [e _ (by omega) (by omega) (by omega) (by omega) (by omega) (by omega) (by omega), q4 _ (by omega)]; exact hF.1.nets) (by rw [e _ (by omega) (by omega) (by omega) (by omega) (by omega) (by omega) (by omega), q4 _ (by omega)]; exact hF.1.z) (by rw [e _ (by omega) (by omega) (by omega) (by omega) (by omega) (by omega) (by omega)]; exact ⟨rfl, rfl⟩) (fun c a => e _ (by omega) (by omega) (by omega) (by omega) (by omega) (by omega) (by omega)) (fun k hk => by rw [e _ (by omega) (by omega) (by omega) (by omega) (by omega) (by omega) (by omega), q4 _ (by omega)]; exact hF.1.rul hk) ?_
      have m : nN (ρ 151) = nN (σ 151) := g.nn
      intro j hj
      rw [m] at hj
      rw [e (1 + 1 + 8) (by omega) (by omega) (by omega) (by omega) (by omega) (by omega) (by omega), e (1 + 1 + 9) (by omega) (by omega) (by omega) (by omega) (by omega) (by omega) (by omega), q4 (90 + 2 * j) (by omega), q4 (90 + 2 * j + 1) (by omega)]
      exact ⟨hF.1.set hj, hF.1.wgt hj⟩
    · rw [q2 1 (by omega) (by omega)]
      by_cases ok : wOK (σ 167) len n
      · rw [(p4 ok).1, (q5 ok).1]
      · rw [p5 ok, q6 ok, e1, e2]
    · intro t ht
      by_cases c : t < n
      · obtain ⟨key, c0, L, k1, k2, k3⟩ := hS.2.2.1 t (by omega)
        have k96 := k1.2.1
        obtain ⟨m1, m2, m3, m4⟩ := k2
        refine ⟨key, c0, L, k1, ⟨by rw [q4 _ (by omega)]; exact m1, by rw [q4 _ (by omega)]; exact m2, by rw [q4 _ (by omega)]; exact m3, fun i tk hi => ?_⟩, TXc_c k3 (ek _ (by omega) (by omega) (by omega) (by omega) (fun _ => by omega) (by omega) (by omega)) (ek _ (by omega) (by omega) (by omega) (by omega) (fun _ => by omega) (by omega) (by omega))⟩
        have := gl_lt hi
        rw [q4 _ (by omega), q4 _ (by omega)]; exact m4 i tk hi
      · rcases hN with ⟨ok, a, b, d⟩ | ⟨_, a, b⟩
        · have tn : t = n := by omega
          subst tn
          exact ⟨_, _, _, pTx_ok hl ok.1, (q5 ok).2, TXc_c (p4 ok).2 (q2 _ (by omega) (by omega)) (q2 _ (by omega) (by omega))⟩
        · omega
    · rw [e _ (by omega) (by omega) (by omega) (by omega) (by omega) (by omega) (by omega), q4 _ (by omega)]; exact hS.2.2.2.1
    · intro k hk
      rw [hnK] at hk
      rw [e (1 + 20 + 1) (by omega) (by omega) (by omega) (by omega) (by omega) (by omega) (by omega), e (1 + 20 + 2) (by omega) (by omega) (by omega) (by omega) (by omega) (by omega) (by omega), e (1 + 20 + 3) (by omega) (by omega) (by omega) (by omega) (by omega) (by omega) (by omega), q4 _ (by omega), q4 _ (by omega), q4 _ (by omega)]
      exact hS.2.2.2.2 k hk
    · refine IMG_c h.2.2.1 (by rw [e _ (by omega) (by omega) (by omega) (by omega) (by omega) (by omega) (by omega)]) (fun c a b d => e c (by omega) (by omega) (by omega) (by omega) (by omega) (by omega) (by omega)) (sj _ (by omega)) (e _ (by omega) (by omega) (by omega) (by omega) (by omega) (by omega) (by omega)) ?_
      rw [e _ (by omega) (by omega) (by omega) (by omega) (by omega) (by omega) (by omega)]; exact h.2.2.1.2.2.1
    · exact TRL_k h.2.2.2.1 g.ap.n (fun p hp => ⟨q4 _ (by omega), q4 _ (by omega), q4 _ (by omega)⟩) (fun c a b => e c (by omega) (by omega) (by omega) (by omega) (by omega) (by omega) (by omega)) (sj _ (by omega)) (e _ (by omega) (by omega) (by omega) (by omega) (by omega) (by omega) (by omega))
    · rw [q2 _ (by omega) (by omega)]; exact p1
    · exact SHT_c h.2.2.2.2.2.1 (fun c a b => e c (by omega) (by omega) (by omega) (by omega) (by omega) (by omega) (by omega)) (e _ (by omega) (by omega) (by omega) (by omega) (by omega) (by omega) (by omega)) (e _ (by omega) (by omega) (by omega) (by omega) (by omega) (by omega) (by omega)) (e _ (by omega) (by omega) (by omega) (by omega) (by omega) (by omega) (by omega))
    · exact SLT_c h.2.2.2.2.2.2.1 (fun c a b => e c (by omega) (by omega) (by omega) (by omega) (by omega) (by omega) (by omega)) (e _ (by omega) (by omega) (by omega) (by omega) (by omega) (by omega) (by omega)) (e _ (by omega) (by omega) (by omega) (by omega) (by omega) (by omega) (by omega)) (e _ (by omega) (by omega) (by omega) (by omega) (by omega) (by omega) (by omega)) (e _ (by omega) (by omega) (by omega) (by omega) (by omega) (by omega) (by omega))
    · exact WTG_c h.2.2.2.2.2.2.2.1 (by rw [e _ (by omega) (by omega) (by omega) (by omega) (by omega) (by omega) (by omega)]) (e _ (by omega) (by omega) (by omega) (by omega) (by omega) (by omega) (by omega)) (sj _ (by omega)) (e _ (by omega) (by omega) (by omega) (by omega) (by omega) (by omega) (by omega))
    · exact CST_c h.2.2.2.2.2.2.2.2 (fun c a b => e c (by omega) (by omega) (by omega) (by omega) (by omega) (by omega) (by omega)) (e _ (by omega) (by omega) (by omega) (by omega) (by omega) (by omega) (by omega))
end wi
