section nz
variable {σ : Sg}
theorem inv_g {ρ : Sg} (h : InvR σ σ) (e : ∀ c, (1 ≤ c ∧ c < 90 ∧ c ≠ 8) ∨ (110 ≤ c ∧ c < 114) ∨ c = 151 ∨ c = 152 ∨ c = 154 ∨ c = 162 ∨ 900 ≤ c → ρ c = σ c) (z : WZ (ρ 153)) (e0 : ρ 0 2 = σ 0 2) (s : ρ 150 3 = σ 150 3 ∧ ρ 150 5 = σ 150 5) (t1 : TP ρ ρ) (t2 : SHT ρ ρ) (t3 : SLT ρ ρ) (t4 : WTG ρ ρ) : InvR ρ ρ := by
  obtain ⟨i1, i2, i3, i4, _, _, _, _, i9⟩ := h
  have e1 : ρ 151 = σ 151 := e 151 (by omega)
  unfold InvR
  rw [e1]
  refine ⟨i1, RS_c i1 i2 (fun c a b d => e c (by omega)), IMG_c i3 e0 (fun c a b d => e c (by omega)) s.1 (e 152 (by omega)) z, ?_, t1, t2, t3, t4, CST_c i9 (fun c a b => e c (by omega)) (e 162 (by omega))⟩
  obtain ⟨E, l, a, b, d⟩ := i4
  exact ⟨E, l, TRLc_c a (fun c h1 h2 => e c (by omega)), TRLm_c b s.2 (e 154 (by omega)), d⟩
theorem call_g {X : RO} {Y : Sg → RO} (P : Int32 → Sg → Prop) (hX : Gv X P) (h9 : ∀ r τ, P r τ → τ 990 = σ 990) (hY : ∀ r τ, P r τ → Gv (Y τ) (fun r' ρ => r' = r ∧ InvR ρ ρ ∧ ρ 990 = σ 990)) : Call σ X Y := by
  obtain ⟨r, τ, e1, p⟩ := hX
  obtain ⟨r2, ρ, e2, hr, i, j⟩ := hY r τ p
  rw [hr] at e2
  exact ⟨r, τ, ρ, e1, e2, i, h9 r τ p, j⟩
theorem call_tell (h : InvR σ σ) (x : Int32) : Call σ (s_X10_tell σ x) (fun τ => s_X11_tell τ x) := by
  obtain ⟨w, hw, e1, e2, e3⟩ := h.2.2.2.2.2.2.2.1
  by_cases c : w < 60
  · have l1 : nI w < 60 := nI_lt (a := w) (b := 60) (by omega) (by omega)
    have l2 : ¬ nI w = 60 := fun e => by have := (nI_eq (a := w) (b := 60) (by omega) (by omega)).mp e; omega
    have i6 : inb (nI w) 60 = true := inb_nI c (by omega)
    let τ := up (up σ 149 w x) 0 10 (nI (w + 1))
    have eτ : τ = up (up σ 149 w x) 0 10 (nI (w + 1)) := rfl
    let ρ := up (up τ 171 w x) 150 38 (nI (w + 1))
    have eρ : ρ = up (up τ 171 w x) 150 38 (nI (w + 1)) := rfl
    have tc : ∀ d, d ≠ 0 → d ≠ 149 → τ d = σ d := fun d a b => by rw [eτ, up_d a, up_d b]
    have rc : ∀ d, d ≠ 171 → d ≠ 150 → ρ d = τ d := fun d a b => by rw [eρ, up_d b, up_d a]
    have e : ∀ d, d ≠ 0 → d ≠ 149 → d ≠ 171 → d ≠ 150 → ρ d = σ d := fun d a b c f => by rw [rc d c f, tc d a b]
    have s : ∀ j, j ≠ 38 → ρ 150 j = σ 150 j := fun j hj => by rw [eρ, up_f, ua_n hj, up_d (by omega), tc _ (by omega) (by omega)]
    have r0 : ∀ j, j ≠ 10 → ρ 0 j = σ 0 j := fun j hj => by rw [rc _ (by omega) (by omega), eτ, up_f, ua_n hj, up_d (by omega)]
    refine ⟨nI (w + 1), τ, ρ, ?_, ?_, ?_, tc _ (by omega) (by omega), e _ (by omega) (by omega) (by omega) (by omega)⟩
    · unfold s_X10_tell
      simp (disch := omega) only [e1, l1, i6, ↓reduceIte, cl_nI, lt_e, up_d, nI_1, up_f, ua_s]
      rfl
    · show s_X11_tell τ x = _
      have t1 : τ 150 38 = nI w := by rw [tc _ (by omega) (by omega)]; exact e2
      unfold s_X11_tell
      simp (disch := omega) only [t1, l2, i6, ↓reduceIte, cl_nI, lt_e, up_d, nI_1, up_f, ua_s]
      rfl
    · refine inv_g h (fun c a => e c (by omega) (by omega) (by omega) (by omega)) ?_ (r0 _ (by omega)) ⟨s _ (by omega), s _ (by omega)⟩ (TP_c h.2.2.2.2.1 (by rw [e _ (by omega) (by omega) (by omega) (by omega)]) (e _ (by omega) (by omega) (by omega) (by omega)) (s _ (by omega)) (e _ (by omega) (by omega) (by omega) (by omega))) (SHT_c h.2.2.2.2.2.1 (fun c a b => e c (by omega) (by omega) (by omega) (by omega)) (e _ (by omega) (by omega) (by omega) (by omega)) (e _ (by omega) (by omega) (by omega) (by omega)) (e _ (by omega) (by omega) (by omega) (by omega))) (SLT_c h.2.2.2.2.2.2.1 (fun c a b => e c (by omega) (by omega) (by omega) (by omega)) (e _ (by omega) (by omega) (by omega) (by omega)) (e _ (by omega) (by omega) (by omega) (by omega)) (e _ (by omega) (by omega) (by omega) (by omega)) (e _ (by omega) (by omega) (by omega) (by omega))) ⟨w + 1, by omega, ?_, ?_, ?_⟩
      · rw [e _ (by omega) (by omega) (by omega) (by omega)]; exact h.2.2.1.2.2.1
      · rw [rc _ (by omega) (by omega), eτ, up_f, ua_s]
      · rw [eρ, up_f, ua_s]
      · intro i hi
        have u1 : ρ 149 = ua (σ 149) w x := by rw [rc _ (by omega) (by omega), eτ, up_d (by omega), up_f]
        have u2 : ρ 171 = ua (σ 171) w x := by rw [eρ, up_d (by omega), up_f, tc _ (by omega) (by omega)]
        rw [u1, u2]
        by_cases q : i = w
        · subst q; rw [ua_s, ua_s]
        · rw [ua_n q, ua_n q]; exact e3 i (by omega)
  · have w6 : w = 60 := by omega
    subst w6
    refine call_q h (-1000000003) (bad_c _ _ ?_) (fun τ q => bad_m _ _ ?_)
    · unfold s_X10_tell
      rw [e1]; rfl
    · unfold s_X11_tell
      rw [q.m (by omega), e2]; rfl
theorem inv_tp {ρ : Sg} (h : InvR σ σ) (e : ∀ c, c ≠ 114 → c ≠ 115 → c ≠ 150 → c ≠ 167 → ρ c = σ c) (s : ∀ j, j ≠ 23 → ρ 150 j = σ 150 j) (t : TP ρ ρ) : InvR ρ ρ := by
  refine inv_g h (fun c a => e c (by omega) (by omega) (by omega) (by omega)) ?_ (by rw [e _ (by omega) (by omega) (by omega) (by omega)]) ⟨s _ (by omega), s _ (by omega)⟩ t (SHT_c h.2.2.2.2.2.1 (fun c a b => e c (by omega) (by omega) (by omega) (by omega)) (e _ (by omega) (by omega) (by omega) (by omega)) (e _ (by omega) (by omega) (by omega) (by omega)) (e _ (by omega) (by omega) (by omega) (by omega))) (SLT_c h.2.2.2.2.2.2.1 (fun c a b => e c (by omega) (by omega) (by omega) (by omega)) (e _ (by omega) (by omega) (by omega) (by omega)) (e _ (by omega) (by omega) (by omega) (by omega)) (e _ (by omega) (by omega) (by omega) (by omega)) (e _ (by omega) (by omega) (by omega) (by omega))) (WTG_c h.2.2.2.2.2.2.2.1 (by rw [e _ (by omega) (by omega) (by omega) (by omega)]) (e _ (by omega) (by omega) (by omega) (by omega)) (s _ (by omega)) (e _ (by omega) (by omega) (by omega) (by omega)))
  rw [e _ (by omega) (by omega) (by omega) (by omega)]; exact h.2.2.1.2.2.1
theorem call_trim (h : InvR σ σ) (x : Int32) : Call σ (s_X10_trim σ x) (fun τ => s_X11_trim τ x) := by
  obtain ⟨n, hn, e1, e2, e3⟩ := h.2.2.2.2.1
  by_cases c : win x 0 (nI n)
  · obtain ⟨k, hk, rfl⟩ := win_n (n := n) (by omega) rfl c
    have e : ∀ d, d ≠ 114 → d ≠ 150 → up (up σ 114 1 (nI k)) 150 23 (nI k) d = σ d := fun d a b => by rw [up_d b, up_d a]
    refine ⟨nI k, up σ 114 1 (nI k), up (up σ 114 1 (nI k)) 150 23 (nI k), ?_, ?_, ?_, up_d (by omega), e _ (by omega) (by omega)⟩
    · unfold s_X10_trim
      simp only [within_e, e1, wI_1 c, bn_some, n10, ↓reduceIte, lt_e]
    · show s_X11_trim _ _ = _
      have t1 : up σ 114 1 (nI k) 150 23 = nI n := by rw [up_d (by omega)]; exact e2
      unfold s_X11_trim
      simp only [t1, isIn_0y, wI_1 c, bn_some, n10, ↓reduceIte, lt_e]
    · refine inv_tp h (fun c a b d f => e c a d) (fun j hj => by rw [up_f, ua_n hj, up_d (by omega)]) ⟨k, by omega, ?_, ?_, ?_⟩
      · rw [up_d (by omega), up_f, ua_s]
      · rw [up_f, ua_s]
      · intro i hi
        rw [e _ (by omega) (by omega), e _ (by omega) (by omega)]; exact e3 i (by omega)
  · refine call_q h (-1000000001) (bad_c _ _ ?_) (fun τ q => bad_m _ _ ?_)
    · unfold s_X10_trim
      simp only [within_e, e1, wI_0 c, bn_some, ↓reduceIte]
    · unfold s_X11_trim
      have t1 : τ 150 23 = nI n := by rw [q.m (by omega)]; exact e2
      simp only [t1, isIn_0y, wI_0 c, bn_some, ↓reduceIte]
/- feed -/
def btI8 (x : Int32) (t : Nat) : Int32 := (x >>> ((24 - nI (8 * t)) &&& 31)) &&& 255
theorem f24a : ∀ i, i < 4 → ¬ (24 - nI (8 * i)) < 0 := by decide
theorem f24b : ∀ i, i < 4 → (24 - nI (8 * i)) + (-8) = 24 - nI (8 * (i + 1)) := by decide
theorem f24c : ∀ i, i < 12 → 24 - (8 * (nI i - nI i / 4 * 4)) = 24 - nI (8 * (i % 4)) := by decide +kernel
theorem x3_add4 (σ : Sg) (x : Int32) {n : Nat} (hn : n + 4 ≤ 96) (h : σ 114 1 = nI n) : Gv (s_X3_addFour σ x) (fun _ τ => τ 114 1 = nI (n + 4) ∧ (∀ j, j < n → τ 115 j = σ 115 j) ∧ (∀ t, t < 4 → τ 115 (n + t) = btI8 x t) ∧ ∀ c, c ≠ 114 → c ≠ 115 → τ c = σ c) := by
  unfold s_X3_addFour
  refine gv_loop0 (fun m i a => s_X3_addFour_3 m a x (24 - nI (8 * i))) 4 (fun i a => a 114 1 = nI (n + i) ∧ (∀ j, j < n → a 115 j = σ 115 j) ∧ (∀ t, t < i → a 115 (n + t) = btI8 x t) ∧ ∀ c, c ≠ 114 → c ≠ 115 → a c = σ c) (by omega) ⟨h, fun _ _ => rfl, fun t ht => absurd ht (by omega), fun _ _ _ => rfl⟩ ?_ ?_
  · intro m i a hi ⟨p1, p2, p3, p4⟩
    refine ⟨up (up a 115 (n + i) (btI8 x i)) 114 1 (nI (n + i + 1)), ?_, ?_, ?_, ?_, ?_⟩
    · simp only [s_X3_addFour_3]
      have l1 : ¬ (96 : Int32) ≤ nI (n + i) := nI_ge (b := 96) (by omega) (by omega)
      rw [if_neg (f24a i hi), p1, if_neg l1, if_pos (inb_nI (by omega) (by omega)), cl_nI (by omega), lt_e, lt_e, f24b i hi, by_e x i hi, up_d (by omega), p1, nI_1]
      rfl
    · rw [up_f, ua_s]; rfl
    · intro j hj; rw [up_d (by omega), up_f, ua_n (by omega)]; exact p2 j hj
    · intro t ht
      rw [up_d (by omega), up_f]
      by_cases q : t = i
      · subst q; rw [ua_s]
      · rw [ua_n (by omega)]; exact p3 t (by omega)
    · intro c a b; rw [up_d a, up_d b]; exact p4 c a b
  · intro m a ⟨p1, p2, p3, p4⟩
    simp only [s_X3_addFour_3]
    rw [if_pos (by decide)]
    exact gv_i ⟨p1, p2, p3, p4⟩
def slI (x y z : Int32) (i : Nat) : Int32 := if i < 4 then x else if i < 8 then y else z
theorem m_feed (σ : Sg) (x y z : Int32) {n : Nat} (hn : n + 12 ≤ 96) (h : σ 150 23 = nI n) : Gv (s_X11_feed_18 FU σ x y z 0) (fun r τ => r = nI (n + 12) ∧ τ 150 23 = nI (n + 12) ∧ (∀ j, j < n → τ 167 j = σ 167 j) ∧ (∀ t, t < 12 → τ 167 (n + t) = btI8 (slI x y z t) (t % 4)) ∧ (∀ j, j ≠ 23 → τ 150 j = σ 150 j) ∧ ∀ c, c ≠ 150 → c ≠ 167 → τ c = σ c) := by
  refine gv_loop0 (fun m i a => s_X11_feed_18 m a x y z (nI i)) 12 (fun i a => a 150 23 = nI (n + i) ∧ (∀ j, j < n → a 167 j = σ 167 j) ∧ (∀ t, t < i → a 167 (n + t) = btI8 (slI x y z t) (t % 4)) ∧ (∀ j, j ≠ 23 → a 150 j = σ 150 j) ∧ ∀ c, c ≠ 150 → c ≠ 167 → a c = σ c) (by omega) ⟨h, fun _ _ => rfl, fun t ht => absurd ht (by omega), fun _ _ => rfl, fun _ _ _ => rfl⟩ ?_ ?_
  · intro m i a hi ⟨p1, p2, p3, p4, p5⟩
    have s47 : ∀ w, s_X11_feed_47 (s_X11_feed_18 m) a x y z (nI i) w = s_X11_feed_18 m (up (up a 167 (n + i) (btI8 w (i % 4))) 150 23 (nI (n + i + 1))) x y z (nI (i + 1)) := by
      intro w
      unfold s_X11_feed_47
      rw [p1, if_pos (inb_nI (by omega) (by omega)), cl_nI (by omega), lt_e, lt_e, f24c i hi, up_d (by omega), p1, nI_1, nI_1]
      rfl
    refine ⟨up (up a 167 (n + i) (btI8 (slI x y z i) (i % 4))) 150 23 (nI (n + i + 1)), ?_, ?_, ?_, ?_, ?_, ?_⟩
    · simp only [s_X11_feed_18]
      have l1 : ¬ (12 : Int32) ≤ nI i := nI_ge (a := i) (b := 12) (by omega) (by omega)
      rw [if_neg l1, s47, s47, s47]
      unfold slI
      by_cases q1 : i < 4
      · have l2 : ¬ (4 : Int32) ≤ nI i := nI_ge (a := i) (b := 4) (by omega) (by omega)
        rw [if_neg l2, if_pos q1]
      · have l2 : (4 : Int32) ≤ nI i := nI_le (a := 4) (b := i) (by omega) (by omega)
        rw [if_pos l2, if_neg q1]
        by_cases q2 : i < 8
        · have l3 : ¬ (8 : Int32) ≤ nI i := nI_ge (a := i) (b := 8) (by omega) (by omega)
          rw [if_neg l3, if_pos q2]
        · have l3 : (8 : Int32) ≤ nI i := nI_le (a := 8) (b := i) (by omega) (by omega)
          rw [if_pos l3, if_neg q2]
    · rw [up_f, ua_s]; rfl
    · intro j hj; rw [up_d (by omega), up_f, ua_n (by omega)]; exact p2 j hj
    · intro t ht
      rw [up_d (by omega), up_f]
      by_cases q : t = i
      · subst q; rw [ua_s]
      · rw [ua_n (by omega)]; exact p3 t (by omega)
    · intro j hj; rw [up_f, ua_n hj, up_d (by omega)]; exact p4 j hj
    · intro c a b; rw [up_d a, up_d b]; exact p5 c a b
  · intro m a ⟨p1, p2, p3, p4, p5⟩
    simp only [s_X11_feed_18]
    rw [if_pos (by decide), p1]
    exact gv_i ⟨rfl, p1, p2, p3, p4, p5⟩
theorem call_feed (h : InvR σ σ) (x y z : Int32) : Call σ (s_X10_feed σ x y z) (fun τ => s_X11_feed τ x y z) := by
  obtain ⟨n, hn, e1, e2, e3⟩ := h.2.2.2.2.1
  by_cases c : n + 12 ≤ 96
  · have l1 : nI n + 12 ≤ 96 := by
      show nI n + nI 12 ≤ nI 96
      rw [nI_add]; exact nI_le c (by omega)
    refine call_g (fun r τ => r = nI (n + 12) ∧ τ 114 1 = nI (n + 12) ∧ (∀ j, j < n → τ 115 j = σ 115 j) ∧ (∀ t, t < 12 → τ 115 (n + t) = btI8 (slI x y z t) (t % 4)) ∧ ∀ c, c ≠ 114 → c ≠ 115 → τ c = σ c) ?_ (fun r τ p => p.2.2.2.2 _ (by omega) (by omega)) ?_
    · unfold s_X10_feed
      rw [e1, if_pos l1]
      refine gv_v (x3_add4 σ x (by omega) e1) ?_
      intro _ s1 ⟨a1, a2, a3, a4⟩
      refine gv_v (x3_add4 s1 y (by omega) a1) ?_
      intro _ s2 ⟨b1, b2, b3, b4⟩
      refine gv_v (x3_add4 s2 z (by omega) b1) ?_
      intro _ s3 ⟨c1, c2, c3, c4⟩
      refine gv_i ⟨c1, c1, fun j hj => by rw [c2 j (by omega), b2 j (by omega), a2 j hj], ?_, fun c p q => by rw [c4 c p q, b4 c p q, a4 c p q]⟩
      intro t ht
      unfold slI
      by_cases q1 : t < 4
      · rw [if_pos q1, c2 _ (by omega), b2 _ (by omega), a3 t q1, Nat.mod_eq_of_lt q1]
      · by_cases q2 : t < 8
        · rw [if_neg q1, if_pos q2, c2 _ (by omega), show n + t = n + 4 + (t - 4) by omega, b3 _ (by omega), show t % 4 = t - 4 by omega]
        · rw [if_neg q1, if_neg q2, show n + t = n + 4 + 4 + (t - 8) by omega, c3 _ (by omega), show t % 4 = t - 8 by omega]
    · intro r τ ⟨hr, p1, p2, p3, p4⟩
      subst hr
      have t1 : τ 150 23 = nI n := by rw [p4 _ (by omega) (by omega)]; exact e2
      show Gv (s_X11_feed τ x y z) _
      unfold s_X11_feed
      rw [t1, if_pos l1]
      refine gv_w (m_feed τ x y z c t1) ?_
      intro r ρ ⟨hr, q1, q2, q3, q4, q5⟩
      refine ⟨hr, ?_, by rw [q5 _ (by omega) (by omega), p4 _ (by omega) (by omega)]⟩
      refine inv_tp h (fun c a b d f => by rw [q5 c d f, p4 c a b]) (fun j hj => by rw [q4 j hj, p4 _ (by omega) (by omega)]) ⟨n + 12, c, ?_, q1, ?_⟩
      · rw [q5 _ (by omega) (by omega)]; exact p1
      · intro i hi
        rw [q5 115 (by omega) (by omega)]
        by_cases k : i < n
        · rw [p2 i k, q2 i k, p4 _ (by omega) (by omega)]; exact e3 i k
        · obtain ⟨t, rfl⟩ : ∃ t, i = n + t := ⟨i - n, by omega⟩
          rw [p3 t (by omega), q3 t (by omega)]
          exact ⟨rfl, sm255 _⟩
  · have l1 : ¬ nI n + 12 ≤ 96 := by
      show ¬ nI n + nI 12 ≤ nI 96
      rw [nI_add]; exact nI_ge (by omega) (by omega)
    refine call_q h (-1000000003) (bad_c _ _ ?_) (fun τ q => bad_m _ _ ?_)
    · unfold s_X10_feed
      rw [e1, if_neg l1]
    · unfold s_X11_feed
      rw [q.m (by omega), e2, if_neg l1]
end nz
