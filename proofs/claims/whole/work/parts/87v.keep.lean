section kb
variable {σ : Sg}
def SCc (w : Nat) : Prop := FL (w + 1) ∧ (rt w 0 = w + 1 ∧ rt w 1 = w + 19 ∧ rt w 3 = w + 20 ∧ aln 0 (w + 19) = 10) ∧ (∀ t, t < 10 → rt (w + 19) t = w + 24 + 2 * t ∧ WCc (w + 24 + 2 * t)) ∧ KCc (w + 20)
theorem sc1 : SCc 1 := ⟨.inl rfl, by decide, fun t ht => ⟨wr_l t ht, wc_l t ht⟩, kc21⟩
theorem sc45 : SCc 45 := ⟨.inr (.inl rfl), by decide, fun t ht => ⟨wr_i t ht, wc_i t ht⟩, kc65⟩
theorem gl_lt {α : Type} {L : List α} {i : Nat} {a : α} (h : L[i]? = some a) : i < L.length := by
  apply Decidable.byContradiction
  intro hh
  rw [List.getElem?_eq_none (by omega)] at h
  cases h
theorem x7_take {w v : Nat} {A : Nat → Int32} (hw : SCc w) (hv : SCc v) (hd : v + 44 ≤ w ∨ w + 44 ≤ v) (hA : WSA A) (h : RS σ v A) : Gv (s_X7_takeFrom σ w v) (fun _ τ => RS τ w A ∧ ∀ c, c < w ∨ w + 44 ≤ c → τ c = σ c) := by
  obtain ⟨f1, ⟨a0, a1, a2, a3⟩, a4, a5⟩ := hw
  obtain ⟨f2, ⟨b0, b1, b2, b3⟩, b4, b5⟩ := hv
  have n10 := hA.2.1.2
  have e2 := hA.2.1.1
  have n8 := hA.1.n8
  have k8 := hA.2.2.1.2
  unfold s_X7_takeFrom
  rw [a0, b0]
  refine gv_v (x1_take f1 f2 (by omega) hA.1 h.1) ?_
  intro _ s ⟨p1, p2⟩
  rw [lt_e, p2 v (by omega), h.2.1]
  have q1 : RF (up s w 2 (A 2)) (w + 1) A := RF_c p1 n8 (fun c a b d => up_d (by omega))
  refine gv_loop0 (fun m i s => s_X7_takeFrom_21 m s w v (nI i)) (nT A) (fun i s => RF s (w + 1) A ∧ s w 2 = A 2 ∧ (∀ c, c < w ∨ w + 44 ≤ c → s c = σ c) ∧ ∀ t, t < i → (∀ k, k < 3 → s (w + 24 + 2 * t) k = σ (v + 24 + 2 * t) k) ∧ ∀ j, j < 96 → s (w + 24 + 2 * t + 1) j = σ (v + 24 + 2 * t + 1) j) (by omega) ⟨q1, by rw [up_f, ua_s], fun c hc => by rw [up_d (by omega)]; exact p2 c (by omega), fun _ h => absurd h (by omega)⟩ ?_ ?_
  · intro m i s hi ⟨r1, r2, r3, r4⟩
    have l1 : ¬ (nI (nT A)) ≤ nI i := nI_ge (b := nT A) (by omega) (by omega)
    obtain ⟨_, s', es, t1, t2, t3⟩ := x9_take (σ := s) (a4 i (by omega)).2 (b4 i (by omega)).2 (by omega) (by omega) (by omega)
    refine ⟨s', ?_, ?_, ?_, ?_, ?_⟩
    · simp only [s_X7_takeFrom_21]
      rw [r2, e2, if_neg l1, a1, b1, a3, b3, if_pos (inb_nI (by omega) (by omega)), if_pos (inb_nI (by omega) (by omega)), cl_nI (by omega), (a4 i (by omega)).1, (b4 i (by omega)).1, es, bv_some, nI_1]
    · exact RF_c r1 n8 (fun c a b d => t3 c (by omega) (by omega))
    · rw [t3 _ (by omega) (by omega)]; exact r2
    · intro c hc; rw [t3 _ (by omega) (by omega)]; exact r3 c hc
    · intro t ht
      by_cases q : t = i
      · subst q
        refine ⟨fun k hk => ?_, fun j hj => ?_⟩
        · rw [t1 k hk, r3 _ (by omega)]
        · rw [t2 j hj, r3 _ (by omega)]
      · rw [t3 (w + 24 + 2 * t) (by omega) (by omega), t3 (w + 24 + 2 * t + 1) (by omega) (by omega)]; exact r4 t (by omega)
  · intro m s ⟨r1, r2, r3, r4⟩
    simp only [s_X7_takeFrom_21]
    rw [r2, e2, if_pos (nI_le (a := nT A) (by omega) (by omega)), a2, b2]
    refine gv_v (x2_take a5 b5 (by omega)) ?_
    intro _ s' ⟨t1, t2, t3⟩
    refine gv_i ⟨⟨?_, ?_, ?_, ?_, ?_⟩, ?_⟩
    · exact RF_c r1 n8 (fun c a b d => t3 c (by omega))
    · rw [t3 _ (by omega), r2]
    · intro t ht
      obtain ⟨key, c, L, k1, k2, m0, m1, m2, m3⟩ := h.2.2.1 t ht
      have k96 := k1.2.1
      refine ⟨key, c, L, k1, k2, ?_⟩
      unfold TXc
      rw [t3 (w + 24 + 2 * t) (by omega), t3 (w + 24 + 2 * t + 1) (by omega)]
      refine ⟨by rw [(r4 t ht).1 0 (by omega)]; exact m0, by rw [(r4 t ht).1 1 (by omega)]; exact m1, by rw [(r4 t ht).1 2 (by omega)]; exact m2, fun i tk hi => ?_⟩
      have := gl_lt hi
      rw [(r4 t ht).2 i (by omega)]; exact m3 i tk hi
    · rw [t1, r3 _ (by omega)]; exact h.2.2.2.1
    · intro k hk
      obtain ⟨u1, u2, u3⟩ := t2 k (by omega)
      rw [u1, u2, u3, r3 _ (by omega), r3 _ (by omega), r3 _ (by omega)]; exact h.2.2.2.2 k hk
    · intro c hc; rw [t3 _ (by omega)]; exact r3 c hc
theorem call_keep (h : InvR σ σ) : Call σ (s_X10_keep σ) (fun τ => s_X11_keep τ) := by
  refine call_g (fun r τ => r = σ 151 0 ∧ RS τ 45 (σ 151) ∧ τ 0 = ua (σ 0) 2 1 ∧ ∀ c, c ≠ 0 → c < 45 ∨ 89 ≤ c → τ c = σ c) ?_ (fun r τ p => p.2.2.2 _ (by omega) (by omega)) ?_
  · unfold s_X10_keep
    refine gv_v (x7_take sc45 sc1 (by omega) h.1 h.2.1) ?_
    intro _ s ⟨p1, p2⟩
    rw [lt_e]
    refine gv_i ⟨?_, ?_, ?_, ?_⟩
    · rw [up_d (by omega), p2 _ (by omega), h.f.1.n]
    · exact RS_c h.1 p1 (fun c a b d => up_d (by omega))
    · rw [up_f, p2 0 (by omega)]
    · intro c a b; rw [up_d a]; exact p2 c (by omega)
  · intro r τ ⟨hr, p1, p2, p3⟩
    show Gv (s_X11_keep τ) _
    unfold s_X11_keep
    rw [lt_e]
    refine gv_v (m_setAside _ (a := 151) (b := 152) (by decide) (by decide) (by omega)) ?_
    intro _ ρ ⟨q1, q2, q3⟩
    have k : ∀ c, c ≠ 150 → c ≠ 152 → ρ c = τ c := fun c a b => by rw [q3 c b, up_d a]
    have e : ∀ c, c ≠ 0 → c < 45 ∨ 89 ≤ c → c ≠ 150 → c ≠ 152 → ρ c = σ c := fun c a b d f => by rw [k c d f]; exact p3 c a b
    have s : ∀ j, j ≠ 3 → ρ 150 j = σ 150 j := fun j hj => by rw [q3 _ (by omega), up_f, ua_n hj, p3 _ (by omega) (by omega)]
    have s3 : ρ 150 3 = 1 := by rw [q3 _ (by omega), up_f, ua_s]
    have r0 : ρ 0 = ua (σ 0) 2 1 := by rw [k _ (by omega) (by omega)]; exact p2
    have r152 : ρ 152 = σ 151 := aside_e (A := σ 151) (B := σ 152) h.1.2.2.2 h.2.2.1.2.1 (fun j hj => by rw [q1 j hj, up_d (by omega), p3 _ (by omega) (by omega)]) (fun j hj => by rw [q2 j hj, up_d (by omega), p3 _ (by omega) (by omega)])
    have e1 : ρ 151 = σ 151 := e _ (by omega) (by omega) (by omega) (by omega)
    refine gv_i ⟨by rw [e1, hr], ?_, e _ (by omega) (by omega) (by omega) (by omega)⟩
    obtain ⟨i1, i2, i3, i4, i5, i6, i7, i8, i9⟩ := h
    unfold InvR
    rw [e1]
    refine ⟨i1, RS_c i1 i2 (fun c a b d => e c (by omega) (by omega) (by omega) (by omega)), ⟨?_, ?_, ?_, .inr ⟨s3, ?_, ?_⟩⟩, ?_, ?_, ?_, ?_, ?_, ?_⟩
    · rw [r0, ua_s, s3]
    · rw [r152]; exact i1.2.2.2
    · rw [e 153 (by omega) (by omega) (by omega) (by omega)]; exact i3.2.2.1
    · rw [r152]; exact i1
    · rw [r152]; exact RS_c i1 p1 (fun c a b d => k c (by omega) (by omega))
    · obtain ⟨E, l, a, b, d⟩ := i4
      exact ⟨E, l, TRLc_c a (fun c h1 h2 => e c (by omega) (by omega) (by omega) (by omega)), TRLm_c b (s _ (by omega)) (e _ (by omega) (by omega) (by omega) (by omega)), d⟩
    · exact TP_c i5 (by rw [e _ (by omega) (by omega) (by omega) (by omega)]) (e _ (by omega) (by omega) (by omega) (by omega)) (s _ (by omega)) (e _ (by omega) (by omega) (by omega) (by omega))
    · exact SHT_c i6 (fun c a b => e c (by omega) (by omega) (by omega) (by omega)) (e _ (by omega) (by omega) (by omega) (by omega)) (e _ (by omega) (by omega) (by omega) (by omega)) (e _ (by omega) (by omega) (by omega) (by omega))
    · exact SLT_c i7 (fun c a b => e c (by omega) (by omega) (by omega) (by omega)) (e _ (by omega) (by omega) (by omega) (by omega)) (e _ (by omega) (by omega) (by omega) (by omega)) (e _ (by omega) (by omega) (by omega) (by omega)) (e _ (by omega) (by omega) (by omega) (by omega))
    · exact WTG_c i8 (by rw [r0, ua_n (by omega)]) (e _ (by omega) (by omega) (by omega) (by omega)) (s _ (by omega)) (e _ (by omega) (by omega) (by omega) (by omega))
    · exact CST_c i9 (fun c a b => e c (by omega) (by omega) (by omega) (by omega)) (e _ (by omega) (by omega) (by omega) (by omega))
theorem call_back (h : InvR σ σ) : Call σ (s_X10_back σ) (fun τ => s_X11_back τ) := by
  obtain ⟨g1, g2, g3, g4⟩ := h.2.2.1
  rcases g4 with g4 | ⟨g4, g5, g6⟩
  · refine call_q h (-1000000002) (bad_c _ _ ?_) (fun τ q => bad_m _ _ ?_)
    · unfold s_X10_back
      rw [g1, g4, if_pos rfl]
    · unfold s_X11_back
      rw [q.m (by omega), g4, if_pos rfl]
  · refine call_g (fun r τ => r = σ 152 0 ∧ RS τ 1 (σ 152) ∧ τ 110 = ua (σ 110) 4 0 ∧ ∀ c, c < 1 ∨ 45 ≤ c → c ≠ 110 → τ c = σ c) ?_ (fun r τ p => p.2.2.2 _ (by omega) (by omega)) ?_
    · unfold s_X10_back s_X8_forget
      rw [g1, g4, if_neg (by decide)]
      refine gv_v (x7_take sc1 sc45 (by omega) g5 g6) ?_
      intro _ s ⟨p1, p2⟩
      rw [lt_e, bv_some]
      refine gv_i ⟨?_, ?_, ?_, ?_⟩
      · rw [up_d (by omega), p1.1.1.n]
      · exact RS_c g5 p1 (fun c a b d => up_d (by omega))
      · rw [up_f, p2 _ (by omega)]
      · intro c a b; rw [up_d b]; exact p2 c (by omega)
    · intro r τ ⟨hr, p1, p2, p3⟩
      show Gv (s_X11_back τ) _
      unfold s_X11_back
      rw [p3 150 (by omega) (by omega), g4, if_neg (by decide)]
      refine gv_v (m_setAside _ (a := 152) (b := 151) (by decide) (by decide) (by omega)) ?_
      intro _ s ⟨q1, q2, q3⟩
      rw [lt_e]
      have s151 : s 151 = σ 152 := aside_e (A := σ 152) (B := σ 151) g2 h.1.2.2.2 (fun j hj => by rw [q1 j hj, p3 _ (by omega) (by omega)]) (fun j hj => by rw [q2 j hj, p3 _ (by omega) (by omega)])
      have e151 : up s 150 5 0 151 = σ 152 := by rw [up_d (by omega)]; exact s151
      have k : ∀ c, c ≠ 150 → c ≠ 151 → up s 150 5 0 c = τ c := fun c a b => by rw [up_d a]; exact q3 c b
      have e : ∀ c, c < 1 ∨ 45 ≤ c → c ≠ 110 → c ≠ 150 → c ≠ 151 → up s 150 5 0 c = σ c := fun c a b d f => by rw [k c d f]; exact p3 c a b
      have sj : ∀ j, j ≠ 5 → up s 150 5 0 150 j = σ 150 j := fun j hj => by rw [up_f, ua_n hj, q3 _ (by omega), p3 _ (by omega) (by omega)]
      have r110 : up s 150 5 0 110 = ua (σ 110) 4 0 := by rw [k _ (by omega) (by omega)]; exact p2
      refine gv_i ⟨by rw [e151, hr], ?_, e _ (by omega) (by omega) (by omega) (by omega)⟩
      refine inv_now h ?_ ?_ ?_ (fun c a b d f => e c (by omega) (by omega) (by omega) (by omega)) (by rw [e _ (by omega) (by omega) (by omega) (by omega)]) ⟨sj _ (by omega), sj _ (by omega), sj _ (by omega)⟩
      · rw [e151]; exact g5
      · rw [e151]; exact RS_c g5 p1 (fun c a b d => k c (by omega) (by omega))
      · exact TRL_0 h.2.2.2.1 (by rw [r110, ua_s]) (by rw [r110, ua_n (by omega)]) (by rw [up_f, ua_s])
end kb
