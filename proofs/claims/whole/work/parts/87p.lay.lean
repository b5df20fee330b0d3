section ly
variable {σ : Sg}
theorem inv_sl {ρ : Sg} (h : InvR σ σ) (e : ∀ c, c < 129 ∨ (149 ≤ c ∧ c < 158) ∨ 162 ≤ c → ρ c = σ c) (t : SLT ρ ρ) : InvR ρ ρ := by
  refine inv_g h (fun c a => e c (by omega)) ?_ (by rw [e _ (by omega)]) ⟨by rw [e _ (by omega)], by rw [e _ (by omega)]⟩ (TP_c h.2.2.2.2.1 (by rw [e _ (by omega)]) (e _ (by omega)) (by rw [e _ (by omega)]) (e _ (by omega))) (SHT_c h.2.2.2.2.2.1 (fun c a b => e c (by omega)) (e _ (by omega)) (e _ (by omega)) (e _ (by omega))) t (WTG_c h.2.2.2.2.2.2.2.1 (by rw [e _ (by omega)]) (e _ (by omega)) (by rw [e _ (by omega)]) (e _ (by omega)))
  rw [e _ (by omega)]; exact h.2.2.1.2.2.1
def SL1 (σ τ : Sg) (k : Nat) : Prop := σ (129 + 4 * k) 0 = τ 158 k ∧ sm 3 (τ 158 k) ∧ (τ 158 k = 1 → BR σ (130 + 4 * k) (τ 161) (24 * k) ∧ VA (τ 161) (24 * k)) ∧ (τ 158 k = 2 → σ (131 + 4 * k) 1 = τ 160 k ∧ sm 24 (τ 160 k) ∧ ∀ i, i < 24 → σ (132 + 4 * k) i = τ 161 (24 * k + i)) ∧ (τ 158 k = 3 → σ (129 + 4 * k) 3 = τ 159 k)
theorem SL1_o {ρ : Sg} {j : Nat} (h : SL1 σ σ j) (e : ∀ c, 129 + 4 * j ≤ c → c < 133 + 4 * j → ρ c = σ c) (e8 : ρ 158 j = σ 158 j) (e9 : ρ 159 j = σ 159 j) (e0 : ρ 160 j = σ 160 j) (e1 : ∀ t, t < 24 → ρ 161 (24 * j + t) = σ 161 (24 * j + t)) : SL1 ρ ρ j := by
  obtain ⟨a, b, c, d, f⟩ := h
  unfold SL1
  rw [e8, e9, e0, e (129 + 4 * j) (by omega) (by omega)]
  refine ⟨a, b, fun v => ?_, fun v => ?_, f⟩
  · obtain ⟨c1, c2⟩ := c v
    refine ⟨BR_g c1 (e _ (by omega) (by omega)) (fun k hk => e1 k (by omega)), ?_⟩
    unfold VA at c2 ⊢
    have z : ρ 161 (24 * j) = σ 161 (24 * j) := e1 0 (by omega)
    rw [z, e1 1 (by omega), e1 2 (by omega), e1 5 (by omega)]; exact c2
  · obtain ⟨d1, d2, d3⟩ := d v
    rw [e (131 + 4 * j) (by omega) (by omega), e (132 + 4 * j) (by omega) (by omega)]
    exact ⟨d1, d2, fun i hi => by rw [e1 i hi]; exact d3 i hi⟩
theorem m_lay99 (τ : Sg) {k i : Nat} (hk : k < 5) (hi : i < 8) (v : Int32) : Gv (s_X11_lay_99 FU τ (nI k) 1 (nI i) v 0) (fun r ρ => r = v ∧ (∀ t, t < 6 → ρ 161 (24 * k + t) = τ 151 (20 + 6 * i + t)) ∧ (∀ j, j < 24 * k ∨ 24 * k + 24 ≤ j → ρ 161 j = τ 161 j) ∧ ∀ c, c ≠ 161 → ρ c = τ c) := by
  refine gv_loop0 (fun m t a => s_X11_lay_99 m a (nI k) 1 (nI i) v (nI t)) 6 (fun t a => (∀ j, j < t → a 161 (24 * k + j) = τ 151 (20 + 6 * i + j)) ∧ (∀ j, j < 24 * k ∨ 24 * k + 24 ≤ j → a 161 j = τ 161 j) ∧ ∀ c, c ≠ 161 → a c = τ c) (by omega) ⟨fun _ a => absurd a (by omega), fun _ _ => rfl, fun _ _ => rfl⟩ ?_ ?_
  · intro m t a ht ⟨p1, p2, p3⟩
    refine ⟨up a 161 (24 * k + t) (a 151 (20 + 6 * i + t)), ?_, ?_, ?_, ?_⟩
    · simp only [s_X11_lay_99, s_X11_blockAt]
      have l1 : ¬ (6 : Int32) ≤ nI t := nI_ge (b := 6) (by omega) (by omega)
      simp (disch := omega) only [↓reduceIte, l1, bn_some, NK, nI_add, inb_n, lt_e, cl_nI, nI_1]
    · intro j hj
      rw [up_f]
      by_cases q : j = t
      · subst q; rw [ua_s, p3 _ (by omega)]
      · rw [ua_n (by omega)]; exact p1 j (by omega)
    · intro j hj; rw [up_f, ua_n (by omega)]; exact p2 j hj
    · intro c hc; rw [up_d hc]; exact p3 c hc
  · intro m a ⟨p1, p2, p3⟩
    have l1 : (6 : Int32) ≤ nI 6 := by decide
    have l2 : ¬ (1 : Int32) = 2 := by decide
    refine gv_e (o' := some (v, a)) ?_ (gv_i ⟨rfl, p1, p2, p3⟩)
    simp only [s_X11_lay_99, s_X11_lay_142, l1, l2, ↓reduceIte]
theorem m_lay162 (τ : Sg) {k l : Nat} (hk : k < 5) (hl : l < 4) (v : Int32) : Gv (s_X11_lay_162 FU τ (nI k) (nI l) v 0) (fun r ρ => r = v ∧ (∀ t, t < 24 → ρ 161 (24 * k + t) = τ 157 (24 * l + t)) ∧ (∀ j, j < 24 * k ∨ 24 * k + 24 ≤ j → ρ 161 j = τ 161 j) ∧ ∀ c, c ≠ 161 → ρ c = τ c) := by
  refine gv_loop0 (fun m t a => s_X11_lay_162 m a (nI k) (nI l) v (nI t)) 24 (fun t a => (∀ j, j < t → a 161 (24 * k + j) = τ 157 (24 * l + j)) ∧ (∀ j, j < 24 * k ∨ 24 * k + 24 ≤ j → a 161 j = τ 161 j) ∧ ∀ c, c ≠ 161 → a c = τ c) (by omega) ⟨fun _ a => absurd a (by omega), fun _ _ => rfl, fun _ _ => rfl⟩ ?_ ?_
  · intro m t a ht ⟨p1, p2, p3⟩
    refine ⟨up a 161 (24 * k + t) (a 157 (24 * l + t)), ?_, ?_, ?_, ?_⟩
    · simp only [s_X11_lay_162]
      have l1 : ¬ (24 : Int32) ≤ nI t := nI_ge (b := 24) (by omega) (by omega)
      simp (disch := omega) only [↓reduceIte, l1, NK, nI_add, inb_n, lt_e, cl_nI, nI_1]
    · intro j hj
      rw [up_f]
      by_cases q : j = t
      · subst q; rw [ua_s, p3 _ (by omega)]
      · rw [ua_n (by omega)]; exact p1 j (by omega)
    · intro j hj; rw [up_f, ua_n (by omega)]; exact p2 j hj
    · intro c hc; rw [up_d hc]; exact p3 c hc
  · intro m a ⟨p1, p2, p3⟩
    simp only [s_X11_lay_162]
    rw [if_pos (by decide)]
    exact gv_i ⟨rfl, p1, p2, p3⟩
theorem lay_x {τ : Sg} {k : Nat} {x3 x2 v : Int32} (h1 : ¬ x2 = 1) : s_X11_lay_99 FU τ (nI k) x2 x3 v 0 = s_X11_lay_142 τ (nI k) x2 x3 v := by
  refine loop0 (fun m i (_ : Unit) => s_X11_lay_99 m τ (nI k) x2 x3 v (nI i)) (fun _ => s_X11_lay_142 τ (nI k) x2 x3 v) (fun _ u => u) 0 () (by omega) ?_ ?_
  · intro m i a hi; exact absurd hi (by omega)
  · intro m _
    simp only [s_X11_lay_99]
    rw [if_neg h1]
theorem lay_74 {τ : Sg} {k : Nat} (hk : k < 5) (x2 x3 : Int32) : s_X11_lay_74 τ (nI k) x2 x3 = s_X11_lay_99 FU (up (up τ 158 k x2) 159 k x3) (nI k) x2 x3 (τ 158 k) 0 := by
  unfold s_X11_lay_74
  simp (disch := omega) only [inb_n, ↓reduceIte, cl_nI, lt_e]
theorem sl_1 (h : InvR σ σ) {j : Nat} (hj : j < 5) : SL1 σ σ j := h.2.2.2.2.2.2.1 j hj
/-- a slot becomes empty, or holds a number -/
theorem lay_n (h : InvR σ σ) {X : RO} {Y : Sg → RO} {k : Nat} (hk : k < 5) (x2 x3 : Int32) (hx : x2 = 0 ∨ x2 = 3) (hX : X = s_X10_lay_78 σ (nI k) x2 x3) (hY : ∀ τ : Sg, τ 155 = σ 155 → τ 151 = σ 151 → Y τ = s_X11_lay_74 τ (nI k) x2 x3) : Call σ X Y := by
  obtain ⟨r1, r2, r3, r4, r5⟩ := sl_l k hk
  have n1 : ¬ x2 = 1 := by rcases hx with rfl | rfl <;> decide
  have n2 : ¬ x2 = 2 := by rcases hx with rfl | rfl <;> decide
  have n3 : sm 3 x2 := by
    rcases hx with rfl | rfl
    · exact sm_0
    · exact ⟨3, by omega, rfl⟩
  have v0 : σ (129 + 4 * k) 0 = σ 158 k := (sl_1 h hk).1
  let τ := up (up σ (129 + 4 * k) 0 x2) (129 + 4 * k) 3 x3
  have eτ : τ = up (up σ (129 + 4 * k) 0 x2) (129 + 4 * k) 3 x3 := rfl
  have tc : ∀ c, c ≠ 129 + 4 * k → τ c = σ c := fun c hc => by rw [eτ, up_d hc, up_d hc]
  have e : ∀ c, c ≠ 129 + 4 * k → c ≠ 158 → c ≠ 159 → up (up τ 158 k x2) 159 k x3 c = σ c := fun c a b d => by rw [up_d d, up_d b, tc c a]
  refine ⟨σ 158 k, τ, up (up τ 158 k x2) 159 k x3, ?_, ?_, ?_, tc _ (by omega), e _ (by omega) (by omega) (by omega)⟩
  · rw [hX]
    unfold s_X10_lay_78
    rw [if_pos (inb_nI hk (by omega)), cl_nI (by omega), r1, lt_e, lt_e, lt_e, if_neg n1, if_neg n2, lt_e, v0]
  · rw [hY τ (tc _ (by omega)) (tc _ (by omega)), lay_74 hk, lay_x n1]
    unfold s_X11_lay_142
    rw [if_neg n2, tc _ (by omega)]
  · refine inv_sl h (fun c a => e c (by omega) (by omega) (by omega)) ?_
    intro j hj
    have u8 : up (up τ 158 k x2) 159 k x3 158 = ua (σ 158) k x2 := by rw [up_d (by omega), up_f, tc _ (by omega)]
    have u9 : up (up τ 158 k x2) 159 k x3 159 = ua (σ 159) k x3 := by rw [up_f, up_d (by omega), tc _ (by omega)]
    by_cases c : j = k
    · subst c
      rw [u8, u9, ua_s, ua_s, up_d (by omega), up_d (by omega), eτ, up_f, up_f, ua_n (by omega), ua_s]
      exact ⟨rfl, n3, fun e => absurd e n1, fun e => absurd e n2, fun _ => ua_s⟩
    · refine SL1_o (sl_1 h hj) (fun c a b => e c (by omega) (by omega) (by omega)) (by rw [u8, ua_n c]) (by rw [u9, ua_n c]) (by rw [e _ (by omega) (by omega) (by omega)]) (fun t ht => by rw [e _ (by omega) (by omega) (by omega)])
/-- a slot holds a block -/
theorem lay_b (h : InvR σ σ) {X : RO} {Y : Sg → RO} {k i : Nat} (hk : k < 5) (hi : i < nB (σ 151)) (hX : X = s_X10_lay_78 σ (nI k) 1 (nI i)) (hY : ∀ τ : Sg, τ 155 = σ 155 → τ 151 = σ 151 → Y τ = s_X11_lay_74 τ (nI k) 1 (nI i)) : Call σ X Y := by
  have n8 := h.w.n8
  obtain ⟨r1, r2, r3, r4, r5⟩ := sl_l k hk
  have v0 : σ (129 + 4 * k) 0 = σ 158 k := (sl_1 h hk).1
  refine call_g (fun r τ => r = σ 158 k ∧ τ (129 + 4 * k) 0 = 1 ∧ (∀ t, t < 10 → τ (130 + 4 * k) t = σ (2 + 10 + i) t) ∧ ∀ c, c ≠ 129 + 4 * k → c ≠ 130 + 4 * k → τ c = σ c) ?_ (fun r τ p => p.2.2.2 _ (by omega) (by omega)) ?_
  · rw [hX]
    unfold s_X10_lay_78
    rw [if_pos (inb_nI hk (by omega)), cl_nI (by omega), r1, lt_e, lt_e, lt_e, if_pos rfl, if_pos (inb_nI (show i < 8 by omega) (by omega)), cl_nI (by omega), r2, r3_ (by omega)]
    refine gv_v (x0_take _ (by omega)) ?_
    intro _ τ ⟨p1, p2⟩
    refine gv_i ⟨v0, ?_, fun t ht => ?_, fun c a b => ?_⟩
    · rw [p2 _ (by omega), up_f, ua_s]
    · rw [p1 t ht, up_d (by omega)]
    · rw [p2 c b, up_d a]
  · intro r τ ⟨hr, p1, p2, p3⟩
    rw [hY τ (p3 _ (by omega) (by omega)) (p3 _ (by omega) (by omega)), lay_74 hk]
    refine gv_w (m_lay99 _ hk (by omega) _) ?_
    intro r' ρ ⟨q0, q1, q2, q3⟩
    have rc : ∀ c, c ≠ 161 → c ≠ 158 → c ≠ 159 → ρ c = τ c := fun c a b d => by rw [q3 c a, up_d d, up_d b]
    have u8 : ρ 158 = ua (σ 158) k 1 := by rw [q3 _ (by omega), up_d (by omega), up_f, p3 _ (by omega) (by omega)]
    have u9 : ρ 159 = ua (σ 159) k (nI i) := by rw [q3 _ (by omega), up_f, up_d (by omega), p3 _ (by omega) (by omega)]
    have q1' : ∀ t, t < 6 → ρ 161 (24 * k + t) = σ 151 (20 + 6 * i + t) := fun t ht => by rw [q1 t ht, up_d (by omega), up_d (by omega), p3 _ (by omega) (by omega)]
    refine ⟨by rw [q0, hr, p3 _ (by omega) (by omega)], inv_sl h (fun c a => by rw [rc c (by omega) (by omega) (by omega), p3 c (by omega) (by omega)]) ?_, by rw [rc _ (by omega) (by omega) (by omega), p3 _ (by omega) (by omega)]⟩
    intro j hj
    by_cases c : j = k
    · subst c
      rw [u8, u9, ua_s, ua_s, rc (129 + 4 * j) (by omega) (by omega) (by omega)]
      refine ⟨p1, ⟨1, by omega, rfl⟩, fun _ => ⟨?_, ?_⟩, fun e => absurd e (by decide), fun e => absurd e (by decide)⟩
      · obtain ⟨b1, b2, b3⟩ := h.f.1.br hi
        have z : ρ 161 (24 * j) = σ 151 (20 + 6 * i) := q1' 0 (by omega)
        unfold BR
        rw [rc (130 + 4 * j) (by omega) (by omega) (by omega), z, q1' 1 (by omega), q1' 2 (by omega), q1' 5 (by omega), p2 6 (by omega), p2 7 (by omega)]
        exact ⟨fun t ht => by rw [p2 t (by omega), q1' t ht]; exact b1 t ht, b2, b3⟩
      · have := h.w.v hi
        have z : ρ 161 (24 * j) = σ 151 (20 + 6 * i) := q1' 0 (by omega)
        unfold VA at this ⊢
        rw [z, q1' 1 (by omega), q1' 2 (by omega), q1' 5 (by omega)]; exact this
    · refine SL1_o (sl_1 h hj) (fun d a b => by rw [rc d (by omega) (by omega) (by omega), p3 d (by omega) (by omega)]) (by rw [u8, ua_n c]) (by rw [u9, ua_n c]) (by rw [rc _ (by omega) (by omega) (by omega), p3 _ (by omega) (by omega)]) (fun t ht => by rw [q2 _ (by omega), up_d (by omega), up_d (by omega), p3 _ (by omega) (by omega)])
theorem ck24 : (cpk 0 0 24 24 24 = true) = True := by decide
theorem k24c : (24 : Int32).toNatClampNeg = 24 := by decide
/-- a slot holds a sheet -/
theorem lay_s (h : InvR σ σ) {X : RO} {Y : Sg → RO} {k l : Nat} (hk : k < 5) (hl : l < 4) (hX : X = s_X10_lay_78 σ (nI k) 2 (nI l)) (hY : ∀ τ : Sg, τ 155 = σ 155 → τ 151 = σ 151 → Y τ = s_X11_lay_74 τ (nI k) 2 (nI l)) : Call σ X Y := by
  obtain ⟨r1, r2, r3, r4, r5⟩ := sl_l k hk
  obtain ⟨s1, s2, s3⟩ := sh_l l hl
  obtain ⟨a0, a1, a2, a3, a4⟩ := h.2.2.2.2.2.1 l hl
  have v0 : σ (129 + 4 * k) 0 = σ 158 k := (sl_1 h hk).1
  refine call_g (fun r τ => r = σ 158 k ∧ τ (129 + 4 * k) 0 = 2 ∧ τ (131 + 4 * k) 1 = σ 156 l ∧ (∀ t, t < 24 → τ (132 + 4 * k) t = σ 157 (24 * l + t)) ∧ ∀ c, c ≠ 129 + 4 * k → c ≠ 131 + 4 * k → c ≠ 132 + 4 * k → τ c = σ c) ?_ (fun r τ p => p.2.2.2.2 _ (by omega) (by omega) (by omega)) ?_
  · rw [hX]
    unfold s_X10_lay_78 s_X5_takeFrom
    rw [if_pos (inb_nI hk (by omega)), cl_nI (by omega), r1, lt_e, lt_e, lt_e, if_neg (by decide), if_pos rfl, if_pos (inb_nI hl (by omega)), cl_nI (by omega), r3, r4, s1, s2, s3, r5, lt_e, lt_e, if_pos (by decide), lt_e, k0c, k24c, bv_some]
    refine gv_i ⟨v0, ?_, ?_, ?_, ?_⟩
    · rw [cpy_d (by omega), up_d (by omega), up_d (by omega), up_f, ua_s]
    · rw [cpy_d (by omega), up_f, ua_s, up_d (by omega), up_d (by omega)]; exact a1
    · intro t ht
      rw [cpy_f, ub0 ht, up_d (by omega), up_d (by omega), up_d (by omega)]; exact a2 t ht
    · intro c a b d
      rw [cpy_d d, up_d b, up_d b, up_d a]
  · intro r τ ⟨hr, p1, p2, p3, p4⟩
    rw [hY τ (p4 _ (by omega) (by omega) (by omega)) (p4 _ (by omega) (by omega) (by omega)), lay_74 hk, lay_x (x2 := 2) (by decide)]
    unfold s_X11_lay_142
    rw [if_pos rfl, if_pos (inb_nI hl (by omega)), if_pos (inb_nI hk (by omega)), lt_e, cl_nI (by omega), cl_nI (by omega)]
    refine gv_w (m_lay162 _ hk hl _) ?_
    intro r' ρ ⟨q0, q1, q2, q3⟩
    have rc : ∀ c, c ≠ 161 → c ≠ 158 → c ≠ 159 → c ≠ 160 → ρ c = τ c := fun c a b d f => by rw [q3 c a, up_d f, up_d d, up_d b]
    have u8 : ρ 158 = ua (σ 158) k 2 := by rw [q3 _ (by omega), up_d (by omega), up_d (by omega), up_f, p4 _ (by omega) (by omega) (by omega)]
    have u9 : ρ 159 = ua (σ 159) k (nI l) := by rw [q3 _ (by omega), up_d (by omega), up_f, up_d (by omega), p4 _ (by omega) (by omega) (by omega)]
    have u0 : ρ 160 = ua (σ 160) k (σ 156 l) := by rw [q3 _ (by omega), up_f, up_d (by omega), up_d (by omega), up_d (by omega), up_d (by omega), p4 _ (by omega) (by omega) (by omega), p4 _ (by omega) (by omega) (by omega)]
    have q1' : ∀ t, t < 24 → ρ 161 (24 * k + t) = σ 157 (24 * l + t) := fun t ht => by rw [q1 t ht, up_d (by omega), up_d (by omega), up_d (by omega), p4 _ (by omega) (by omega) (by omega)]
    refine ⟨by rw [q0, hr, p4 _ (by omega) (by omega) (by omega)], inv_sl h (fun c a => by rw [rc c (by omega) (by omega) (by omega) (by omega), p4 c (by omega) (by omega) (by omega)]) ?_, by rw [rc _ (by omega) (by omega) (by omega) (by omega), p4 _ (by omega) (by omega) (by omega)]⟩
    intro j hj
    by_cases c : j = k
    · subst c
      rw [u8, u9, u0, ua_s, ua_s, ua_s, rc (129 + 4 * j) (by omega) (by omega) (by omega) (by omega), rc (131 + 4 * j) (by omega) (by omega) (by omega) (by omega), rc (132 + 4 * j) (by omega) (by omega) (by omega) (by omega)]
      refine ⟨p1, ⟨2, by omega, rfl⟩, fun e => absurd e (by decide), fun _ => ⟨p2, a4, fun t ht => by rw [p3 t ht, q1' t ht]⟩, fun e => absurd e (by decide)⟩
    · refine SL1_o (sl_1 h hj) (fun d a b => by rw [rc d (by omega) (by omega) (by omega) (by omega), p4 d (by omega) (by omega) (by omega)]) (by rw [u8, ua_n c]) (by rw [u9, ua_n c]) (by rw [u0, ua_n c]) (fun t ht => by rw [q2 _ (by omega), up_d (by omega), up_d (by omega), up_d (by omega), p4 _ (by omega) (by omega) (by omega)])
theorem call_lay (h : InvR σ σ) (x y z : Int32) : Call σ (s_X10_lay σ x y z) (fun τ => s_X11_lay τ x y z) := by
  have n8 := h.w.n8
  by_cases c : win x 0 4
  · obtain ⟨k, hk, rfl⟩ := win_n (n := 4) (by omega) rfl c
    by_cases c2 : win y 0 3
    · obtain ⟨t, ht, rfl⟩ := win_n (n := 3) (by omega) rfl c2
      have : t = 0 ∨ t = 1 ∨ t = 2 ∨ t = 3 := by omega
      rcases this with rfl | rfl | rfl | rfl
      · refine lay_n h (k := k) (by omega) 0 z (.inl rfl) ?_ (fun τ _ _ => ?_)
        · unfold s_X10_lay s_X10_lay_41 s_X10_lay_56
          rw [isSl_e, wI_1 c, bn_some, if_neg n10, within_e, wI_1 c2, bn_some, if_neg n10, if_neg (by decide), if_neg (by decide), if_neg (by decide)]
          rfl
        · show s_X11_lay τ (nI k) 0 z = _
          unfold s_X11_lay s_X11_lay_39
          rw [if_pos rfl, isSlm_e, wI_1 c, bn_some, if_neg n10, if_neg n10, if_neg (by decide)]
      · have hC : s_X10_lay σ (nI k) 1 z = (if inb z (nB (σ 151)) = true then s_X10_lay_78 σ (nI k) 1 z else some (-1000000001, σ)) := by
          unfold s_X10_lay s_X10_lay_41 s_X10_lay_56
          have c2' : win (1 : Int32) 0 3 := c2
          rw [isSl_e, wI_1 c, bn_some, if_neg n10, within_e, wI_1 c2', bn_some, if_neg n10, if_pos rfl, has_c h.w h.f.1.n, bn_some]
          by_cases q : inb z (nB (σ 151)) = true
          · rw [if_pos q, if_pos q, if_neg n10, if_neg (by decide), if_neg (by decide)]
          · rw [if_neg q, if_neg q, if_pos rfl]
        have hM : ∀ τ : Sg, τ 151 = σ 151 → s_X11_lay τ (nI k) 1 z = (if inb z (nB (σ 151)) = true then s_X11_lay_74 τ (nI k) 1 z else some (-1000000001, τ)) := by
          intro τ hA
          unfold s_X11_lay s_X11_lay_22 s_X11_lay_39
          rw [if_neg (by decide), if_neg (by decide), if_pos rfl, isBlk_e h.w hA, bn_some]
          by_cases q : inb z (nB (σ 151)) = true
          · rw [if_pos q, if_pos q, if_neg n10, isSlm_e, wI_1 c, bn_some, if_neg n10, if_neg n10, if_neg (by decide)]
          · rw [if_neg q, if_neg q, if_pos rfl, if_neg (by decide), isSlm_e, wI_1 c, bn_some, if_neg n10, if_pos rfl]
        show Call σ (s_X10_lay σ (nI k) 1 z) (fun τ => s_X11_lay τ (nI k) 1 z)
        by_cases q : inb z (nB (σ 151)) = true
        · obtain ⟨i, hi, rfl⟩ := inb_of q (by omega)
          rw [if_pos q] at hC
          refine lay_b h (k := k) (by omega) hi hC (fun τ _ hA => ?_)
          rw [hM τ hA, if_pos q]
        · rw [if_neg q] at hC
          refine call_q h (-1000000001) (bad_c _ _ hC) (fun τ g => bad_m _ _ ?_)
          rw [hM τ (g.m (by omega)), if_neg q]
      · show Call σ (s_X10_lay σ (nI k) 2 z) (fun τ => s_X11_lay τ (nI k) 2 z)
        have c2' : win (2 : Int32) 0 3 := c2
        by_cases q : win z 0 3
        · obtain ⟨l, hl, rfl⟩ := win_n (n := 3) (by omega) rfl q
          obtain ⟨s1, s2, s3⟩ := sh_l l (by omega)
          obtain ⟨a0, a1, a2, a3, a4⟩ := h.2.2.2.2.2.1 l (by omega)
          have hC : s_X10_lay σ (nI k) 2 (nI l) = (if σ (120 + 2 * l) 0 = -1 then some (-1000000011, σ) else s_X10_lay_78 σ (nI k) 2 (nI l)) := by
            unfold s_X10_lay s_X10_lay_41 s_X10_lay_56
            rw [isSl_e, wI_1 c, bn_some, if_neg n10, within_e, wI_1 c2', bn_some, if_neg n10, if_neg (by decide), if_pos rfl, isSh_e, wI_1 q, bn_some, if_neg n10, if_pos rfl, if_pos (inb_nI (by omega) (by omega)), cl_nI (by omega), s1]
          have hM : ∀ τ : Sg, s_X11_lay τ (nI k) 2 (nI l) = (if 0 ≤ τ 155 l then s_X11_lay_74 τ (nI k) 2 (nI l) else some (-1000000011, τ)) := by
            intro τ
            unfold s_X11_lay s_X11_lay_22 s_X11_lay_39
            rw [if_neg (by decide), if_neg (by decide), if_neg (by decide), if_pos rfl, isShm_e, wI_1 q, bn_some, if_neg n10, isSlm_e, wI_1 c, bn_some, if_neg n10, if_neg n10, if_pos rfl, if_pos (inb_nI (by omega) (by omega)), cl_nI (by omega)]
          rcases ty_n a3 with ⟨t1, t2, t3⟩ | ⟨t1, t2, t3⟩
          · rw [a0, if_pos t1] at hC
            refine call_q h (-1000000011) (bad_c _ _ hC) (fun τ g => bad_m _ _ ?_)
            rw [hM, g.m (by omega), if_neg t3]
          · rw [a0, if_neg t1] at hC
            refine lay_s h (k := k) (by omega) (show l < 4 by omega) hC (fun τ h5 _ => ?_)
            rw [hM, h5, if_pos t3]
        · refine call_q h (-1000000001) (bad_c _ _ ?_) (fun τ g => bad_m _ _ ?_)
          · unfold s_X10_lay s_X10_lay_41
            rw [isSl_e, wI_1 c, bn_some, if_neg n10, within_e, wI_1 c2', bn_some, if_neg n10, if_neg (by decide), if_pos rfl, isSh_e, wI_0 q, bn_some, if_pos rfl]
          · unfold s_X11_lay s_X11_lay_22 s_X11_lay_39
            rw [if_neg (by decide), if_neg (by decide), if_neg (by decide), if_pos rfl, isShm_e, wI_0 q, bn_some, if_pos rfl, isSlm_e, wI_1 c, bn_some, if_neg n10, if_pos rfl]
      · refine lay_n h (k := k) (by omega) 3 z (.inr rfl) ?_ (fun τ _ _ => ?_)
        · unfold s_X10_lay s_X10_lay_41 s_X10_lay_56
          rw [isSl_e, wI_1 c, bn_some, if_neg n10, within_e, wI_1 c2, bn_some, if_neg n10, if_neg (by decide), if_neg (by decide), if_neg (by decide)]
          rfl
        · show s_X11_lay τ (nI k) 3 z = _
          unfold s_X11_lay s_X11_lay_39
          rw [if_neg (by decide), if_pos rfl, isSlm_e, wI_1 c, bn_some, if_neg n10, if_neg n10, if_neg (by decide)]
    · have m0 : ¬ y = 0 := fun e => c2 (by subst e; exact ⟨by decide, by decide⟩)
      have m1 : ¬ y = 1 := fun e => c2 (by subst e; exact ⟨by decide, by decide⟩)
      have m2 : ¬ y = 2 := fun e => c2 (by subst e; exact ⟨by decide, by decide⟩)
      have m3 : ¬ y = 3 := fun e => c2 (by subst e; exact ⟨by decide, by decide⟩)
      refine call_q h (-1000000001) (bad_c _ _ ?_) (fun τ g => bad_m _ _ ?_)
      · unfold s_X10_lay
        rw [isSl_e, wI_1 c, bn_some, if_neg n10, within_e, wI_0 c2, bn_some, if_pos rfl]
      · unfold s_X11_lay s_X11_lay_22 s_X11_lay_39
        rw [if_neg m0, if_neg m3, if_neg m1, if_neg m2, isSlm_e, wI_1 c, bn_some, if_neg n10, if_pos rfl]
  · refine call_q h (-1000000001) (bad_c _ _ ?_) (fun τ g => bad_m _ _ ?_)
    · unfold s_X10_lay
      rw [isSl_e, wI_0 c, bn_some, if_pos rfl]
    · have h39 : ∀ t, s_X11_lay_39 τ x y z t = some (-1000000001, τ) := by
        intro t
        unfold s_X11_lay_39
        rw [isSlm_e, wI_0 c, bn_some, if_pos rfl]
      unfold s_X11_lay s_X11_lay_22
      simp only [isBlk_e h.w (g.m (show 150 ≤ 151 by omega)), isShm_e, bn_some, h39, ite_self]
end ly
