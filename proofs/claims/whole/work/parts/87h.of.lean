section q4
variable {σ : Sg}
theorem vals (h : InvR σ σ) : ∃ g : Nat → Int32, ∀ t, t < nT (σ 151) → (∃ key c L, TXok key L ∧ TXm (σ 151) t key c L ∧ TXc σ (25 + 2 * t) key c L ∧ g t = givA (σ 151) key L) ∧ (∀ τ, FE σ τ → Gv (s_X9_valueOn τ (25 + 2 * t) 2 118) (fun r ρ => r = g t ∧ FE σ ρ)) ∧ (∀ τ, τ 151 = σ 151 → Gv (s_X11_givenBy τ (nI t)) (fun r ρ => r = g t ∧ FS τ ρ)) := by
  have hw := h.w
  have hF := h.f
  have t10 := h.1.2.1.2
  have hT : RT σ 25 (σ 151) := h.2.1.2.2.1
  refine Classical.axiomOfChoice (r := fun t v => t < nT (σ 151) → (∃ key c L, TXok key L ∧ TXm (σ 151) t key c L ∧ TXc σ (25 + 2 * t) key c L ∧ v = givA (σ 151) key L) ∧ (∀ τ, FE σ τ → Gv (s_X9_valueOn τ (25 + 2 * t) 2 118) (fun r ρ => r = v ∧ FE σ ρ)) ∧ (∀ τ, τ 151 = σ 151 → Gv (s_X11_givenBy τ (nI t)) (fun r ρ => r = v ∧ FS τ ρ))) ?_
  intro t
  by_cases ht : t < nT (σ 151)
  · obtain ⟨key, c, L, k1, k2, k3⟩ := hT t ht
    refine ⟨givA (σ 151) key L, fun _ => ⟨⟨key, c, L, k1, k2, k3, rfl⟩, fun τ f => ?_, fun τ hA => m_given hw hA (by omega) k2 k1⟩⟩
    have wc := wc_l t (by omega)
    refine gv_w (x9_value hw (RF_e hw.n8 hF f) (TXc_c k3 (f _ (by omega) (by omega)) (f _ (by omega) (by omega))) k1 wc.1 wc.2 ⟨by omega, by omega, by omega, by omega⟩) ?_
    intro r ρ ⟨a, b⟩
    exact ⟨a, f.t b⟩
  · exact ⟨0, fun x => absurd x ht⟩
theorem call_of (h : InvR σ σ) (x y : Int32) : Call σ (s_X10_of σ x y) (fun τ => s_X11_of τ x y) := by
  have hT := h.1.2.1
  have t10 := hT.2
  have h12 : σ 1 2 = nI (nT (σ 151)) := by rw [h.2.1.2.1]; exact hT.1
  have e1 : wI x 0 (σ 1 2 - 1) = if inb x (nT (σ 151)) = true then 1 else 0 := by
    rw [h12]; exact has_w x (by omega)
  have e2 : ∀ τ : Sg, τ 151 = σ 151 → s_X11_isText τ x = some (if inb x (nT (σ 151)) = true then 1 else 0, τ) := fun τ hA => by
    unfold s_X11_isText
    rw [isIn_0y, hA, hT.1, has_w x (by omega), bn_some]
    simp only [ite01, ↓reduceIte]
  by_cases c : inb x (nT (σ 151)) = true
  · rw [if_pos c] at e1
    obtain ⟨t, ht, rfl⟩ := inb_of c (by omega)
    by_cases c2 : win y 0 3
    · obtain ⟨k, hk, rfl⟩ := win_n (n := 3) (by omega) rfl c2
      obtain ⟨g, hg⟩ := vals h
      obtain ⟨⟨key, cc, L, k1, k2, k3, _⟩, g1, g2⟩ := hg t ht
      refine call_q h (if k = 0 then nI key else if k = 1 then nI cc else if k = 2 then (if g t = 0 then 0 else 1) else g t) ?_ (fun τ q => ?_)
      · unfold s_X10_of
        simp (disch := omega) only [within_e, e1, bn_some, n10, ↓reduceIte, wI_1 c2, inb_n, cl_nI, wr_l t (by omega), lt_e]
        have : k = 0 ∨ k = 1 ∨ k = 2 ∨ k = 3 := by omega
        rcases this with rfl | rfl | rfl | rfl
        · simp +decide only [tI0, ↓reduceIte]
          exact gv_i ⟨k3.1, CQ.r σ⟩
        · simp +decide only [tI1, ↓reduceIte]
          exact gv_i ⟨k3.2.1, CQ.r σ⟩
        · simp +decide only [tI2, ↓reduceIte]
          refine gv_n (g1 σ (fun _ _ _ => rfl)) ?_
          intro r ρ ⟨a, b⟩
          rw [a]
          by_cases z : g t = 0
          · rw [if_pos z, if_pos z]; exact gv_i ⟨rfl, CQ_e b⟩
          · rw [if_neg z, if_neg z]; exact gv_i ⟨rfl, CQ_e b⟩
        · simp +decide only [tI3, ↓reduceIte]
          exact gv_n (g1 σ (fun _ _ _ => rfl)) (fun r ρ a => gv_i ⟨a.1, CQ_e a.2⟩)
      · have hA : τ 151 = σ 151 := q.m (by omega)
        unfold s_X11_of s_X11_textAt
        simp only [e2 τ hA, c, bn_some, n10, ↓reduceIte, isIn_0_3, wI_1 c2]
        refine gv_n (g2 τ hA) ?_
        intro r ρ ⟨a, f⟩
        have rA : ρ 151 = σ 151 := f.s.trans hA
        rw [a]
        have : k = 0 ∨ k = 1 ∨ k = 2 ∨ k = 3 := by omega
        rcases this with rfl | rfl | rfl | rfl
        · simp +decide (disch := omega) only [↓reduceIte, NK, nI_add, inb_n, cl_nI, rA]
          exact gv_i ⟨k2.1, f⟩
        · simp +decide (disch := omega) only [↓reduceIte, NK, nI_add, inb_n, cl_nI, rA]
          exact gv_i ⟨k2.2.1, f⟩
        · simp +decide only [↓reduceIte]
          by_cases z : g t = 0
          · rw [if_pos z, if_pos z]; exact gv_i ⟨rfl, f⟩
          · rw [if_neg z, if_neg z]; exact gv_i ⟨rfl, f⟩
        · simp +decide only [↓reduceIte]
          exact gv_i ⟨rfl, f⟩
    · refine call_q h (-1000000001) (bad_c _ _ ?_) (fun τ q => bad_m _ _ ?_)
      · unfold s_X10_of
        simp only [within_e, e1, bn_some, n10, ↓reduceIte, wI_0 c2]
      · unfold s_X11_of
        simp only [e2 τ (q.m (by omega)), c, bn_some, n10, ↓reduceIte, isIn_0_3, wI_0 c2]
  · rw [if_neg c] at e1
    refine call_q h (-1000000001) (bad_c _ _ ?_) (fun τ q => bad_m _ _ ?_)
    · unfold s_X10_of
      simp only [within_e, e1, bn_some, ↓reduceIte]
    · unfold s_X11_of
      simp only [e2 τ (q.m (by omega)), c, bn_some, ↓reduceIte, Bool.false_eq_true]
def msR (g : Nat → Int32) : Nat → Nat → Int32
  | _, 0 => -1000000005
  | i, d + 1 => if g i = 0 then nI i else msR g (i + 1) d
theorem call_missed (h : InvR σ σ) : Call σ (s_X10_missed σ) (fun τ => s_X11_missed τ) := by
  have hT := h.1.2.1
  have t10 := hT.2
  have h12 : σ 1 2 = nI (nT (σ 151)) := by rw [h.2.1.2.1]; exact hT.1
  obtain ⟨g, hg⟩ := vals h
  refine call_q h (msR g 0 (nT (σ 151))) ?_ (fun τ q => ?_)
  · have key : ∀ d i m τ, i + d = nT (σ 151) → d < m → FE σ τ → Gv (s_X10_missed_2 m τ (nI i)) (fun r ρ => r = msR g i d ∧ CQ σ ρ) := by
      intro d
      induction d with
      | zero =>
        intro i m τ hi hm f
        obtain ⟨m', rfl⟩ : ∃ m', m = m' + 1 := ⟨m - 1, by omega⟩
        have e : τ 1 2 = nI (nT (σ 151)) := by rw [f 1 (by omega) (by omega)]; exact h12
        simp only [s_X10_missed_2]
        simp (disch := omega) only [e, le_T, ↓reduceIte]
        exact gv_i ⟨rfl, CQ_e f⟩
      | succ d ih =>
        intro i m τ hi hm f
        obtain ⟨m', rfl⟩ : ∃ m', m = m' + 1 := ⟨m - 1, by omega⟩
        have e : τ 1 2 = nI (nT (σ 151)) := by rw [f 1 (by omega) (by omega)]; exact h12
        simp only [s_X10_missed_2]
        simp (disch := omega) only [e, le_F, ↓reduceIte, inb_n, cl_nI, wr_l i (by omega), nI_1]
        refine gv_n ((hg i (by omega)).2.1 τ f) ?_
        intro r ρ ⟨a, b⟩
        rw [a]
        unfold msR
        by_cases z : g i = 0
        · rw [if_pos z, if_pos z]; exact gv_i ⟨rfl, CQ_e b⟩
        · rw [if_neg z, if_neg z]; exact ih (i + 1) m' ρ (by omega) (by omega) b
    exact key (nT (σ 151)) 0 FU σ (by omega) (by show _ < 4096; omega) (fun _ _ _ => rfl)
  · have key : ∀ d i m ρ, i + d = nT (σ 151) → d < m → FS τ ρ → Gv (s_X11_missed_2 m ρ (nI i)) (fun r κ => r = msR g i d ∧ FS τ κ) := by
      intro d
      induction d with
      | zero =>
        intro i m ρ hi hm f
        obtain ⟨m', rfl⟩ : ∃ m', m = m' + 1 := ⟨m - 1, by omega⟩
        have e : ρ 151 2 = nI (nT (σ 151)) := by rw [f.s, q.m (by omega)]; exact hT.1
        simp only [s_X11_missed_2]
        simp (disch := omega) only [e, le_T, ↓reduceIte]
        exact gv_i ⟨rfl, f⟩
      | succ d ih =>
        intro i m ρ hi hm f
        obtain ⟨m', rfl⟩ : ∃ m', m = m' + 1 := ⟨m - 1, by omega⟩
        have e : ρ 151 2 = nI (nT (σ 151)) := by rw [f.s, q.m (by omega)]; exact hT.1
        simp only [s_X11_missed_2]
        simp (disch := omega) only [e, le_F, ↓reduceIte, nI_1]
        refine gv_n ((hg i (by omega)).2.2 ρ (by rw [f.s, q.m (by omega)])) ?_
        intro r κ ⟨a, b⟩
        rw [a]
        unfold msR
        by_cases z : g i = 0
        · rw [if_pos z, if_pos z]; exact gv_i ⟨rfl, f.t b⟩
        · rw [if_neg z, if_neg z]; exact ih (i + 1) m' κ (by omega) (by omega) (f.t b)
    exact key (nT (σ 151)) 0 FU τ (by omega) (by show _ < 4096; omega) (FS.r τ)
def mtR (g : Nat → Int32) (n : Nat) : Int32 := itr (fun i v => if g i = 0 then v else v + 1) n 0 0
theorem mtR_s (g : Nat → Int32) (n : Nat) : mtR g (n + 1) = if g n = 0 then mtR g n else mtR g n + 1 := itr_0 _ _ _
theorem x10_met (h : InvR σ σ) {g : Nat → Int32} (hg : ∀ t, t < nT (σ 151) → ∀ τ, FE σ τ → Gv (s_X9_valueOn τ (25 + 2 * t) 2 118) (fun r ρ => r = g t ∧ FE σ ρ)) : Gv (s_X10_metWishes σ) (fun r ρ => r = mtR g (nT (σ 151)) ∧ CQ σ ρ) := by
  have hT := h.1.2.1
  have t10 := hT.2
  have h12 : σ 1 2 = nI (nT (σ 151)) := by rw [h.2.1.2.1]; exact hT.1
  unfold s_X10_metWishes
  refine gv_loop0 (fun m i (a : Int32 × Sg) => s_X10_metWishes_4 m a.2 a.1 (nI i)) (nT (σ 151)) (fun i a => a.1 = mtR g i ∧ FE σ a.2) (a := (0, σ)) (by omega) ⟨rfl, fun _ _ _ => rfl⟩ ?_ ?_
  · intro m i ⟨v, τ⟩ hi ⟨r1, r2⟩
    have r1 : v = mtR g i := r1
    have r2 : FE σ τ := r2
    have e : τ 1 2 = nI (nT (σ 151)) := by rw [r2 1 (by omega) (by omega)]; exact h12
    obtain ⟨r, ρ, ev, a, b⟩ := hg i hi τ r2
    subst a
    refine ⟨(mtR g (i + 1), ρ), ?_, rfl, b⟩
    show s_X10_metWishes_4 (m + 1) τ v (nI i) = s_X10_metWishes_4 m ρ (mtR g (i + 1)) (nI (i + 1))
    simp only [s_X10_metWishes_4]
    simp (disch := omega) only [e, le_F, ↓reduceIte, inb_n, cl_nI, wr_l i (by omega), ev, bn_some, nI_1]
    rw [mtR_s, r1]
    split <;> rfl
  · intro m ⟨v, τ⟩ ⟨r1, r2⟩
    have r2' : FE σ τ := r2
    have e : τ 1 2 = nI (nT (σ 151)) := by rw [r2' 1 (by omega) (by omega)]; exact h12
    show Gv (s_X10_metWishes_4 (m + 1) τ v (nI (nT (σ 151)))) _
    simp only [s_X10_metWishes_4]
    simp (disch := omega) only [e, le_T, ↓reduceIte]
    exact gv_i ⟨r1, CQ_e r2'⟩
theorem m_met (h : InvR σ σ) {τ : Sg} (hA : τ 151 = σ 151) {g : Nat → Int32} (hg : ∀ t, t < nT (σ 151) → ∀ τ, τ 151 = σ 151 → Gv (s_X11_givenBy τ (nI t)) (fun r ρ => r = g t ∧ FS τ ρ)) : Gv (s_X11_count_79 FU τ 0 0) (fun r ρ => r = mtR g (nT (σ 151)) ∧ FS τ ρ) := by
  have hT := h.1.2.1
  have t10 := hT.2
  refine gv_loop0 (fun m i (a : Int32 × Sg) => s_X11_count_79 m a.2 a.1 (nI i)) (nT (σ 151)) (fun i a => a.1 = mtR g i ∧ FS τ a.2) (a := (0, τ)) (by omega) ⟨rfl, FS.r τ⟩ ?_ ?_
  · intro m i ⟨v, κ⟩ hi ⟨r1, r2⟩
    have r1 : v = mtR g i := r1
    have r2 : FS τ κ := r2
    have kA : κ 151 = σ 151 := r2.s.trans hA
    have e : κ 151 2 = nI (nT (σ 151)) := by rw [kA]; exact hT.1
    obtain ⟨r, ρ, ev, a, b⟩ := hg i hi κ kA
    subst a
    refine ⟨(mtR g (i + 1), ρ), ?_, rfl, r2.t b⟩
    show s_X11_count_79 (m + 1) κ v (nI i) = s_X11_count_79 m ρ (mtR g (i + 1)) (nI (i + 1))
    simp only [s_X11_count_79]
    simp (disch := omega) only [e, le_F, ↓reduceIte, ev, bn_some, nI_1, lt_e, Int32.add_zero]
    rw [mtR_s, r1]
    split <;> rfl
  · intro m ⟨v, κ⟩ ⟨r1, r2⟩
    have r2' : FS τ κ := r2
    have e : κ 151 2 = nI (nT (σ 151)) := by rw [r2'.s, hA]; exact hT.1
    show Gv (s_X11_count_79 (m + 1) κ v (nI (nT (σ 151)))) _
    simp only [s_X11_count_79]
    simp (disch := omega) only [e, le_T, ↓reduceIte]
    exact gv_i ⟨r1, r2'⟩
theorem call_count (h : InvR σ σ) (x : Int32) : Call σ (s_X10_count σ x) (fun τ => s_X11_count τ x) := by
  have hw := h.w
  have hF := h.f
  obtain ⟨g, hg⟩ := vals h
  obtain ⟨E, _, tc, tm, _⟩ := h.2.2.2.1
  obtain ⟨len, _, p1, p2, _⟩ := h.2.2.2.2.1
  obtain ⟨wl, _, w1, w2, _⟩ := h.2.2.2.2.2.2.2.1
  have hR : RK σ 21 (σ 151) := h.2.1.2.2.2
  have h12 : σ 1 2 = σ 151 2 := h.2.1.2.1
  have a0 : σ 2 1 = σ 151 0 := hF.1.n
  have a1 : σ 2 10 = σ 151 1 := hF.1.nets
  have a9 : σ 2 11 = σ 151 4 := hF.1.z
  refine call_q h (if x.toInt = 0 then σ 151 0 else if x.toInt = 1 then σ 151 1 else if x.toInt = 2 then σ 151 2 else if x.toInt = 3 then mtR g (nT (σ 151)) else if x.toInt = 4 then σ 151 3 else if x.toInt = 5 then nI E.length else if x.toInt = 6 then abvA (σ 151) else if x.toInt = 7 then nI wl else if x.toInt = 8 then nI len else if x.toInt = 9 then σ 151 4 else -1000000001) ?_ (fun τ q => ?_)
  · have pl : ∀ v : Int32, Gv (some (v, σ)) (fun r ρ => r = v ∧ CQ σ ρ) := fun v => gv_i ⟨rfl, CQ.r σ⟩
    unfold s_X10_count
    rw [a0, a1, a9, h12, hR.1, tc.1, p1, w1, x1_above fl2 hw hF]
    by_cases c3 : x.toInt = 3
    · simp +decide only [c3, ↓reduceIte]
      exact gv_n (x10_met h (fun t ht => (hg t ht).2.1)) (fun r ρ a => gv_i a)
    · simp only [c3, ↓reduceIte, bn_some]
      repeat' split
      all_goals exact pl _
  · have hA : τ 151 = σ 151 := q.m (by omega)
    have h150 : τ 150 = σ 150 := q.m (by omega)
    have pl : ∀ v : Int32, Gv (some (v, τ)) (fun r ρ => r = v ∧ FS τ ρ) := fun v => gv_i ⟨rfl, FS.r τ⟩
    unfold s_X11_count
    rw [hA, h150, tm.1, p2, w2, m_above hw hA]
    by_cases c3 : x.toInt = 3
    · simp +decide only [c3, ↓reduceIte]
      exact m_met h hA (fun t ht => (hg t ht).2.2)
    · simp only [c3, ↓reduceIte, bn_some]
      repeat' split
      all_goals exact pl _
/- slots -/
theorem sl_l : ∀ k, k < 5 → rt 128 k = 129 + 4 * k ∧ rt (129 + 4 * k) 1 = 130 + 4 * k ∧ rt (129 + 4 * k) 2 = 131 + 4 * k ∧ rt (131 + 4 * k) 2 = 132 + 4 * k ∧ aln 0 (132 + 4 * k) = 24 := by decide
theorem find_e {c : Nat} {v t : Int32} (h : σ c 0 = v) : s_X6_findingFor σ c t = some (if v = 0 then -1000000011 else if v = t then 0 else -1000000012, σ) := by
  unfold s_X6_findingFor
  rw [h]
  split
  · rfl
  · split <;> rfl
theorem run1_e {c z : Nat} (hz : z ≤ 24) (h : σ c 1 = nI z) (x : Int32) : s_X5_hasRun σ c x 1 = some (if inb x z = true then 1 else 0, σ) := by
  unfold s_X5_hasRun
  rw [h]
  rcases pk_ix x (n := z) (by omega) with c | c | ⟨j, hj, rfl⟩
  · rw [if_pos c, if_neg]
    intro d
    obtain ⟨j, hj, rfl⟩ := inb_of d (by omega)
    exact absurd c (nI_pos (by omega))
  · have h0 : ¬ x < 0 := by
      intro d
      have := Int32.lt_of_le_of_lt c d
      exact absurd this (nI_pos (by omega))
    rw [if_neg h0, if_neg (by decide)]
    have nb : ¬ inb x z = true := by
      intro d
      obtain ⟨j, hj, rfl⟩ := inb_of d (by omega)
      exact absurd c (nI_ge hj (by omega))
    rw [if_neg nb]
    by_cases z0 : z = 0
    · subst z0; rw [if_pos (by decide)]
    · have c1 : ¬ nI z < 1 := nI_nlt (a := z) (b := 1) (by omega) (by omega)
      rw [if_neg c1, predI (by omega), if_pos (Int32.lt_of_lt_of_le (nI_lt (by omega) (by omega)) c)]
  · have c1 : ¬ nI z < 1 := nI_nlt (a := z) (b := 1) (by omega) (by omega)
    rw [if_neg (nI_pos (by omega)), if_neg (by decide), if_neg c1, predI (by omega), if_neg (nI_nlt (by omega) (by omega)), if_pos (inb_nI hj (by omega))]
theorem v3_c {v : Int32} (h : sm 3 v) : v = 0 ∨ v = 1 ∨ v = 2 ∨ v = 3 := by
  obtain ⟨t, ht, rfl⟩ := h
  have : t = 0 ∨ t = 1 ∨ t = 2 ∨ t = 3 := by omega
  rcases this with rfl | rfl | rfl | rfl
  · exact .inl rfl
  · exact .inr (.inl rfl)
  · exact .inr (.inr (.inl rfl))
  · exact .inr (.inr (.inr rfl))
theorem call_ask (h : InvR σ σ) (x y : Int32) : Call σ (s_X10_ask σ x y) (fun τ => s_X11_ask τ x y) := by
  by_cases c : win x 0 4
  · obtain ⟨k, hk, rfl⟩ := win_n (n := 4) (by omega) rfl c
    by_cases c2 : win y 0 5
    · obtain ⟨s0, s3, sb, _, _⟩ := h.2.2.2.2.2.2.1 k (by omega)
      obtain ⟨r1, r2, r3, r4, r5⟩ := sl_l k (by omega)
      have i5 : inb (nI k) 5 = true := inb_nI (by omega) (by omega)
      by_cases v1 : σ 158 k = 1
      · obtain ⟨br, va⟩ := sb v1
        obtain ⟨kk, hkk, ekk⟩ := kd_n va
        have e0 : σ (130 + 4 * k) 0 = nI kk := by rw [← ekk]; exact br.1 0 (by omega)
        refine call_q h (if ofI (nI kk) y = 0 then -1000000012 else woI (σ 161 (24 * k)) (σ 161 (24 * k + 1)) (σ 161 (24 * k + 2)) (σ 161 (24 * k + 3)) (σ 161 (24 * k + 5))) (bad_c _ _ ?_) (fun τ q => bad_m _ _ ?_)
        · unfold s_X10_ask
          simp +decide (disch := omega) only [isSl_e, wI_1 c, bn_some, n10, ↓reduceIte, isKind_e, wI_1 c2, i5, cl_nI, r1, find_e s0, v1, r2, lt_e, iu h.2.2.2.2.2.2.2.2.1 hkk e0 y, x0_worth _ _ _ _ br]
          split <;> rfl
        · have h158 : τ 158 = σ 158 := q.m (by omega)
          have h161 : τ 161 = σ 161 := q.m (by omega)
          unfold s_X11_ask
          simp +decide (disch := omega) only [isSlm_e, wI_1 c, bn_some, n10, ↓reduceIte, isIn_0_5, wI_1 c2, i5, cl_nI, h158, v1, NK, inb_n, h161, isOf_e, ekk, lt_e]
          have va' : VB (nI kk) (σ 161 (24 * k + 1)) (σ 161 (24 * k + 2)) (σ 161 (24 * k + 5)) := by rw [← ekk]; exact va
          rw [worthOf_e τ _ va', bn_some]
          split <;> rfl
      · refine call_q h (if σ 158 k = 0 then -1000000011 else -1000000012) (bad_c _ _ ?_) (fun τ q => bad_m _ _ ?_)
        · unfold s_X10_ask
          simp (disch := omega) only [isSl_e, wI_1 c, bn_some, n10, ↓reduceIte, isKind_e, wI_1 c2, i5, cl_nI, r1, find_e s0, v1]
          by_cases z : σ 158 k = 0
          · simp only [z, ↓reduceIte]; rfl
          · simp only [z, ↓reduceIte]; rfl
        · have h158 : τ 158 = σ 158 := q.m (by omega)
          unfold s_X11_ask
          by_cases z : σ 158 k = 0
          · rw [isSlm_e, wI_1 c, bn_some, if_neg n10, isIn_0_5, wI_1 c2, bn_some, if_neg n10, if_pos i5, cl_nI (by omega), h158, if_pos z, if_pos z]
          · rw [isSlm_e, wI_1 c, bn_some, if_neg n10, isIn_0_5, wI_1 c2, bn_some, if_neg n10, if_pos i5, cl_nI (by omega), h158, if_neg z, if_neg z, lt_e, if_pos i5, if_neg v1]
    · refine call_q h (-1000000001) (bad_c _ _ ?_) (fun τ q => bad_m _ _ ?_)
      · unfold s_X10_ask
        simp only [isSl_e, wI_1 c, bn_some, n10, ↓reduceIte, isKind_e, wI_0 c2]
      · unfold s_X11_ask
        simp only [isSlm_e, wI_1 c, bn_some, n10, ↓reduceIte, isIn_0_5, wI_0 c2]
  · refine call_q h (-1000000001) (bad_c _ _ ?_) (fun τ q => bad_m _ _ ?_)
    · unfold s_X10_ask
      simp only [isSl_e, wI_0 c, bn_some, ↓reduceIte]
    · unfold s_X11_ask
      simp only [isSlm_e, wI_0 c, bn_some, ↓reduceIte]
theorem call_item (h : InvR σ σ) (x y : Int32) : Call σ (s_X10_item σ x y) (fun τ => s_X11_item τ x y) := by
  by_cases c : win x 0 4
  · obtain ⟨k, hk, rfl⟩ := win_n (n := 4) (by omega) rfl c
    obtain ⟨s0, s3, _, sb, _⟩ := h.2.2.2.2.2.2.1 k (by omega)
    obtain ⟨r1, r2, r3, r4, r5⟩ := sl_l k (by omega)
    have i5 : inb (nI k) 5 = true := inb_nI (by omega) (by omega)
    by_cases v1 : σ 158 k = 2
    · obtain ⟨b1, ⟨z, hz, ez⟩, b3⟩ := sb v1
      have e1 : σ (131 + 4 * k) 1 = nI z := by rw [b1, ez]
      by_cases cb : inb y z = true
      · obtain ⟨j, hj, rfl⟩ := inb_of cb (by omega)
        refine call_q h (σ 161 (24 * k + j)) (bad_c _ _ ?_) (fun τ q => bad_m _ _ ?_)
        · unfold s_X10_item
          simp +decide (disch := omega) only [isSl_e, wI_1 c, bn_some, n10, ↓reduceIte, i5, cl_nI, r1, find_e s0, v1, r3, r4, r5, lt_e, run1_e hz e1, cb, inb_n, b3 j (by omega)]
        · have h158 : τ 158 = σ 158 := q.m (by omega)
          have h160 : τ 160 = σ 160 := q.m (by omega)
          have h161 : τ 161 = σ 161 := q.m (by omega)
          unfold s_X11_item
          simp (disch := omega) only [isSlm_e, wI_1 c, bn_some, n10, ↓reduceIte, i5, cl_nI, h158, v1, h160, ez, isIn_0y, has_w (nI j) (show z < 1000 by omega), cb, NK, nI_add, inb_n, h161]
      · refine call_q h (-1000000013) (bad_c _ _ ?_) (fun τ q => bad_m _ _ ?_)
        · unfold s_X10_item
          simp +decide (disch := omega) only [isSl_e, wI_1 c, bn_some, n10, ↓reduceIte, i5, cl_nI, r1, find_e s0, v1, r3, r4, r5, lt_e, run1_e hz e1, cb, Bool.false_eq_true]
        · have h158 : τ 158 = σ 158 := q.m (by omega)
          have h160 : τ 160 = σ 160 := q.m (by omega)
          unfold s_X11_item
          simp (disch := omega) only [isSlm_e, wI_1 c, bn_some, n10, ↓reduceIte, i5, cl_nI, h158, v1, h160, ez, isIn_0y, has_w y (show z < 1000 by omega), cb, Bool.false_eq_true]
    · refine call_q h (if σ 158 k = 0 then -1000000011 else -1000000012) (bad_c _ _ ?_) (fun τ q => bad_m _ _ ?_)
      · unfold s_X10_item
        simp (disch := omega) only [isSl_e, wI_1 c, bn_some, n10, ↓reduceIte, i5, cl_nI, r1, find_e s0, v1]
        by_cases z : σ 158 k = 0
        · simp only [z, ↓reduceIte]; rfl
        · simp only [z, ↓reduceIte]; rfl
      · have h158 : τ 158 = σ 158 := q.m (by omega)
        unfold s_X11_item
        simp (disch := omega) only [isSlm_e, wI_1 c, bn_some, n10, ↓reduceIte, i5, cl_nI, h158, v1]
        split <;> rfl
  · refine call_q h (-1000000001) (bad_c _ _ ?_) (fun τ q => bad_m _ _ ?_)
    · unfold s_X10_item
      simp only [isSl_e, wI_0 c, bn_some, ↓reduceIte]
    · unfold s_X11_item
      simp only [isSlm_e, wI_0 c, bn_some, ↓reduceIte]
theorem call_rest (h : InvR σ σ) (x y : Int32) : Call σ (s_X10_rest σ x y) (fun τ => s_X11_rest τ x y) := by
  by_cases c : win x 0 4
  · obtain ⟨k, hk, rfl⟩ := win_n (n := 4) (by omega) rfl c
    obtain ⟨s0, s3, _, _, sb⟩ := h.2.2.2.2.2.2.1 k (by omega)
    obtain ⟨r1, r2, r3, r4, r5⟩ := sl_l k (by omega)
    have i5 : inb (nI k) 5 = true := inb_nI (by omega) (by omega)
    by_cases v1 : σ 158 k = 3
    · have b1 := sb v1
      refine call_q h (if y = 0 then -1000000002 else σ 159 k - σ 159 k / y * y) (bad_c _ _ ?_) (fun τ q => bad_m _ _ ?_)
      · unfold s_X10_rest
        simp +decide (disch := omega) only [isSl_e, wI_1 c, bn_some, n10, ↓reduceIte, i5, cl_nI, r1, find_e s0, v1, b1]
        by_cases z : y = 0
        · simp only [z, ↓reduceIte]
        · simp only [z, ↓reduceIte]
      · have h158 : τ 158 = σ 158 := q.m (by omega)
        have h159 : τ 159 = σ 159 := q.m (by omega)
        unfold s_X11_rest
        simp (disch := omega) only [isSlm_e, wI_1 c, bn_some, n10, ↓reduceIte, i5, cl_nI, h158, v1, h159]
        by_cases z : y = 0
        · simp only [z, ↓reduceIte]
        · simp only [z, ↓reduceIte]
    · refine call_q h (if σ 158 k = 0 then -1000000011 else -1000000012) (bad_c _ _ ?_) (fun τ q => bad_m _ _ ?_)
      · unfold s_X10_rest
        simp (disch := omega) only [isSl_e, wI_1 c, bn_some, n10, ↓reduceIte, i5, cl_nI, r1, find_e s0, v1]
        by_cases z : σ 158 k = 0
        · simp only [z, ↓reduceIte]; rfl
        · simp only [z, ↓reduceIte]; rfl
      · have h158 : τ 158 = σ 158 := q.m (by omega)
        unfold s_X11_rest
        simp (disch := omega) only [isSlm_e, wI_1 c, bn_some, n10, ↓reduceIte, i5, cl_nI, h158, v1]
        split <;> rfl
  · refine call_q h (-1000000001) (bad_c _ _ ?_) (fun τ q => bad_m _ _ ?_)
    · unfold s_X10_rest
      simp only [isSl_e, wI_0 c, bn_some, ↓reduceIte]
    · unfold s_X11_rest
      simp only [isSlm_e, wI_0 c, bn_some, ↓reduceIte]
end q4
