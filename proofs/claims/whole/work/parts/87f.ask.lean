section q2
variable {σ : Sg}
theorem iu_s {y : Int32} {k i m : Nat} (hk : k < 6) (hi : i < 6) : s_X0_isUnder_7 (m + 1) σ y (nI k) (nI i) = if nI k = y then some (1, σ) else s_X0_isUnder_7 m σ y (σ 900 k) (nI (i + 1)) := by
  have a : ¬ (6 : Int32) ≤ nI i := nI_ge (b := 6) hi (by omega)
  have b : ¬ nI k < 0 := nI_pos (by omega)
  have d : ¬ (6 : Int32) ≤ nI k := nI_ge (b := 6) hk (by omega)
  simp only [s_X0_isUnder_7]
  simp (disch := omega) only [a, b, d, ↓reduceIte, inb_n, cl_nI, lt_e, nI_1]
theorem iu_e {y : Int32} {i m : Nat} : s_X0_isUnder_7 (m + 1) σ y (-1) (nI i) = some (0, σ) := by
  simp only [s_X0_isUnder_7, show (-1 : Int32) < 0 by decide, ↓reduceIte, ite_self]
theorem FU4 : FU = 4092 + 1 + 1 + 1 + 1 := rfl
theorem iu {c : Nat} (hK : KA σ) {k : Nat} (hk : k < 6) (h0 : σ c 0 = nI k) (y : Int32) : s_X0_isUnder σ c y = some (ofI (nI k) y, σ) := by
  obtain ⟨k0, k1, k2, k3, k4, k5⟩ := hK
  unfold s_X0_isUnder ofI
  rw [h0, lt_e, FU4, show (0 : Int32) = nI 0 from rfl]
  have : k = 0 ∨ k = 1 ∨ k = 2 ∨ k = 3 ∨ k = 4 ∨ k = 5 := by omega
  have z0 : (0 : Int32) = nI 0 := rfl
  have z1 : (1 : Int32) = nI 1 := rfl
  have z2 : (2 : Int32) = nI 2 := rfl
  rcases this with rfl | rfl | rfl | rfl | rfl | rfl
  · rw [iu_s (by omega) (by omega), k0, iu_e]
    by_cases c0 : y = 0
    · subst c0; rfl
    · have n0 : ¬ nI 0 = y := fun e => c0 e.symm
      have m1 : ¬ nI 0 = 4 := by decide
      have m2 : ¬ nI 0 = 3 := by decide
      rw [if_neg n0, if_neg]
      · rfl
      · rintro (a | a | ⟨_, a⟩ | ⟨_, a⟩)
        · exact c0 a
        · exact n0 a
        · exact m1 a
        · exact m2 a
  · rw [iu_s (by omega) (by omega), k1, z0, iu_s (by omega) (by omega), k0, iu_e]
    by_cases c1 : nI 1 = y
    · rw [if_pos c1, if_pos (.inr (.inl c1))]
    · rw [if_neg c1]
      by_cases c0 : nI 0 = y
      · rw [if_pos c0, if_pos (.inl c0.symm)]
      · rw [if_neg c0, if_neg]
        · rfl
        · rintro (a | a | ⟨_, a⟩ | ⟨_, a⟩)
          · exact c0 a.symm
          · exact c1 a
          · exact absurd a (by decide)
          · exact absurd a (by decide)
  · rw [iu_s (by omega) (by omega), k2, z0, iu_s (by omega) (by omega), k0, iu_e]
    by_cases c1 : nI 2 = y
    · rw [if_pos c1, if_pos (.inr (.inl c1))]
    · rw [if_neg c1]
      by_cases c0 : nI 0 = y
      · rw [if_pos c0, if_pos (.inl c0.symm)]
      · rw [if_neg c0, if_neg]
        · rfl
        · rintro (a | a | ⟨_, a⟩ | ⟨_, a⟩)
          · exact c0 a.symm
          · exact c1 a
          · exact absurd a (by decide)
          · exact absurd a (by decide)
  · rw [iu_s (by omega) (by omega), k3, z2, iu_s (by omega) (by omega), k2, z0, iu_s (by omega) (by omega), k0, iu_e]
    by_cases c1 : nI 3 = y
    · rw [if_pos c1, if_pos (.inr (.inl c1))]
    · rw [if_neg c1]
      by_cases c2 : nI 2 = y
      · rw [if_pos c2, if_pos (.inr (.inr (.inr ⟨c2.symm, rfl⟩)))]
      · rw [if_neg c2]
        by_cases c0 : nI 0 = y
        · rw [if_pos c0, if_pos (.inl c0.symm)]
        · rw [if_neg c0, if_neg]
          · rfl
          · rintro (a | a | ⟨_, a⟩ | ⟨a, _⟩)
            · exact c0 a.symm
            · exact c1 a
            · exact absurd a (by decide)
            · exact c2 a.symm
  · rw [iu_s (by omega) (by omega), k4, z1, iu_s (by omega) (by omega), k1, z0, iu_s (by omega) (by omega), k0, iu_e]
    by_cases c1 : nI 4 = y
    · rw [if_pos c1, if_pos (.inr (.inl c1))]
    · rw [if_neg c1]
      by_cases c2 : nI 1 = y
      · rw [if_pos c2, if_pos (.inr (.inr (.inl ⟨c2.symm, rfl⟩)))]; rfl
      · rw [if_neg c2]
        by_cases c0 : nI 0 = y
        · rw [if_pos c0, if_pos (.inl c0.symm)]; rfl
        · rw [if_neg c0, if_neg]
          · rfl
          · rintro (a | a | ⟨a, _⟩ | ⟨_, a⟩)
            · exact c0 a.symm
            · exact c1 a
            · exact c2 a.symm
            · exact absurd a (by decide)
  · rw [iu_s (by omega) (by omega), k5, z0, iu_s (by omega) (by omega), k0, iu_e]
    by_cases c1 : nI 5 = y
    · rw [if_pos c1, if_pos (.inr (.inl c1))]
    · rw [if_neg c1]
      by_cases c0 : nI 0 = y
      · rw [if_pos c0, if_pos (.inl c0.symm)]
      · rw [if_neg c0, if_neg]
        · rfl
        · rintro (a | a | ⟨_, a⟩ | ⟨_, a⟩)
          · exact c0 a.symm
          · exact c1 a
          · exact absurd a (by decide)
          · exact absurd a (by decide)
theorem kd_n {A : Nat → Int32} {o : Nat} (h : VA A o) : ∃ k, k < 6 ∧ A o = nI k := by
  obtain ⟨k, _, _, _, e, _, _, _, hk, _⟩ := h
  exact ⟨k, hk, e⟩
theorem bad_c (X : RO) (v : Int32) (e : X = some (v, σ)) : Gv X (fun r τ => r = v ∧ CQ σ τ) := by rw [e]; exact gv_i ⟨rfl, CQ.r σ⟩
theorem bad_m {τ : Sg} (X : RO) (v : Int32) (e : X = some (v, τ)) : Gv X (fun r ρ => r = v ∧ FS τ ρ) := by rw [e]; exact gv_i ⟨rfl, FS.r τ⟩
theorem isKind_e (σ : Sg) (x : Int32) : s_X10_isKind σ x = some (wI x 0 5, σ) := by
  unfold s_X10_isKind; rw [within_e, bn_some]; simp only [wI_01, ↓reduceIte]
theorem isPow_e (σ : Sg) (x : Int32) : s_X10_isPower σ x = some (wI x 0 99, σ) := by
  unfold s_X10_isPower; rw [within_e, bn_some]; simp only [wI_01, ↓reduceIte]
theorem isSh_e (σ : Sg) (x : Int32) : s_X10_isSheet σ x = some (wI x 0 3, σ) := by
  unfold s_X10_isSheet; rw [within_e, bn_some]; simp only [wI_01, ↓reduceIte]
theorem isSl_e (σ : Sg) (x : Int32) : s_X10_isSlot σ x = some (wI x 0 4, σ) := by
  unfold s_X10_isSlot; rw [within_e, bn_some]; simp only [wI_01, ↓reduceIte]
theorem isShm_e (σ : Sg) (x : Int32) : s_X11_isSheet σ x = some (wI x 0 3, σ) := by
  unfold s_X11_isSheet; rw [isIn_0_3, bn_some]; simp only [wI_01, ↓reduceIte]
theorem isSlm_e (σ : Sg) (x : Int32) : s_X11_isSlot σ x = some (wI x 0 4, σ) := by
  unfold s_X11_isSlot; rw [isIn_0_4, bn_some]; simp only [wI_01, ↓reduceIte]
theorem n10 : ¬ (1 : Int32) = 0 := by decide
theorem call_as (h : InvR σ σ) (x y : Int32) : Call σ (s_X10_as σ x y) (fun τ => s_X11_as τ x y) := by
  have hw := h.w
  have hF := h.f
  have n8 := hw.n8
  by_cases c : inb x (nB (σ 151)) = true
  · obtain ⟨i, hi, rfl⟩ := inb_of c (by omega)
    by_cases c2 : win y 0 5
    · obtain ⟨k, hk, ek⟩ := kd_n (hw.v hi)
      refine call_q h (if ofI (nI k) y = 0 then -1000000012 else wd (σ 151) i) ?_ (fun τ q => ?_)
      · unfold s_X10_as
        have i8 : inb (nI i) 8 = true := inb_nI (by omega) (by omega)
        have e0 : σ (2 + 10 + i) 0 = nI k := by rw [← ek]; exact hF.1.f hi (k := 0) (by omega)
        simp (disch := omega) only [has_c hw hF.1.n, bn_some, c, ↓reduceIte, n10, isKind_e, wI_1 c2, i8, cl_nI, r3_, lt_e, iu h.2.2.2.2.2.2.2.2.1 hk e0 y, hF.1.w hi]
        by_cases q : ofI (nI k) y = 0
        · simp only [q, ↓reduceIte]; exact gv_i ⟨rfl, CQ.r σ⟩
        · simp only [q, ↓reduceIte]; exact gv_i ⟨rfl, CQ.r σ⟩
      · have hA : τ 151 = σ 151 := q.m (by omega)
        refine bad_m _ _ ?_
        unfold s_X11_as s_X11_blockAt
        simp (disch := omega) only [isBlk_e hw hA, bn_some, c, ↓reduceIte, n10, isIn_0_5, wI_1 c2, NK, inb_n, cl_nI, hA, isOf_e, ek, width_e]
        split <;> rfl
    · refine call_q h (-1000000001) (bad_c _ _ ?_) (fun τ q => bad_m _ _ ?_)
      · unfold s_X10_as
        simp only [has_c hw hF.1.n, bn_some, c, ↓reduceIte, n10, isKind_e, wI_0 c2]
      · unfold s_X11_as
        simp only [isBlk_e hw (q.m (by omega) : τ 151 = σ 151), bn_some, c, ↓reduceIte, n10, isIn_0_5, wI_0 c2]
  · refine call_q h (-1000000001) (bad_c _ _ ?_) (fun τ q => bad_m _ _ ?_)
    · unfold s_X10_as
      simp only [has_c hw hF.1.n, bn_some, c, ↓reduceIte, Bool.false_eq_true]
    · unfold s_X11_as
      simp only [isBlk_e hw (q.m (by omega) : τ 151 = σ 151), bn_some, c, ↓reduceIte, Bool.false_eq_true]
theorem call_wire (h : InvR σ σ) (x y : Int32) : Call σ (s_X10_wire σ x y) (fun τ => s_X11_wire τ x y) := by
  have hw := h.w
  have hF := h.f
  have n8 := hw.n8
  have m10 := hw.nn10
  have e1 : wI x 0 (σ 2 10 - 1) = if inb x (nN (σ 151)) = true then 1 else 0 := by
    rw [hF.1.nets, hw.nn]; exact has_w x (by omega)
  have e2 : wI x 0 (σ 151 1 - 1) = if inb x (nN (σ 151)) = true then 1 else 0 := by
    rw [hw.nn]; exact has_w x (by omega)
  by_cases c : inb x (nN (σ 151)) = true
  · rw [if_pos c] at e1 e2
    obtain ⟨j, hj, rfl⟩ := inb_of c (by omega)
    by_cases c2 : win y 0 2
    · obtain ⟨k, hk, rfl⟩ := win_n (n := 2) (by omega) rfl c2
      refine call_q h (if k = 0 then wireA (σ 151) j else if k = 1 then guessA (σ 151) j else wireA (σ 151) j - guessA (σ 151) j) (bad_c _ _ ?_) (fun τ q => ?_)
      · unfold s_X10_wire
        simp only [within_e, e1, bn_some, n10, ↓reduceIte, wI_1 c2, x1_wireOf fl2 hw hF hj, x1_guessOf fl2 hw hF hj]
        have : k = 0 ∨ k = 1 ∨ k = 2 := by omega
        rcases this with rfl | rfl | rfl
        · simp only [tI0, ↓reduceIte]
        · simp +decide only [tI1, ↓reduceIte]
        · simp +decide only [tI2, ↓reduceIte]
      · have hA : τ 151 = σ 151 := q.m (by omega)
        unfold s_X11_wire
        simp only [hA, isIn_0y, e2, bn_some, n10, ↓reduceIte, isIn_0_2, wI_1 c2]
        refine gv_v (findPlaces_e hw hA) ?_
        intro _ ρ ⟨f, p⟩
        have rA : ρ 151 = σ 151 := f.s.trans hA
        simp only [m_wireOf hw rA p hj, m_guessOf hw rA hj, bn_some]
        have : k = 0 ∨ k = 1 ∨ k = 2 := by omega
        rcases this with rfl | rfl | rfl
        · simp +decide only [↓reduceIte]; exact gv_i ⟨rfl, f.fs⟩
        · simp +decide only [↓reduceIte]; exact gv_i ⟨rfl, f.fs⟩
        · simp +decide only [↓reduceIte]; exact gv_i ⟨rfl, f.fs⟩
    · refine call_q h (-1000000001) (bad_c _ _ ?_) (fun τ q => bad_m _ _ ?_)
      · unfold s_X10_wire
        simp only [within_e, e1, bn_some, n10, ↓reduceIte, wI_0 c2]
      · have hA : τ 151 = σ 151 := q.m (by omega)
        unfold s_X11_wire
        simp only [hA, isIn_0y, e2, bn_some, n10, ↓reduceIte, isIn_0_2, wI_0 c2]
  · rw [if_neg c] at e1 e2
    refine call_q h (-1000000001) (bad_c _ _ ?_) (fun τ q => bad_m _ _ ?_)
    · unfold s_X10_wire
      simp only [within_e, e1, bn_some, ↓reduceIte]
    · have hA : τ 151 = σ 151 := q.m (by omega)
      unfold s_X11_wire
      simp only [hA, isIn_0y, e2, bn_some, ↓reduceIte]
theorem call_at (h : InvR σ σ) (x y : Int32) : Call σ (s_X10_at σ x y) (fun τ => s_X11_at τ x y) := by
  have hw := h.w
  have hF := h.f
  have n8 := hw.n8
  by_cases c1 : win x 0 1
  · obtain ⟨k, hk, rfl⟩ := win_n (n := 1) (by omega) rfl c1
    by_cases c : inb y (nB (σ 151)) = true
    · obtain ⟨i, hi, rfl⟩ := inb_of c (by omega)
      refine call_q h (σ 151 (70 + 8 * k + i)) (bad_c _ _ ?_) (fun τ q => bad_m _ _ ?_)
      · unfold s_X10_at
        have a4 : σ 4 i = σ 151 (70 + i) := hF.1.one hi
        have a5 : σ 5 i = σ 151 (78 + i) := hF.1.oth hi
        simp (disch := omega) only [within_e, wI_1 c1, bn_some, n10, ↓reduceIte, has_c hw hF.1.n, c, inb_n, cl_nI, a4, a5]
        have : k = 0 ∨ k = 1 := by omega
        rcases this with rfl | rfl
        · simp +decide only [↓reduceIte]
        · simp +decide only [↓reduceIte]
      · have hA : τ 151 = σ 151 := q.m (by omega)
        unfold s_X11_at
        simp (disch := omega) only [isIn_0_1, wI_1 c1, bn_some, n10, ↓reduceIte, isBlk_e hw hA, c, NK, nI_add, inb_n, cl_nI, hA]
    · refine call_q h (-1000000001) (bad_c _ _ ?_) (fun τ q => bad_m _ _ ?_)
      · unfold s_X10_at
        simp only [within_e, wI_1 c1, bn_some, n10, ↓reduceIte, has_c hw hF.1.n, c, Bool.false_eq_true]
      · unfold s_X11_at
        simp only [isIn_0_1, wI_1 c1, bn_some, n10, ↓reduceIte, isBlk_e hw (q.m (by omega) : τ 151 = σ 151), c, Bool.false_eq_true]
  · refine call_q h (-1000000001) (bad_c _ _ ?_) (fun τ q => bad_m _ _ ?_)
    · unfold s_X10_at
      simp only [within_e, wI_0 c1, bn_some, ↓reduceIte]
    · unfold s_X11_at
      simp only [isIn_0_1, wI_0 c1, bn_some, ↓reduceIte]
theorem call_whole (h : InvR σ σ) (x : Int32) : Call σ (s_X10_whole σ x) (fun τ => s_X11_whole τ x) := by
  have hw := h.w
  have hF := h.f
  refine call_q h (if x.toInt = 0 then WW (σ 151) else if x.toInt = 1 then HH (σ 151) else if x.toInt = 2 then wasteA (σ 151) else if x.toInt = 3 then wiresA (σ 151) else if x.toInt = 4 then priceA (σ 151) else -1000000001) (bad_c _ _ ?_) (fun τ q => ?_)
  · unfold s_X10_whole
    have a : σ 2 12 = WW (σ 151) := hF.ww
    have b : σ 2 13 = HH (σ 151) := hF.hw
    simp only [a, b, x1_waste fl2 hw hF, x1_wires fl2 hw hF, x1_price fl2 hw hF, bn_some]
    repeat' split
    all_goals rfl
  · have hA : τ 151 = σ 151 := q.m (by omega)
    unfold s_X11_whole
    refine gv_n (m_price hw hA) ?_
    intro r ρ ⟨e, f, p⟩
    subst e
    have rA : ρ 151 = σ 151 := f.s.trans hA
    simp only [p.ww, p.hw, m_waste hw rA p, m_wires hw rA p, bn_some]
    have : ∀ (v : Int32), Gv (some (v, ρ)) (fun r κ => r = v ∧ FS τ κ) := fun v => gv_i ⟨rfl, f.fs⟩
    repeat' split
    all_goals exact this _
theorem call_stands (h : InvR σ σ) (x y : Int32) : Call σ (s_X10_stands σ x y) (fun τ => s_X11_stands τ x y) := by
  have hw := h.w
  have hF := h.f
  have n8 := hw.n8
  by_cases c : inb x (nB (σ 151)) = true
  · obtain ⟨i, hi, rfl⟩ := inb_of c (by omega)
    by_cases d : inb y (nB (σ 151)) = true
    · obtain ⟨j, hj, rfl⟩ := inb_of d (by omega)
      have eij : (nI i = nI j) = (i = j) := ieq (by omega) (by omega)
      by_cases ne : i = j
      · refine call_q h (-1000000001) (bad_c _ _ ?_) (fun τ q => bad_m _ _ ?_)
        · unfold s_X10_stands
          simp only [has_c hw hF.1.n, bn_some, c, d, ↓reduceIte, n10, eij, ne]
        · unfold s_X11_stands
          simp only [isBlk_e hw (q.m (by omega) : τ 151 = σ 151), bn_some, c, d, ↓reduceIte, n10, eij, ne]
      · have q1 := hw.pl1 hi
        have q2 := hw.pl1 hj
        have q3 := hw.pl2 hi
        have q4 := hw.pl2 hj
        have pn : p1 (σ 151) i ≠ p1 (σ 151) j := fun e => ne (by
          have a : o1 (σ 151) (p1 (σ 151) i) = i := (PM_q hw.m1 hi).2
          have b : o1 (σ 151) (p1 (σ 151) j) = j := (PM_q hw.m1 hj).2
          rw [← a, ← b, e])
        refine call_q h (if ly (σ 151) i = ly (σ 151) j then (if p2 (σ 151) i < p2 (σ 151) j then (if p1 (σ 151) i < p1 (σ 151) j then 0 else 1) else (if p1 (σ 151) i < p1 (σ 151) j then 3 else 2)) else -1000000005) (bad_c _ _ ?_) (fun τ q => bad_m _ _ ?_)
        · unfold s_X10_stands
          have a6i : σ 6 i = nI (p1 (σ 151) i) := hF.p1 hi
          have a6j : σ 6 j = nI (p1 (σ 151) j) := hF.p1 hj
          have a7i : σ 7 i = nI (p2 (σ 151) i) := hF.p2 hi
          have a7j : σ 7 j = nI (p2 (σ 151) j) := hF.p2 hj
          simp (disch := omega) only [has_c hw hF.1.n, bn_some, c, d, ↓reduceIte, n10, eij, ne, inb_n, cl_nI, r3_, hF.1.lyv hi, hF.1.lyv hj, a6i, a6j, a7i, a7j]
          by_cases l : ly (σ 151) i = ly (σ 151) j
          · by_cases b2 : p2 (σ 151) i < p2 (σ 151) j
            · by_cases b1 : p1 (σ 151) i < p1 (σ 151) j
              · simp (disch := omega) only [l, b2, b1, le_F, ↓reduceIte]
              · simp (disch := omega) only [l, b2, b1, le_F, le_T, ↓reduceIte]
            · by_cases b1 : p1 (σ 151) i < p1 (σ 151) j
              · simp (disch := omega) only [l, b2, b1, le_T, ↓reduceIte]
              · simp (disch := omega) only [l, b2, b1, le_F, le_T, ↓reduceIte]
          · simp only [l, ↓reduceIte]
        · have hA : τ 151 = σ 151 := q.m (by omega)
          have al := alike_e τ (i := i) (j := j) (by omega) (by omega)
          rw [hA] at al
          unfold s_X11_stands s_X11_stands_56 s_X11_stands_77
          simp (disch := omega) only [isBlk_e hw hA, bn_some, c, d, ↓reduceIte, n10, eij, ne, al, place0 hw hA hi, place0 hw hA hj, place1 hw hA hi, place1 hw hA hj]
          by_cases l : ly (σ 151) i = ly (σ 151) j
          · by_cases b2 : p2 (σ 151) i < p2 (σ 151) j
            · by_cases b1 : p1 (σ 151) i < p1 (σ 151) j
              · simp (disch := omega) only [l, b2, b1, le_F, ↓reduceIte, n10]
              · simp (disch := omega) only [l, b2, b1, le_F, le_T, ↓reduceIte, n10]
            · by_cases b1 : p1 (σ 151) i < p1 (σ 151) j
              · simp (disch := omega) only [l, b2, b1, le_F, le_T, ↓reduceIte, n10]
              · simp (disch := omega) only [l, b2, b1, le_T, ↓reduceIte, n10]
          · simp only [l, ↓reduceIte]
    · refine call_q h (-1000000001) (bad_c _ _ ?_) (fun τ q => bad_m _ _ ?_)
      · unfold s_X10_stands
        simp only [has_c hw hF.1.n, bn_some, c, d, ↓reduceIte, n10, Bool.false_eq_true]
      · unfold s_X11_stands
        simp only [isBlk_e hw (q.m (by omega) : τ 151 = σ 151), bn_some, c, d, ↓reduceIte, n10, Bool.false_eq_true]
  · refine call_q h (-1000000001) (bad_c _ _ ?_) (fun τ q => bad_m _ _ ?_)
    · unfold s_X10_stands
      simp only [has_c hw hF.1.n, bn_some, c, ↓reduceIte, Bool.false_eq_true]
    · unfold s_X11_stands
      simp only [isBlk_e hw (q.m (by omega) : τ 151 = σ 151), bn_some, c, ↓reduceIte, Bool.false_eq_true]
theorem call_touch (h : InvR σ σ) (x y : Int32) : Call σ (s_X10_touch σ x y) (fun τ => s_X11_touch τ x y) := by
  have hw := h.w
  have hF := h.f
  have n8 := hw.n8
  by_cases c : inb x (nB (σ 151)) = true
  · obtain ⟨i, hi, rfl⟩ := inb_of c (by omega)
    by_cases d : inb y (nB (σ 151)) = true
    · obtain ⟨j, hj, rfl⟩ := inb_of d (by omega)
      have eij : (nI i = nI j) = (i = j) := ieq (by omega) (by omega)
      by_cases ne : i = j
      · refine call_q h (-1000000001) (bad_c _ _ ?_) (fun τ q => bad_m _ _ ?_)
        · unfold s_X10_touch
          simp only [has_c hw hF.1.n, bn_some, c, d, ↓reduceIte, n10, eij, ne]
        · unfold s_X11_touch
          simp only [isBlk_e hw (q.m (by omega) : τ 151 = σ 151), bn_some, c, d, ↓reduceIte, n10, eij, ne]
      · refine call_q h (tcI (σ 151) i j) (bad_c _ _ ?_) (fun τ q => ?_)
        · unfold s_X10_touch
          simp (disch := omega) only [has_c hw hF.1.n, bn_some, c, d, ↓reduceIte, n10, eij, ne, inb_n, cl_nI, r3_, x0_touches hF hi hj]
          rcases tcI_b (σ 151) i j with e | e <;> rw [e]
          · rfl
          · rfl
        · have hA : τ 151 = σ 151 := q.m (by omega)
          unfold s_X11_touch
          simp only [isBlk_e hw hA, bn_some, c, d, ↓reduceIte, n10, eij, ne]
          refine gv_v (findPlaces_e hw hA) ?_
          intro _ ρ ⟨f, p⟩
          have rA : ρ 151 = σ 151 := f.s.trans hA
          rw [m_touch hw rA p hi hj, bn_some]
          rcases tcI_b (σ 151) i j with e | e <;> rw [e]
          · exact gv_i ⟨rfl, f.fs⟩
          · exact gv_i ⟨rfl, f.fs⟩
    · refine call_q h (-1000000001) (bad_c _ _ ?_) (fun τ q => bad_m _ _ ?_)
      · unfold s_X10_touch
        simp only [has_c hw hF.1.n, bn_some, c, d, ↓reduceIte, n10, Bool.false_eq_true]
      · unfold s_X11_touch
        simp only [isBlk_e hw (q.m (by omega) : τ 151 = σ 151), bn_some, c, d, ↓reduceIte, n10, Bool.false_eq_true]
  · refine call_q h (-1000000001) (bad_c _ _ ?_) (fun τ q => bad_m _ _ ?_)
    · unfold s_X10_touch
      simp only [has_c hw hF.1.n, bn_some, c, ↓reduceIte, Bool.false_eq_true]
    · unfold s_X11_touch
      simp only [isBlk_e hw (q.m (by omega) : τ 151 = σ 151), bn_some, c, ↓reduceIte, Bool.false_eq_true]
theorem call_hottest (h : InvR σ σ) : Call σ (s_X10_hottest σ) (fun τ => s_X11_hottest τ) := by
  have hw := h.w
  have hF := h.f
  have n8 := hw.n8
  refine call_q h (if nB (σ 151) = 0 then -1000000005 else nI (hotA (σ 151))) (bad_c _ _ ?_) (fun τ q => ?_)
  · unfold s_X10_hottest
    rw [hF.1.n]
    simp only [n_0 hw, x1_hottest fl2 hw hF, bn_some]
    split <;> rfl
  · have hA : τ 151 = σ 151 := q.m (by omega)
    unfold s_X11_hottest s_X11_orNone
    refine gv_v (findPlaces_e hw hA) ?_
    intro _ ρ ⟨f, p⟩
    have rA : ρ 151 = σ 151 := f.s.trans hA
    rw [m_hottest hw rA p, bn_some]
    by_cases c : nB (σ 151) = 0
    · rw [if_pos c, if_neg (by decide), bn_some, if_pos c]; exact gv_i ⟨rfl, f.fs⟩
    · have := hot_lt hw c
      rw [if_neg c, if_pos (nI_pos' (by omega)), bn_some, if_neg c]; exact gv_i ⟨rfl, f.fs⟩
end q2
