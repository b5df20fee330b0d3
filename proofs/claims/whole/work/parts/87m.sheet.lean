section sh
variable {σ : Sg}
theorem inv_sh {ρ : Sg} (h : InvR σ σ) (e : ∀ c, c < 120 ∨ 128 ≤ c → c ≠ 155 → c ≠ 156 → c ≠ 157 → c ≠ 170 → ρ c = σ c) (t : SHT ρ ρ) : InvR ρ ρ := by
  have e' : ∀ c, c < 120 ∨ (128 ≤ c ∧ c < 155) ∨ (158 ≤ c ∧ c < 170) ∨ 171 ≤ c → ρ c = σ c := fun c a => e c (by omega) (by omega) (by omega) (by omega) (by omega)
  refine inv_g h (fun c a => e' c (by omega)) ?_ (by rw [e' _ (by omega)]) ⟨by rw [e' _ (by omega)], by rw [e' _ (by omega)]⟩ (TP_c h.2.2.2.2.1 (by rw [e' _ (by omega)]) (e' _ (by omega)) (by rw [e' _ (by omega)]) (e' _ (by omega))) t (SLT_c h.2.2.2.2.2.2.1 (fun c a b => e' c (by omega)) (e' _ (by omega)) (e' _ (by omega)) (e' _ (by omega)) (e' _ (by omega))) (WTG_c h.2.2.2.2.2.2.2.1 (by rw [e' _ (by omega)]) (e' _ (by omega)) (by rw [e' _ (by omega)]) (e' _ (by omega)))
  rw [e' _ (by omega)]; exact h.2.2.1.2.2.1
theorem sh_l : ∀ k, k < 4 → rt 119 k = 120 + 2 * k ∧ rt (120 + 2 * k) 2 = 121 + 2 * k ∧ aln 0 (121 + 2 * k) = 24 := by decide
theorem x5_become (σ : Sg) {k : Nat} (hk : k < 4) (x y : Int32) : Gv (s_X5_become σ (120 + 2 * k) x y) (fun _ τ => τ (120 + 2 * k) 0 = x ∧ τ (120 + 2 * k) 1 = y ∧ (∀ i, i < 24 → τ (121 + 2 * k) i = 0) ∧ ∀ c, c ≠ 120 + 2 * k → c ≠ 121 + 2 * k → τ c = σ c) := by
  obtain ⟨r1, r2, r3⟩ := sh_l k hk
  unfold s_X5_become
  rw [lt_e, lt_e]
  refine gv_loop0 (fun m i a => s_X5_become_12 m a (120 + 2 * k) (nI i)) 24 (fun i a => (∀ j, j < i → a (121 + 2 * k) j = 0) ∧ ∀ c, c ≠ 121 + 2 * k → a c = up (up σ (120 + 2 * k) 0 x) (120 + 2 * k) 1 y c) (by omega) ⟨fun _ a => absurd a (by omega), fun _ _ => rfl⟩ ?_ ?_
  · intro m i a hi ⟨p1, p2⟩
    refine ⟨up a (121 + 2 * k) i 0, ?_, ?_, ?_⟩
    · simp only [s_X5_become_12]
      have l1 : ¬ (24 : Int32) ≤ nI i := nI_ge (b := 24) (by omega) (by omega)
      rw [if_neg l1, r2, r3, if_pos (inb_nI hi (by omega)), lt_e, cl_nI (by omega), nI_1]
    · intro j hj
      rw [up_f]
      by_cases q : j = i
      · subst q; rw [ua_s]
      · rw [ua_n q]; exact p1 j (by omega)
    · intro c hc; rw [up_d hc]; exact p2 c hc
  · intro m a ⟨p1, p2⟩
    simp only [s_X5_become_12]
    rw [if_pos (by decide)]
    refine gv_i ⟨?_, ?_, p1, ?_⟩
    · rw [p2 _ (by omega), up_f, ua_n (by omega), up_f, ua_s]
    · rw [p2 _ (by omega), up_f, ua_s]
    · intro c a b; rw [p2 c b, up_d a, up_d a]
theorem m_sheet71 (σ : Sg) {k : Nat} (hk : k < 4) : Gv (s_X11_sheet_71 FU σ (nI k) 0) (fun r τ => r = σ 156 k ∧ (∀ i, i < 24 → τ 157 (24 * k + i) = 0) ∧ (∀ j, j < 24 * k ∨ 24 * k + 24 ≤ j → τ 157 j = σ 157 j) ∧ ∀ c, c ≠ 157 → τ c = σ c) := by
  refine gv_loop0 (fun m i a => s_X11_sheet_71 m a (nI k) (nI i)) 24 (fun i a => (∀ j, j < i → a 157 (24 * k + j) = 0) ∧ (∀ j, j < 24 * k ∨ 24 * k + 24 ≤ j → a 157 j = σ 157 j) ∧ ∀ c, c ≠ 157 → a c = σ c) (by omega) ⟨fun _ a => absurd a (by omega), fun _ _ => rfl, fun _ _ => rfl⟩ ?_ ?_
  · intro m i a hi ⟨p1, p2, p3⟩
    refine ⟨up a 157 (24 * k + i) 0, ?_, ?_, ?_, ?_⟩
    · simp only [s_X11_sheet_71]
      have l1 : ¬ (24 : Int32) ≤ nI i := nI_ge (b := 24) (by omega) (by omega)
      have e1 : (24 : Int32) * nI k + nI i = nI (24 * k + i) := by
        show nI 24 * nI k + nI i = _
        rw [pk_mul, nI_add]
      rw [if_neg l1, e1, if_pos (inb_nI (by omega) (by omega)), lt_e, cl_nI (by omega), nI_1]
    · intro j hj
      rw [up_f]
      by_cases q : j = i
      · subst q; rw [ua_s]
      · rw [ua_n (by omega)]; exact p1 j (by omega)
    · intro j hj; rw [up_f, ua_n (by omega)]; exact p2 j hj
    · intro c hc; rw [up_d hc]; exact p3 c hc
  · intro m a ⟨p1, p2, p3⟩
    simp only [s_X11_sheet_71]
    rw [if_pos (by decide), if_pos (inb_nI hk (by omega)), cl_nI (by omega)]
    exact gv_i ⟨by rw [p3 _ (by omega)], p1, p2, p3⟩
theorem sheet_set (h : InvR σ σ) {X : RO} {Y : Sg → RO} {k : Nat} (hk : k < 4) (x y : Int32) (hx : x = -1 ∨ sm 2 x) (hy : sm 24 y) (hX : X = bv (s_X5_become σ (120 + 2 * k) x y) fun s => some (y, s)) (hY : ∀ τ, Y τ = s_X11_sheet_71 FU (up (up τ 155 k x) 156 k y) (nI k) 0) : Call σ X Y := by
  refine call_g (fun r τ => r = y ∧ τ (120 + 2 * k) 0 = x ∧ τ (120 + 2 * k) 1 = y ∧ (∀ i, i < 24 → τ (121 + 2 * k) i = 0) ∧ ∀ c, c ≠ 120 + 2 * k → c ≠ 121 + 2 * k → τ c = σ c) ?_ (fun r τ p => p.2.2.2.2 _ (by omega) (by omega)) ?_
  · rw [hX]
    refine gv_v (x5_become σ hk x y) ?_
    intro _ s1 p
    exact gv_i ⟨rfl, p⟩
  · intro r τ ⟨hr, p1, p2, p3, p4⟩
    subst hr
    rw [hY]
    refine gv_w (m_sheet71 _ hk) ?_
    intro r2 ρ ⟨q1, q2, q3, q4⟩
    have u5 : ρ 155 = ua (σ 155) k x := by rw [q4 _ (by omega), up_d (by omega), up_f, p4 _ (by omega) (by omega)]
    have u6 : ρ 156 = ua (σ 156) k r := by rw [q4 _ (by omega), up_f, up_d (by omega), p4 _ (by omega) (by omega)]
    have u7 : ∀ j, j < 24 * k ∨ 24 * k + 24 ≤ j → ρ 157 j = σ 157 j := fun j hj => by rw [q3 j hj, up_d (by omega), up_d (by omega), p4 _ (by omega) (by omega)]
    have uc : ∀ c, c ≠ 155 → c ≠ 156 → c ≠ 157 → ρ c = τ c := fun c a b d => by rw [q4 c d, up_d b, up_d a]
    refine ⟨by rw [q1, up_f, ua_s], inv_sh h (fun c a b d e f => by rw [uc c b d e, p4 c (by omega) (by omega)]) ?_, by rw [uc _ (by omega) (by omega) (by omega), p4 _ (by omega) (by omega)]⟩
    intro j hj
    rw [u5, u6]
    by_cases c : j = k
    · subst c
      rw [uc _ (by omega) (by omega) (by omega), uc _ (by omega) (by omega) (by omega), ua_s, ua_s]
      exact ⟨p1, p2, fun i hi => by rw [p3 i hi, q2 i hi], hx, hy⟩
    · rw [uc _ (by omega) (by omega) (by omega), uc _ (by omega) (by omega) (by omega), ua_n c, ua_n c, p4 _ (by omega) (by omega), p4 _ (by omega) (by omega)]
      obtain ⟨a0, a1, a2, a3, a4⟩ := h.2.2.2.2.2.1 j hj
      exact ⟨a0, a1, fun i hi => by rw [u7 _ (by omega)]; exact a2 i hi, a3, a4⟩
theorem call_sheet (h : InvR σ σ) (x y z : Int32) : Call σ (s_X10_sheet σ x y z) (fun τ => s_X11_sheet τ x y z) := by
  by_cases c : win x 0 3
  · obtain ⟨k, hk, rfl⟩ := win_n (n := 3) (by omega) rfl c
    obtain ⟨r1, r2, r3⟩ := sh_l k (by omega)
    have i4 : inb (nI k) 4 = true := inb_nI (by omega) (by omega)
    by_cases c2 : win y (-1) 2
    · by_cases y1 : y = -1
      · subst y1
        refine sheet_set h (k := k) (by omega) (-1) 0 (.inl rfl) sm_0 ?_ ?_
        · unfold s_X10_sheet
          simp (disch := omega) only [isSh_e, wI_1 c, bn_some, n10, ↓reduceIte, within_e, wI_1 c2, i4, cl_nI, r1]
        · intro τ
          have a1 : (-1 : Int32) < 0 := by decide
          have a2 : ¬ (0 : Int32) ≤ -1 := by decide
          show s_X11_sheet _ _ _ _ = _
          unfold s_X11_sheet s_X11_sheet_46
          simp (disch := omega) only [isShm_e, wI_1 c, bn_some, n10, ↓reduceIte, isIn_m1_2, wI_1 c2, i4, cl_nI, a1, a2, lt_e]
      · have y0 : (0 : Int32) ≤ y := by
          have := c2.1
          rw [le_t] at this ⊢
          have q : ¬ y.toInt = -1 := fun e => y1 (Int32.toInt_inj.mp e)
          rw [show (-1 : Int32).toInt = -1 by decide] at this
          rw [show (0 : Int32).toInt = 0 by decide]
          omega
        obtain ⟨t, ht, rfl⟩ := win_n (n := 2) (by omega) rfl ⟨y0, c2.2⟩
        have ny : ¬ nI t < 0 := nI_pos (by omega)
        by_cases z1 : z ≤ 24
        · by_cases z2 : 0 ≤ z
          · obtain ⟨s, hs, rfl⟩ := win_n (n := 24) (by omega) rfl ⟨z2, z1⟩
            refine sheet_set h (k := k) (by omega) (nI t) (nI s) (.inr (sm_k ht)) (sm_k hs) ?_ ?_
            · unfold s_X10_sheet
              simp (disch := omega) only [isSh_e, wI_1 c, bn_some, n10, ↓reduceIte, within_e, wI_1 c2, i4, cl_nI, r1, y1, z1, z2]
            · intro τ
              show s_X11_sheet _ _ _ _ = _
              unfold s_X11_sheet s_X11_sheet_46
              simp (disch := omega) only [isShm_e, wI_1 c, bn_some, n10, ↓reduceIte, isIn_m1_2, wI_1 c2, i4, cl_nI, ny, y0, z1, z2, lt_e]
          · refine call_q h (-1000000014) (bad_c _ _ ?_) (fun τ q => bad_m _ _ ?_)
            · unfold s_X10_sheet
              simp (disch := omega) only [isSh_e, wI_1 c, bn_some, n10, ↓reduceIte, within_e, wI_1 c2, y1, z1, z2]
            · unfold s_X11_sheet
              simp (disch := omega) only [isShm_e, wI_1 c, bn_some, n10, ↓reduceIte, isIn_m1_2, wI_1 c2, ny, z1, z2]
        · refine call_q h (-1000000001) (bad_c _ _ ?_) (fun τ q => bad_m _ _ ?_)
          · unfold s_X10_sheet
            simp (disch := omega) only [isSh_e, wI_1 c, bn_some, n10, ↓reduceIte, within_e, wI_1 c2, y1, z1]
          · unfold s_X11_sheet
            simp (disch := omega) only [isShm_e, wI_1 c, bn_some, n10, ↓reduceIte, isIn_m1_2, wI_1 c2, ny, z1]
    · refine call_q h (-1000000001) (bad_c _ _ ?_) (fun τ q => bad_m _ _ ?_)
      · unfold s_X10_sheet
        simp (disch := omega) only [isSh_e, wI_1 c, bn_some, n10, ↓reduceIte, within_e, wI_0 c2]
      · unfold s_X11_sheet
        simp (disch := omega) only [isShm_e, wI_1 c, bn_some, n10, ↓reduceIte, isIn_m1_2, wI_0 c2]
  · refine call_q h (-1000000001) (bad_c _ _ ?_) (fun τ q => bad_m _ _ ?_)
    · unfold s_X10_sheet
      simp (disch := omega) only [isSh_e, wI_0 c, bn_some, ↓reduceIte]
    · unfold s_X11_sheet
      simp (disch := omega) only [isShm_e, wI_0 c, bn_some, ↓reduceIte]
theorem ty_c {v : Int32} (h : v = -1 ∨ sm 2 v) : (v = -1 ∧ ¬ 0 ≤ v) ∨ (¬ v = -1 ∧ 0 ≤ v) := by
  rcases h with rfl | ⟨t, ht, rfl⟩
  · exact .inl ⟨rfl, by decide⟩
  · have : t = 0 ∨ t = 1 ∨ t = 2 := by omega
    rcases this with rfl | rfl | rfl
    · exact .inr ⟨by decide, by decide⟩
    · exact .inr ⟨by decide, by decide⟩
    · exact .inr ⟨by decide, by decide⟩
theorem call_mark (h : InvR σ σ) (x y z : Int32) : Call σ (s_X10_mark σ x y z) (fun τ => s_X11_mark τ x y z) := by
  by_cases c : win x 0 3
  · obtain ⟨k, hk, rfl⟩ := win_n (n := 3) (by omega) rfl c
    obtain ⟨r1, r2, r3⟩ := sh_l k (by omega)
    have i4 : inb (nI k) 4 = true := inb_nI (by omega) (by omega)
    obtain ⟨a0, a1, a2, a3, ⟨n, hn, a4⟩⟩ := h.2.2.2.2.2.1 k (by omega)
    rw [a4] at a1
    rcases ty_c a3 with ⟨t1, t2⟩ | ⟨t1, t2⟩
    · rw [t1] at a0
      refine call_q h (-1000000011) (bad_c _ _ ?_) (fun τ q => bad_m _ _ ?_)
      · unfold s_X10_mark
        simp (disch := omega) only [isSh_e, wI_1 c, bn_some, n10, ↓reduceIte, i4, cl_nI, r1, lt_e, a0]
      · have h5 : τ 155 = σ 155 := q.m (by omega)
        unfold s_X11_mark
        simp (disch := omega) only [isShm_e, wI_1 c, bn_some, n10, ↓reduceIte, i4, cl_nI, h5, t2]
    · by_cases cb : inb y n = true
      · obtain ⟨j, hj, rfl⟩ := inb_of cb (by omega)
        let w := if σ 155 k = 0 then (z <<< (16 &&& 31)) >>> (16 &&& 31) else z
        have ew : w = if σ 155 k = 0 then (z <<< (16 &&& 31)) >>> (16 &&& 31) else z := rfl
        have e : ∀ d, d ≠ 121 + 2 * k → d ≠ 157 → up (up σ (121 + 2 * k) j w) 157 (24 * k + j) w d = σ d := fun d a b => by rw [up_d b, up_d a]
        refine ⟨σ (121 + 2 * k) j, up σ (121 + 2 * k) j w, up (up σ (121 + 2 * k) j w) 157 (24 * k + j) w, ?_, ?_, ?_, up_d (by omega), e _ (by omega) (by omega)⟩
        · unfold s_X10_mark s_X5_put
          simp (disch := omega) only [isSh_e, wI_1 c, bn_some, n10, ↓reduceIte, i4, cl_nI, r1, lt_e, a0, t1, run1_e hn a1, cb, r2, r3, inb_n, i16_e]
          rw [ew]
          split <;> rfl
        · have h5 : up σ (121 + 2 * k) j w 155 = σ 155 := up_d (by omega)
          have h6 : up σ (121 + 2 * k) j w 156 = σ 156 := up_d (by omega)
          have h7 : up σ (121 + 2 * k) j w 157 = σ 157 := up_d (by omega)
          show s_X11_mark _ _ _ _ = _
          have e1 : (24 : Int32) * nI k + nI j = nI (24 * k + j) := by
            show nI 24 * nI k + nI j = _
            rw [pk_mul, nI_add]
          unfold s_X11_mark
          simp (disch := omega) only [isShm_e, wI_1 c, bn_some, n10, ↓reduceIte, i4, cl_nI, h5, t2, h6, a4, isIn_0y, has_w (nI j) (show n < 1000 by omega), cb, e1, inb_n, lt_e, h7]
          rw [a2 j (by omega), ew]
          split <;> rfl
        · refine inv_sh h (fun c a b d f g => e c (by omega) f) ?_
          intro i hi
          rw [e 155 (by omega) (by omega), e 156 (by omega) (by omega), e _ (by omega) (by omega)]
          obtain ⟨b0, b1, b2, b3, b4⟩ := h.2.2.2.2.2.1 i hi
          refine ⟨b0, b1, fun t ht => ?_, b3, b4⟩
          have u7 : up (up σ (121 + 2 * k) j w) 157 (24 * k + j) w 157 = ua (σ 157) (24 * k + j) w := by rw [up_f, up_d (by omega)]
          rw [u7, up_d (by omega)]
          by_cases q : i = k
          · subst q
            rw [up_f]
            by_cases q2 : t = j
            · subst q2; rw [ua_s, ua_s]
            · rw [ua_n q2, ua_n (by omega)]; exact b2 t ht
          · rw [up_d (by omega), ua_n (by omega)]; exact b2 t ht
      · refine call_q h (-1000000013) (bad_c _ _ ?_) (fun τ q => bad_m _ _ ?_)
        · unfold s_X10_mark
          simp (disch := omega) only [isSh_e, wI_1 c, bn_some, n10, ↓reduceIte, i4, cl_nI, r1, lt_e, a0, t1, run1_e hn a1, cb, Bool.false_eq_true]
        · have h5 : τ 155 = σ 155 := q.m (by omega)
          have h6 : τ 156 = σ 156 := q.m (by omega)
          unfold s_X11_mark
          simp (disch := omega) only [isShm_e, wI_1 c, bn_some, n10, ↓reduceIte, i4, cl_nI, h5, t2, h6, a4, isIn_0y, has_w y (show n < 1000 by omega), cb, Bool.false_eq_true]
  · refine call_q h (-1000000001) (bad_c _ _ ?_) (fun τ q => bad_m _ _ ?_)
    · unfold s_X10_mark
      simp (disch := omega) only [isSh_e, wI_0 c, bn_some, ↓reduceIte]
    · unfold s_X11_mark
      simp (disch := omega) only [isShm_e, wI_0 c, bn_some, ↓reduceIte]
end sh
