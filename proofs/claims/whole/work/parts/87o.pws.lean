section pws
variable {σ : Sg}
theorem leastN {P : Nat → Prop} : ∀ N, (∀ i, i < N → P i) ∨ ∃ j, j < N ∧ ¬ P j ∧ ∀ i, i < j → P i := by
  intro N
  induction N with
  | zero => exact .inl (fun i h => absurd h (by omega))
  | succ N ih =>
    rcases ih with h | ⟨j, a, b, c⟩
    · by_cases p : P N
      · refine .inl (fun i hi => ?_)
        by_cases q : i = N
        · subst q; exact p
        · exact h i (by omega)
      · exact .inr ⟨N, by omega, p, h⟩
    · exact .inr ⟨j, by omega, b, c⟩
def pwA (A : Nat → Int32) (f : Nat → Int32) (i : Nat) : Nat → Int32 := itr (fun t B => ua B (20 + 6 * t + 3) (f t)) i 0 A
def pcI (A : Nat → Int32) (f : Nat → Int32) (i : Nat) : Int32 := itr (fun t s => if A (20 + 6 * t + 3) = f t then s else s + 1) i 0 0
theorem pwA_s (A f : Nat → Int32) (i : Nat) : pwA A f (i + 1) = ua (pwA A f i) (20 + 6 * i + 3) (f i) := itr_0 _ _ _
theorem pcI_s (A f : Nat → Int32) (i : Nat) : pcI A f (i + 1) = if A (20 + 6 * i + 3) = f i then pcI A f i else pcI A f i + 1 := itr_0 _ _ _
theorem pwA_o (A f : Nat → Int32) : ∀ i j, (∀ t, t < i → j ≠ 20 + 6 * t + 3) → pwA A f i j = A j := by
  intro i
  induction i with
  | zero => intro j _; rfl
  | succ i ih => intro j h; rw [pwA_s, ua_n (h i (by omega))]; exact ih j (fun t ht => h t (by omega))
theorem pwA_n (A f : Nat → Int32) (i : Nat) : nB (pwA A f i) = nB A := by unfold nB; rw [pwA_o _ _ _ _ (fun t ht => by omega)]
theorem pwA_w {A f : Nat → Int32} (hw : WF A) : ∀ i, i ≤ nB A → (∀ t, t < i → sm 99 (f t)) → WF (pwA A f i) := by
  intro i
  induction i with
  | zero => intro _ _; exact hw
  | succ i ih =>
    intro hi hf
    rw [pwA_s]
    exact WF_pw (ih (by omega) (fun t ht => hf t (by omega))) (by rw [pwA_n]; omega) (hf i (by omega))
theorem ua_id (A : Nat → Int32) (j : Nat) : ua A j (A j) = A := by
  funext i
  by_cases c : i = j
  · subst c; rw [ua_s]
  · rw [ua_n c]
theorem x10_takePw {k a : Nat} (hk : k < 4) {A f : Nat → Int32} (hw : WF A) (hF : RF σ 2 A) (ha : a + nB A ≤ 24) (hf : ∀ t, t < nB A → σ (121 + 2 * k) (a + t) = f t ∧ sm 99 (f t)) : Gv (s_X10_takePowers σ (120 + 2 * k) (nI a)) (fun r τ => r = pcI A f (nB A) ∧ RF τ 2 (pwA A f (nB A)) ∧ FB 2 σ τ) := by
  obtain ⟨r1, r2, r3⟩ := sh_l k hk
  have n8 := hw.n8
  unfold s_X10_takePowers
  refine gv_loop0 (fun m i (s : Int32 × Sg) => s_X10_takePowers_5 m s.2 (120 + 2 * k) (nI a) s.1 (nI i)) (nB A) (fun i s => s.1 = pcI A f i ∧ RF s.2 2 (pwA A f i) ∧ FB 2 σ s.2) (a := (0, σ)) (by omega) ⟨rfl, hF, FB.r 2 σ⟩ ?_ ?_
  · intro m i ⟨c, s⟩ hi ⟨p1, p2, p3⟩
    have p1 : c = pcI A f i := p1
    have p2 : RF s 2 (pwA A f i) := p2
    have p3 : FB 2 σ s := p3
    have hwi := pwA_w hw i (by omega) (fun t ht => (hf t (by omega)).2)
    have e0 : s 2 1 = nI (nB A) := by rw [p2.1.n, hwi.n, pwA_n]
    have e1 : s (121 + 2 * k) (a + i) = f i := by rw [p3 _ (by omega)]; exact (hf i hi).1
    have e2 : s (2 + 10 + i) 3 = A (20 + 6 * i + 3) := by
      rw [p2.1.f (by rw [pwA_n]; exact hi) (k := 3) (by omega), pwA_o _ _ _ _ (fun t ht => by omega)]
    by_cases q : A (20 + 6 * i + 3) = f i
    · refine ⟨(c, s), ?_, ?_, ?_, p3⟩
      · simp only [s_X10_takePowers_5]
        simp (disch := omega) only [e0, le_F, ↓reduceIte, nI_add, r2, r3, inb_n, lt_e, cl_nI, r3_, e1, e2, q, nI_1]
      · rw [pcI_s, if_pos q]; exact p1
      · show RF s 2 _
        rw [pwA_s, ← q]
        have : pwA A f i (20 + 6 * i + 3) = A (20 + 6 * i + 3) := pwA_o _ _ _ _ (fun t ht => by omega)
        rw [← this, ua_id]; exact p2
    · refine ⟨(c + 1, up s (2 + 10 + i) 3 (f i)), ?_, ?_, ?_, ?_⟩
      · simp only [s_X10_takePowers_5]
        simp (disch := omega) only [e0, le_F, ↓reduceIte, nI_add, r2, r3, inb_n, lt_e, cl_nI, r3_, e1, e2, q, nI_1]
      · rw [pcI_s, if_neg q]
        show c + 1 = _
        rw [show c = pcI A f i from p1]
      · rw [pwA_s]
        exact RF_p hwi p2 (by rw [pwA_n]; exact hi) (f i)
      · exact FB.t p3 (FB_u (by omega) (by omega))
  · intro m ⟨c, s⟩ ⟨p1, p2, p3⟩
    have p2 : RF s 2 (pwA A f (nB A)) := p2
    have hwi := pwA_w hw (nB A) (by omega) (fun t ht => (hf t (by omega)).2)
    have e0 : s 2 1 = nI (nB A) := by rw [p2.1.n, hwi.n, pwA_n]
    simp only [s_X10_takePowers_5]
    rw [e0, if_pos (nI_le (by omega) (by omega))]
    exact gv_i ⟨p1, p2, p3⟩
theorem m_pw103 {k a : Nat} (hk : k < 4) {A f : Nat → Int32} (hw : WF A) (hA : σ 151 = A) (ha : a + nB A ≤ 24) (hf : ∀ t, t < nB A → σ 157 (24 * k + a + t) = f t) : Gv (s_X11_powers_103 FU σ (nI k) (nI a) (nI (nB A)) 0 0) (fun r τ => r = pcI A f (nB A) ∧ τ 151 = pwA A f (nB A) ∧ ∀ c, c ≠ 151 → τ c = σ c) := by
  have n8 := hw.n8
  refine gv_loop0 (fun m i (s : Int32 × Sg) => s_X11_powers_103 m s.2 (nI k) (nI a) (nI (nB A)) s.1 (nI i)) (nB A) (fun i s => s.1 = pcI A f i ∧ s.2 151 = pwA A f i ∧ ∀ c, c ≠ 151 → s.2 c = σ c) (a := (0, σ)) (by omega) ⟨rfl, hA, fun _ _ => rfl⟩ ?_ ?_
  · intro m i ⟨c, s⟩ hi ⟨p1, p2, p3⟩
    have p1 : c = pcI A f i := p1
    have p2 : s 151 = pwA A f i := p2
    have p3 : ∀ c, c ≠ 151 → s c = σ c := p3
    have e1 : s 157 (24 * k + a + i) = f i := by rw [p3 _ (by omega)]; exact hf i hi
    have e2 : s 151 (20 + 6 * i + 3) = A (20 + 6 * i + 3) := by rw [p2, pwA_o _ _ _ _ (fun t ht => by omega)]
    have e3 : (24 : Int32) * nI k + nI a + nI i = nI (24 * k + a + i) := by
      show nI 24 * nI k + nI a + nI i = _
      rw [pk_mul, nI_add, nI_add]
    refine ⟨(pcI A f (i + 1), up s 151 (20 + 6 * i + 3) (f i)), ?_, rfl, ?_, ?_⟩
    · simp only [s_X11_powers_103, s_X11_blockAt]
      simp (disch := omega) only [le_F, ↓reduceIte, nI_add, inb_n, lt_e, cl_nI, e1, bn_some, NK, becomes_e, e2, nI_1, pcI_s, p1, Int32.add_zero]
      by_cases q : A (20 + 6 * i + 3) = f i
      · rw [if_pos q, if_pos q]
      · rw [if_neg q, if_neg q]
    · rw [pwA_s]
      show up s 151 _ _ 151 = _
      rw [up_f, p2]
    · intro d hd; show up s 151 _ _ d = _; rw [up_d hd]; exact p3 d hd
  · intro m ⟨c, s⟩ ⟨p1, p2, p3⟩
    simp only [s_X11_powers_103]
    rw [if_pos (nI_le (by omega) (by omega))]
    exact gv_i ⟨p1, p2, p3⟩
theorem call_powers (h : InvR σ σ) (x y : Int32) : Call σ (s_X10_powers σ x y) (fun τ => s_X11_powers τ x y) := by
  have hw := h.w
  have n8 := hw.n8
  by_cases c : win x 0 3
  · obtain ⟨k, hk, rfl⟩ := win_n (n := 3) (by omega) rfl c
    obtain ⟨r1, r2, r3⟩ := sh_l k (by omega)
    have i4 : inb (nI k) 4 = true := inb_nI (by omega) (by omega)
    obtain ⟨a0, a1, a2, a3, ⟨z, hz, a4⟩⟩ := h.2.2.2.2.2.1 k (by omega)
    rw [a4] at a1
    have e0 : σ 2 1 = nI (nB (σ 151)) := by rw [h.f.1.n]; exact hw.n
    have e0' : σ 151 0 = nI (nB (σ 151)) := hw.n
    rcases ty_n a3 with ⟨t1, t2, t3⟩ | ⟨t1, t2, t3⟩
    · rw [t1] at a0
      refine call_q h (-1000000011) (bad_c _ _ ?_) (fun τ q => bad_m _ _ ?_)
      · unfold s_X10_powers
        rw [isSh_e, wI_1 c, bn_some, if_neg n10, if_pos i4, cl_nI (by omega), r1, lt_e, lt_e, if_pos a0]
      · have h5 : τ 155 = σ 155 := q.m (by omega)
        unfold s_X11_powers
        rw [isShm_e, wI_1 c, bn_some, if_neg n10, if_pos i4, cl_nI (by omega), h5, if_neg t3]
    · by_cases g1 : rnP y (nI (nB (σ 151))) z
      · obtain ⟨a, b, q1, rfl, q2⟩ := rn_n (by omega) g1
        have q3 : nB (σ 151) = b := (nI_eq (by omega) (by omega)).mp q2
        subst q3
        have ny : ¬ nI a < 0 := nI_pos (by omega)
        have t1' : ¬ σ (120 + 2 * k) 0 = -1 := by rw [a0]; exact t1
        have cX : s_X10_powers σ (nI k) (nI a) = s_X10_powers_58 FU σ (nI a) (120 + 2 * k) (nI (nB (σ 151))) 0 := by
          unfold s_X10_powers
          rw [isSh_e, wI_1 c, bn_some, if_neg n10, if_pos i4, cl_nI (by omega), r1, lt_e, lt_e, if_neg t1', e0, (run_c hz a1 _ _).1 g1, bn_some, if_neg n10]
        have cY : ∀ τ : Sg, τ 155 = σ 155 → τ 156 = σ 156 → τ 151 = σ 151 → s_X11_powers τ (nI k) (nI a) = s_X11_powers_57 FU τ (nI k) (nI a) (nI (nB (σ 151))) 0 := by
          intro τ h5 h6 h1
          have m1 : lg_cmp ((nI a).toInt64 + (nI (nB (σ 151))).toInt64) (nI z).toInt64 ≤ 0 := by
            rw [run_m' _ _ hz]
            have := g1.2.2
            omega
          unfold s_X11_powers
          rw [isShm_e, wI_1 c, bn_some, if_neg n10, if_pos i4, cl_nI (by omega), h5, if_pos t3, h1, e0', lt_e, if_neg ny, if_pos i4, h6, a4, if_pos m1]
        have s58 : ∀ m i, i < nB (σ 151) → s_X10_powers_58 (m + 1) σ (nI a) (120 + 2 * k) (nI (nB (σ 151))) (nI i) = (if wI (σ (121 + 2 * k) (a + i)) 0 99 = 0 then some (-1000000012, σ) else s_X10_powers_58 m σ (nI a) (120 + 2 * k) (nI (nB (σ 151))) (nI (i + 1))) := by
          intro m i hi
          simp only [s_X10_powers_58]
          rw [if_neg (nI_ge hi (by omega)), nI_add, r2, r3, if_pos (inb_nI (by omega) (by omega)), cl_nI (by omega), isPw_e, bn_some, nI_1]
        have s57 : ∀ (τ : Sg), τ 157 = σ 157 → ∀ m i, i < nB (σ 151) → s_X11_powers_57 (m + 1) τ (nI k) (nI a) (nI (nB (σ 151))) (nI i) = (if wI (σ (121 + 2 * k) (a + i)) 0 99 = 0 then some (-1000000012, τ) else s_X11_powers_57 m τ (nI k) (nI a) (nI (nB (σ 151))) (nI (i + 1))) := by
          intro τ h7 m i hi
          have e3 : (24 : Int32) * nI k + nI a + nI i = nI (24 * k + a + i) := by
            show nI 24 * nI k + nI a + nI i = _
            rw [pk_mul, nI_add, nI_add]
          simp only [s_X11_powers_57]
          rw [if_neg (nI_ge hi (by omega)), e3, if_pos (inb_nI (by omega) (by omega)), cl_nI (by omega), isIn_0_99, bn_some, nI_1, h7, a2 _ (by omega), ← Nat.add_assoc]
        rcases leastN (P := fun i => win (σ (121 + 2 * k) (a + i)) 0 99) (nB (σ 151)) with hall | ⟨j, j1, j2, j3⟩
        · have hf : ∀ t, t < nB (σ 151) → σ (121 + 2 * k) (a + t) = σ 157 (24 * k + a + t) ∧ sm 99 (σ 157 (24 * k + a + t)) := by
            intro t ht
            have e : σ (121 + 2 * k) (a + t) = σ 157 (24 * k + a + t) := by rw [a2 _ (by omega), ← Nat.add_assoc]
            have := hall t ht
            rw [e] at this
            exact ⟨e, win_n (n := 99) (by omega) rfl this⟩
          refine call_g (fun r τ => r = pcI (σ 151) (fun t => σ 157 (24 * k + a + t)) (nB (σ 151)) ∧ RF τ 2 (pwA (σ 151) (fun t => σ 157 (24 * k + a + t)) (nB (σ 151))) ∧ FB 2 σ τ) ?_ (fun r τ p => p.2.2 _ (by omega)) ?_
          · rw [cX]
            refine gv_e (loop0 (fun m i (_ : Unit) => s_X10_powers_58 m σ (nI a) (120 + 2 * k) (nI (nB (σ 151))) (nI i)) (fun _ => bn (s_X10_takePowers σ (120 + 2 * k) (nI a)) fun v2 s1 => some (v2, s1)) (fun _ u => u) (nB (σ 151)) () (by omega) ?_ ?_) ?_
            · intro m i _ hi
              show s_X10_powers_58 _ _ _ _ _ _ = _
              rw [s58 m i hi, wI_1 (hall i hi), if_neg n10]
            · intro m _
              show s_X10_powers_58 _ _ _ _ _ _ = _
              simp only [s_X10_powers_58]
              rw [if_pos (nI_le (by omega) (by omega))]
            · refine gv_n (x10_takePw (by omega) hw h.f (by omega) hf) ?_
              intro r τ p
              exact gv_i p
          · intro r τ ⟨hr, p1, p2⟩
            show Gv (s_X11_powers _ _ _) _
            rw [cY τ (p2 _ (by omega)) (p2 _ (by omega)) (p2 _ (by omega))]
            refine gv_e (loop0 (fun m i (_ : Unit) => s_X11_powers_57 m τ (nI k) (nI a) (nI (nB (σ 151))) (nI i)) (fun _ => s_X11_powers_103 FU τ (nI k) (nI a) (nI (nB (σ 151))) 0 0) (fun _ u => u) (nB (σ 151)) () (by omega) ?_ ?_) ?_
            · intro m i _ hi
              show s_X11_powers_57 _ _ _ _ _ _ = _
              rw [s57 τ (p2 _ (by omega)) m i hi, wI_1 (hall i hi), if_neg n10]
            · intro m _
              show s_X11_powers_57 _ _ _ _ _ _ = _
              simp only [s_X11_powers_57]
              rw [if_pos (nI_le (by omega) (by omega))]
            · refine gv_w (m_pw103 (σ := τ) (k := k) (a := a) (f := fun t => σ 157 (24 * k + a + t)) (by omega) hw (p2 _ (by omega)) (by omega) (fun t ht => by rw [p2 _ (by omega)])) ?_
              intro r2 ρ ⟨u1, u2, u3⟩
              have e : ∀ d, d < 2 ∨ 20 ≤ d → d ≠ 151 → ρ d = σ d := fun d p q => by rw [u3 d q, p2 d (by omega)]
              refine ⟨by rw [u1, hr], ?_, e _ (by omega) (by omega)⟩
              refine inv_b h u2 (pwA_w hw _ (Nat.le_refl _) (fun t ht => (hf t ht).2)) (fun j hj => pwA_o _ _ _ _ (fun t ht => by omega)) ?_ ?_ (fun c a b d f => e c (by omega) (by omega)) (by rw [e _ (by omega) (by omega)]) ⟨by rw [e _ (by omega) (by omega)], by rw [e _ (by omega) (by omega)], by rw [e _ (by omega) (by omega)]⟩
              · exact RF_c p1 (by rw [pwA_n]; exact n8) (fun c a b d => u3 c (by omega))
              · exact TRL_k h.2.2.2.1 (pwA_n _ _ _) (fun p hp => ⟨pwA_o _ _ _ _ (fun t ht => by omega), pwA_o _ _ _ _ (fun t ht => by omega), pwA_o _ _ _ _ (fun t ht => by omega)⟩) (fun c a b => e c (by omega) (by omega)) (by rw [e _ (by omega) (by omega)]) (e _ (by omega) (by omega))
        · refine call_q h (-1000000012) (bad_c _ _ ?_) (fun τ q => bad_m _ _ ?_)
          · rw [cX]
            refine loop0 (fun m i (_ : Unit) => s_X10_powers_58 m σ (nI a) (120 + 2 * k) (nI (nB (σ 151))) (nI i)) (fun _ => some (-1000000012, σ)) (fun _ u => u) j () (by omega) ?_ ?_
            · intro m i _ hi
              show s_X10_powers_58 _ _ _ _ _ _ = _
              rw [s58 m i (by omega), wI_1 (j3 i hi), if_neg n10]
            · intro m _
              show s_X10_powers_58 _ _ _ _ _ _ = _
              rw [s58 m j j1, wI_0 j2, if_pos rfl]
          · rw [cY τ (q.m (by omega)) (q.m (by omega)) (q.m (by omega))]
            refine loop0 (fun m i (_ : Unit) => s_X11_powers_57 m τ (nI k) (nI a) (nI (nB (σ 151))) (nI i)) (fun _ => some (-1000000012, τ)) (fun _ u => u) j () (by omega) ?_ ?_
            · intro m i _ hi
              show s_X11_powers_57 _ _ _ _ _ _ = _
              rw [s57 τ (q.m (by omega)) m i (by omega), wI_1 (j3 i hi), if_neg n10]
            · intro m _
              show s_X11_powers_57 _ _ _ _ _ _ = _
              rw [s57 τ (q.m (by omega)) m j j1, wI_0 j2, if_pos rfl]
      · have t1' : ¬ σ (120 + 2 * k) 0 = -1 := by rw [a0]; exact t1
        refine call_q h (-1000000013) (bad_c _ _ ?_) (fun τ q => bad_m _ _ ?_)
        · unfold s_X10_powers
          rw [isSh_e, wI_1 c, bn_some, if_neg n10, if_pos i4, cl_nI (by omega), r1, lt_e, lt_e, if_neg t1', e0, (run_c hz a1 _ _).2 g1, bn_some, if_pos rfl]
        · have h5 : τ 155 = σ 155 := q.m (by omega)
          have h6 : τ 156 = σ 156 := q.m (by omega)
          have h1 : τ 151 = σ 151 := q.m (by omega)
          unfold s_X11_powers
          rw [isShm_e, wI_1 c, bn_some, if_neg n10, if_pos i4, cl_nI (by omega), h5, if_pos t3, h1, e0', lt_e]
          by_cases k1 : y < 0
          · rw [if_pos k1]
          · rw [if_neg k1, if_pos i4, h6, a4]
            rw [lt_t, t0] at k1
            have m2 : ¬ lg_cmp (y.toInt64 + (nI (nB (σ 151))).toInt64) (nI z).toInt64 ≤ 0 := by
              rw [run_m' _ _ hz]
              intro f
              refine g1 ⟨by omega, ?_, by omega⟩
              rw [nI_toInt (by omega)]
              omega
            rw [if_neg m2]
  · refine call_q h (-1000000001) (bad_c _ _ ?_) (fun τ q => bad_m _ _ ?_)
    · unfold s_X10_powers
      rw [isSh_e, wI_0 c, bn_some, if_pos rfl]
    · unfold s_X11_powers
      rw [isShm_e, wI_0 c, bn_some, if_pos rfl]
end pws
