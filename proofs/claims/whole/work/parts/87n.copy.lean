section cp
variable {σ : Sg}
def rnP (x n : Int32) (z : Nat) : Prop := 0 ≤ x.toInt ∧ 0 ≤ n.toInt ∧ x.toInt + n.toInt ≤ (z : Int)
theorem t0 : (0 : Int32).toInt = 0 := by decide
theorem nI_oft {x : Int32} {z : Nat} (hz : z < 2 ^ 31) (h0 : 0 ≤ x.toInt) (h : x.toInt ≤ (z : Int)) : ∃ a, a ≤ z ∧ x = nI a := by
  refine win_n (n := z) hz rfl ⟨?_, ?_⟩
  · rw [le_t, t0]; exact h0
  · rw [le_t, nI_toInt hz]; exact h
theorem rn_n {x n : Int32} {z : Nat} (hz : z < 2 ^ 31) (h : rnP x n z) : ∃ a b, a + b ≤ z ∧ x = nI a ∧ n = nI b := by
  obtain ⟨h1, h2, h3⟩ := h
  obtain ⟨a, ha, rfl⟩ := nI_oft (x := x) hz h1 (by omega)
  obtain ⟨b, hb, rfl⟩ := nI_oft (x := n) hz h2 (by omega)
  rw [nI_toInt (by omega), nI_toInt (by omega)] at h3
  exact ⟨a, b, by omega, rfl, rfl⟩
theorem run_c {c z : Nat} (hz : z ≤ 24) (h : σ c 1 = nI z) (x n : Int32) : (rnP x n z → s_X5_hasRun σ c x n = some (1, σ)) ∧ (¬ rnP x n z → s_X5_hasRun σ c x n = some (0, σ)) := by
  unfold s_X5_hasRun
  rw [h]
  by_cases a : x < 0
  · rw [if_pos a]
    refine ⟨fun d => ?_, fun _ => rfl⟩
    rw [lt_t, t0] at a
    have := d.1
    omega
  · rw [if_neg a]
    rw [lt_t, t0] at a
    by_cases b : n < 0
    · rw [if_pos b]
      refine ⟨fun d => ?_, fun _ => rfl⟩
      rw [lt_t, t0] at b
      have := d.2.1
      omega
    · rw [if_neg b]
      rw [lt_t, t0] at b
      by_cases d : nI z < n
      · rw [if_pos d]
        refine ⟨fun f => ?_, fun _ => rfl⟩
        rw [lt_t, nI_toInt (by omega)] at d
        have := f.2.2
        omega
      · rw [if_neg d]
        rw [lt_t, nI_toInt (by omega)] at d
        obtain ⟨m, hm, rfl⟩ := nI_oft (x := n) (z := z) (by omega) (by omega) (by omega)
        rw [pk_sub hm]
        by_cases g : nI (z - m) < x
        · rw [if_pos g]
          refine ⟨fun f => ?_, fun _ => rfl⟩
          rw [lt_t, nI_toInt (by omega)] at g
          have := f.2.2
          rw [nI_toInt (by omega)] at this
          omega
        · rw [if_neg g]
          refine ⟨fun _ => rfl, fun f => ?_⟩
          rw [lt_t, nI_toInt (by omega)] at g
          exfalso
          refine f ⟨by omega, by omega, ?_⟩
          rw [nI_toInt (by omega)]
          omega
theorem l64a (x n : Int32) : (x.toInt64 + n.toInt64).toInt = x.toInt + n.toInt := by
  rw [Int64.toInt_add, l64, l64]
  have a1 := Int32.toInt_lt x
  have a2 := Int32.le_toInt x
  have b1 := Int32.toInt_lt n
  have b2 := Int32.le_toInt n
  refine Int.bmod_eq_of_le (by omega) (by omega)
theorem run_m (x n : Int32) {z : Nat} (hz : z ≤ 24) : (0 < lg_cmp (x.toInt64 + n.toInt64) (nI z).toInt64) = ((z : Int) < x.toInt + n.toInt) := by
  simp only [lg_cmp_gt, Int64.lt_iff_toInt_lt, l64, l64a, nI_toInt (show z < 2 ^ 31 by omega)]
theorem run_m' (x n : Int32) {z : Nat} (hz : z ≤ 24) : (lg_cmp (x.toInt64 + n.toInt64) (nI z).toInt64 ≤ 0) = ¬ ((z : Int) < x.toInt + n.toInt) := by
  rw [← run_m x n hz]
  exact propext lt_le.symm
theorem m_cp150 (σ : Sg) {l w n : Nat} (hl : l < 4) (hw : w + n ≤ 24) : Gv (s_X11_copy_150 FU σ (nI l) (nI w) (nI n) 0) (fun r τ => r = nI n ∧ (∀ i, i < n → τ 157 (24 * l + w + i) = σ 170 i) ∧ (∀ j, j < 24 * l + w ∨ 24 * l + w + n ≤ j → τ 157 j = σ 157 j) ∧ ∀ c, c ≠ 157 → τ c = σ c) := by
  refine gv_loop0 (fun m i a => s_X11_copy_150 m a (nI l) (nI w) (nI n) (nI i)) n (fun i a => (∀ j, j < i → a 157 (24 * l + w + j) = σ 170 j) ∧ (∀ j, j < 24 * l + w ∨ 24 * l + w + n ≤ j → a 157 j = σ 157 j) ∧ ∀ c, c ≠ 157 → a c = σ c) (by omega) ⟨fun _ a => absurd a (by omega), fun _ _ => rfl, fun _ _ => rfl⟩ ?_ ?_
  · intro m i a hi ⟨p1, p2, p3⟩
    refine ⟨up a 157 (24 * l + w + i) (a 170 i), ?_, ?_, ?_, ?_⟩
    · simp only [s_X11_copy_150]
      have e1 : (24 : Int32) * nI l + nI w + nI i = nI (24 * l + w + i) := by
        show nI 24 * nI l + nI w + nI i = _
        rw [pk_mul, nI_add, nI_add]
      rw [if_neg (nI_ge hi (by omega)), e1, if_pos (inb_nI (by omega) (by omega)), if_pos (inb_nI (by omega) (by omega)), lt_e, cl_nI (by omega), cl_nI (by omega), nI_1]
    · intro j hj
      rw [up_f]
      by_cases q : j = i
      · subst q; rw [ua_s, p3 _ (by omega)]
      · rw [ua_n (by omega)]; exact p1 j (by omega)
    · intro j hj; rw [up_f, ua_n (by omega)]; exact p2 j hj
    · intro c hc; rw [up_d hc]; exact p3 c hc
  · intro m a ⟨p1, p2, p3⟩
    simp only [s_X11_copy_150]
    rw [if_pos (nI_le (by omega) (by omega))]
    exact gv_i ⟨rfl, p1, p2, p3⟩
theorem m_cp113 (σ : Sg) {k l y w n : Nat} (hk : k < 4) (hl : l < 4) (hy : y + n ≤ 24) (hw : w + n ≤ 24) : Gv (s_X11_copy_113 FU σ (nI k) (nI y) (nI l) (nI w) (nI n) 0) (fun r τ => r = nI n ∧ (∀ i, i < n → τ 157 (24 * l + w + i) = σ 157 (24 * k + y + i)) ∧ (∀ j, j < 24 * l + w ∨ 24 * l + w + n ≤ j → τ 157 j = σ 157 j) ∧ ∀ c, c ≠ 157 → c ≠ 170 → τ c = σ c) := by
  refine gv_loop0 (fun m i a => s_X11_copy_113 m a (nI k) (nI y) (nI l) (nI w) (nI n) (nI i)) n (fun i a => (∀ j, j < i → a 170 j = σ 157 (24 * k + y + j)) ∧ ∀ c, c ≠ 170 → a c = σ c) (by omega) ⟨fun _ a => absurd a (by omega), fun _ _ => rfl⟩ ?_ ?_
  · intro m i a hi ⟨p1, p3⟩
    refine ⟨up a 170 i (a 157 (24 * k + y + i)), ?_, ?_, ?_⟩
    · simp only [s_X11_copy_113]
      have e1 : (24 : Int32) * nI k + nI y + nI i = nI (24 * k + y + i) := by
        show nI 24 * nI k + nI y + nI i = _
        rw [pk_mul, nI_add, nI_add]
      rw [if_neg (nI_ge hi (by omega)), e1, if_pos (inb_nI (by omega) (by omega)), if_pos (inb_nI (by omega) (by omega)), lt_e, cl_nI (by omega), cl_nI (by omega), nI_1]
    · intro j hj
      rw [up_f]
      by_cases q : j = i
      · subst q; rw [ua_s, p3 _ (by omega)]
      · rw [ua_n (by omega)]; exact p1 j (by omega)
    · intro c hc; rw [up_d hc]; exact p3 c hc
  · intro m a ⟨p1, p3⟩
    simp only [s_X11_copy_113]
    rw [if_pos (nI_le (by omega) (by omega))]
    refine gv_w (m_cp150 a hl hw) ?_
    intro r τ ⟨q0, q1, q2, q3⟩
    refine ⟨q0, fun i hi => by rw [q1 i hi]; exact p1 i hi, fun j hj => by rw [q2 j hj, p3 _ (by omega)], fun c a b => by rw [q3 c a, p3 c b]⟩
theorem ty_n {v : Int32} (h : v = -1 ∨ sm 2 v) : (v = -1 ∧ v < 0 ∧ ¬ 0 ≤ v) ∨ (¬ v = -1 ∧ ¬ v < 0 ∧ 0 ≤ v) := by
  rcases ty_c h with ⟨a, b⟩ | ⟨a, b⟩
  · exact .inl ⟨a, le_lt.mp b, b⟩
  · exact .inr ⟨a, lt_le.mpr b, b⟩
theorem call_copy (h : InvR σ σ) (x y z u v : Int32) : Call σ (s_X10_copy σ x y z u v) (fun τ => s_X11_copy τ x y z u v) := by
  by_cases c : win x 0 3
  · obtain ⟨k, hk, rfl⟩ := win_n (n := 3) (by omega) rfl c
    obtain ⟨r1, r2, r3⟩ := sh_l k (by omega)
    have i4 : inb (nI k) 4 = true := inb_nI (by omega) (by omega)
    obtain ⟨a0, a1, a2, a3, ⟨n, hn, a4⟩⟩ := h.2.2.2.2.2.1 k (by omega)
    rw [a4] at a1
    by_cases d : win z 0 3
    · obtain ⟨l, hl, rfl⟩ := win_n (n := 3) (by omega) rfl d
      obtain ⟨s1, s2, s3⟩ := sh_l l (by omega)
      have j4 : inb (nI l) 4 = true := inb_nI (by omega) (by omega)
      obtain ⟨b0, b1, b2, b3, ⟨o, ho, b4⟩⟩ := h.2.2.2.2.2.1 l (by omega)
      rw [b4] at b1
      rcases ty_n a3 with ⟨t1, t2, t3⟩ | ⟨t1, t2, t3⟩
      · refine call_q h (-1000000011) (bad_c _ _ ?_) (fun τ q => bad_m _ _ ?_)
        · unfold s_X10_copy
          simp (disch := omega) only [isSh_e, wI_1 c, wI_1 d, bn_some, n10, ↓reduceIte, i4, j4, cl_nI, r1, s1, lt_e, a0, t1]
        · have h5 : τ 155 = σ 155 := q.m (by omega)
          unfold s_X11_copy
          rw [isShm_e, wI_1 c, bn_some, if_neg n10, isShm_e, wI_1 d, bn_some, if_neg n10, if_pos i4, cl_nI (by omega), h5, if_pos t2]
      · rcases ty_n b3 with ⟨w1, w2, w3⟩ | ⟨w1, w2, w3⟩
        · refine call_q h (-1000000011) (bad_c _ _ ?_) (fun τ q => bad_m _ _ ?_)
          · unfold s_X10_copy
            simp (disch := omega) only [isSh_e, wI_1 c, wI_1 d, bn_some, n10, ↓reduceIte, i4, j4, cl_nI, r1, s1, lt_e, a0, t1, b0, w1]
          · have h5 : τ 155 = σ 155 := q.m (by omega)
            unfold s_X11_copy
            rw [isShm_e, wI_1 c, bn_some, if_neg n10, isShm_e, wI_1 d, bn_some, if_neg n10, if_pos i4, cl_nI (by omega), h5, if_neg t2, if_pos j4, cl_nI (by omega), if_neg w3]
        · by_cases te : σ 155 k = σ 155 l
          · have te' : σ (120 + 2 * k) 0 = σ (120 + 2 * l) 0 := by rw [a0, b0, te]
            by_cases g1 : rnP y v n
            · by_cases g2 : rnP u v o
              · obtain ⟨y', v', q1, rfl, rfl⟩ := rn_n (by omega) g1
                obtain ⟨u', v2, q2, rfl, ev⟩ := rn_n (by omega) g2
                have ev2 : v' = v2 := (nI_eq (by omega) (by omega)).mp ev
                subst ev2
                refine call_g (fun r τ => r = nI v' ∧ τ = cpy σ (121 + 2 * k) (121 + 2 * l) y' u' v') ?_ (fun r τ p => by rw [p.2, cpy_d (by omega)]) ?_
                · have ck : cpk (nI y') (nI u') (nI v') 24 24 = true := by
                    unfold cpk
                    rw [cl_nI (by omega), cl_nI (by omega), cl_nI (by omega)]
                    have e1 : ¬ nI y' < 0 := nI_pos (by omega)
                    have e2 : ¬ nI u' < 0 := nI_pos (by omega)
                    have e3 : ¬ nI v' < 0 := nI_pos (by omega)
                    have e4 : Nat.ble (y' + v') 24 = true := Nat.ble_eq.mpr (by omega)
                    have e5 : Nat.ble (u' + v') 24 = true := Nat.ble_eq.mpr (by omega)
                    simp only [e1, e2, e3, e4, e5]
                    rfl
                  unfold s_X10_copy
                  simp (disch := omega) only [isSh_e, wI_1 c, wI_1 d, bn_some, n10, ↓reduceIte, i4, j4, cl_nI, r1, s1, lt_e, a0, t1, b0, w1, te, (run_c hn a1 _ _).1 g1, (run_c ho b1 _ _).1 g2, r2, r3, s2, s3, ck]
                  exact gv_i ⟨rfl, rfl⟩
                · intro r τ ⟨hr, ht⟩
                  subst hr
                  have tc : ∀ c, c ≠ 121 + 2 * l → τ c = σ c := fun c hc => by rw [ht, cpy_d hc]
                  have h5 : τ 155 = σ 155 := tc _ (by omega)
                  have h6 : τ 156 = σ 156 := tc _ (by omega)
                  have h7 : τ 157 = σ 157 := tc _ (by omega)
                  have e1 : ¬ nI y' < 0 := nI_pos (by omega)
                  have e2 : ¬ nI u' < 0 := nI_pos (by omega)
                  have e3 : ¬ nI v' < 0 := nI_pos (by omega)
                  have g3 : ¬ (n : Int) < (nI y').toInt + (nI v').toInt := by have := g1.2.2; omega
                  have g4 : ¬ (o : Int) < (nI u').toInt + (nI v').toInt := by have := g2.2.2; omega
                  show Gv (s_X11_copy _ _ _ _ _ _) _
                  unfold s_X11_copy
                  simp (disch := omega) only [isShm_e, wI_1 c, wI_1 d, bn_some, n10, ↓reduceIte, i4, j4, cl_nI, h5, t2, w3, te, e1, e2, e3, h6, a4, b4, run_m _ _ hn, run_m' _ _ ho, g3, g4, not_false_eq_true]
                  rw [← te]
                  simp only [t2, t3, ↓reduceIte]
                  refine gv_w (m_cp113 τ (by omega) (by omega) (by omega) (by omega)) ?_
                  intro r ρ ⟨p0, p1, p2, p3⟩
                  refine ⟨p0, inv_sh h (fun c a b d f g => by rw [p3 c f g, tc c (by omega)]) ?_, by rw [p3 _ (by omega) (by omega), tc _ (by omega)]⟩
                  intro i hi
                  rw [p3 155 (by omega) (by omega), p3 156 (by omega) (by omega), p3 (120 + 2 * i) (by omega) (by omega), p3 (121 + 2 * i) (by omega) (by omega), h5, h6, tc (120 + 2 * i) (by omega)]
                  obtain ⟨f0, f1, f2, f3, f4⟩ := h.2.2.2.2.2.1 i hi
                  refine ⟨f0, f1, fun t htt => ?_, f3, f4⟩
                  by_cases q : i = l
                  · subst q
                    rw [ht, cpy_f]
                    unfold ub
                    by_cases q2 : u' ≤ t ∧ t < u' + v'
                    · rw [if_pos q2]
                      obtain ⟨t', rfl⟩ : ∃ t', t = u' + t' := ⟨t - u', by omega⟩
                      rw [← Nat.add_assoc, p1 t' (by omega), h7, a2 _ (by omega)]
                      rw [show y' + (u' + t' - u') = y' + t' by omega, ← Nat.add_assoc]
                    · rw [if_neg q2, p2 _ (by omega), h7]; exact f2 t htt
                  · rw [tc _ (by omega), p2 _ (by omega), h7]; exact f2 t htt
              · refine call_q h (-1000000013) (bad_c _ _ ?_) (fun τ q => bad_m _ _ ?_)
                · unfold s_X10_copy
                  simp (disch := omega) only [isSh_e, wI_1 c, wI_1 d, bn_some, n10, ↓reduceIte, i4, j4, cl_nI, r1, s1, lt_e, a0, t1, b0, w1, te, (run_c hn a1 _ _).1 g1, (run_c ho b1 _ _).2 g2]
                · have h5 : τ 155 = σ 155 := q.m (by omega)
                  have h6 : τ 156 = σ 156 := q.m (by omega)
                  have t3' : 0 ≤ σ 155 l := w3
                  unfold s_X11_copy
                  rw [isShm_e, wI_1 c, bn_some, if_neg n10, isShm_e, wI_1 d, bn_some, if_neg n10, if_pos i4, cl_nI (by omega), h5, if_neg t2, if_pos j4, cl_nI (by omega), if_pos w3, if_pos i4, if_pos j4, if_pos te]
                  by_cases k1 : y < 0
                  · rw [if_pos k1]
                  · by_cases k2 : u < 0
                    · rw [if_neg k1, if_pos k2]
                    · by_cases k3 : v < 0
                      · rw [if_neg k1, if_neg k2, if_pos k3]
                      · rw [if_neg k1, if_neg k2, if_neg k3]
                        rw [lt_t, t0] at k1 k2 k3
                        have g3 : ¬ (n : Int) < y.toInt + v.toInt := by have := g1.2.2; omega
                        have g4 : ¬ ¬ (o : Int) < u.toInt + v.toInt := by
                          intro f
                          exact g2 ⟨by omega, by omega, by omega⟩
                        have m1 := g3
                        rw [← run_m _ _ hn] at m1
                        have m2 := g4
                        rw [← run_m' _ _ ho] at m2
                        rw [if_pos i4, h6, a4, if_neg m1, if_pos j4, b4, if_neg m2]
            · refine call_q h (-1000000013) (bad_c _ _ ?_) (fun τ q => bad_m _ _ ?_)
              · unfold s_X10_copy
                simp (disch := omega) only [isSh_e, wI_1 c, wI_1 d, bn_some, n10, ↓reduceIte, i4, j4, cl_nI, r1, s1, lt_e, a0, t1, b0, w1, te, (run_c hn a1 _ _).2 g1]
              · have h5 : τ 155 = σ 155 := q.m (by omega)
                have h6 : τ 156 = σ 156 := q.m (by omega)
                unfold s_X11_copy
                rw [isShm_e, wI_1 c, bn_some, if_neg n10, isShm_e, wI_1 d, bn_some, if_neg n10, if_pos i4, cl_nI (by omega), h5, if_neg t2, if_pos j4, cl_nI (by omega), if_pos w3, if_pos i4, if_pos j4, if_pos te]
                by_cases k1 : y < 0
                · rw [if_pos k1]
                · by_cases k2 : u < 0
                  · rw [if_neg k1, if_pos k2]
                  · by_cases k3 : v < 0
                    · rw [if_neg k1, if_neg k2, if_pos k3]
                    · rw [if_neg k1, if_neg k2, if_neg k3]
                      rw [lt_t, t0] at k1 k2 k3
                      have g3 : (n : Int) < y.toInt + v.toInt := by
                        have : ¬ ¬ (n : Int) < y.toInt + v.toInt := by
                          intro f
                          exact g1 ⟨by omega, by omega, by omega⟩
                        omega
                      rw [← run_m _ _ hn] at g3
                      rw [if_pos i4, h6, a4, if_pos g3]
          · refine call_q h (-1000000012) (bad_c _ _ ?_) (fun τ q => bad_m _ _ ?_)
            · unfold s_X10_copy
              simp (disch := omega) only [isSh_e, wI_1 c, wI_1 d, bn_some, n10, ↓reduceIte, i4, j4, cl_nI, r1, s1, lt_e, a0, t1, b0, w1, te]
            · have h5 : τ 155 = σ 155 := q.m (by omega)
              unfold s_X11_copy
              rw [isShm_e, wI_1 c, bn_some, if_neg n10, isShm_e, wI_1 d, bn_some, if_neg n10, if_pos i4, cl_nI (by omega), h5, if_neg t2, if_pos j4, cl_nI (by omega), if_pos w3, if_pos i4, if_pos j4, if_neg te]
    · refine call_q h (-1000000001) (bad_c _ _ ?_) (fun τ q => bad_m _ _ ?_)
      · unfold s_X10_copy
        rw [isSh_e, wI_1 c, bn_some, if_neg n10, isSh_e, wI_0 d, bn_some, if_pos rfl]
      · unfold s_X11_copy
        rw [isShm_e, wI_1 c, bn_some, if_neg n10, isShm_e, wI_0 d, bn_some, if_pos rfl]
  · refine call_q h (-1000000001) (bad_c _ _ ?_) (fun τ q => bad_m _ _ ?_)
    · unfold s_X10_copy
      rw [isSh_e, wI_0 c, bn_some, if_pos rfl]
    · unfold s_X11_copy
      rw [isShm_e, wI_0 c, bn_some, if_pos rfl]
end cp
