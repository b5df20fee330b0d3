section wk
variable {σ : Sg}
theorem mv_o {A : Nat → Int32} (hw : WF A) {m p q j : Nat} (hp : p < nB A) (hq : m ≤ 2 → q < nB A) (hj : j = 2 ∨ j = 3 ∨ 110 ≤ j) : mvA A m p q j = A j := by
  have n8 := hw.n8
  unfold mvA
  by_cases m0 : m = 0
  · have := hq (by omega)
    rw [if_pos m0, sw_o (by omega) (by omega)]
  · by_cases m1 : m = 1
    · have := hq (by omega)
      rw [if_neg m0, if_pos m1, sw_o (by omega) (by omega)]
    · by_cases m2 : m = 2
      · have hq' := hq (by omega)
        have a1 := hw.pl1 hp
        have a2 := hw.pl1 hq'
        have a3 := hw.pl2 hp
        have a4 := hw.pl2 hq'
        rw [if_neg m0, if_neg m1, if_pos m2, sw_o (by omega) (by omega), sw_o (by omega) (by omega)]
      · by_cases m3 : m = 3
        · rw [if_neg m0, if_neg m1, if_neg m2, if_pos m3, ua_n (by omega)]
        · rw [if_neg m0, if_neg m1, if_neg m2, if_neg m3, ua_n (by omega)]
theorem step_o {A : Nat → Int32} (hw : WF A) (hn : 0 < nB A) (heat : Int32) {j : Nat} (hj : j = 2 ∨ j = 3 ∨ 110 ≤ j) : stepA A heat j = A j := by
  have n8 := hw.n8
  have hz := (WF_st hw hn).1
  have nz : nB (ua A 4 (zS A)) = nB A := by unfold nB; rw [ua_n (by omega)]
  obtain ⟨_, _, _, _, sp, sq⟩ := st_r hn n8
  have e1 : ua A 4 (zS A) j = A j := ua_n (by omega)
  have e2 : stB A j = A j := by
    unfold stB
    rw [mv_o hz (by rw [nz]; exact sp) (fun _ => by rw [nz]; exact sq) hj]; exact e1
  unfold stepA
  split
  · exact e1
  · split
    · exact e2
    · exact e1
theorem walk_o {A : Nat → Int32} (hw : WF A) (hn : 0 < nB A) (heat : Int32) {j : Nat} (hj : j = 2 ∨ j = 3 ∨ 110 ≤ j) : ∀ n, walkA A heat n j = A j := by
  intro n
  induction n with
  | zero => rfl
  | succ n ih =>
    obtain ⟨w1, w2⟩ := walk_w hw hn heat n
    rw [walk_s, step_o w1 (by omega) heat hj]; exact ih
theorem TRL_0 {ρ : Sg} {A B : Nat → Int32} (h : TRL σ σ A) (e4 : ρ 110 4 = 0) (e3 : ρ 110 3 = σ 110 3) (e5 : ρ 150 5 = 0) : TRL ρ ρ B := by
  obtain ⟨E, l, ⟨a1, nx, a2, a3, a4⟩, b, d⟩ := h
  exact ⟨[], Nat.zero_le _, ⟨e4, nx, a2, by rw [e3]; exact a3, fun i e h => by simp at h⟩, ⟨e5, fun i e h => by simp at h⟩, trivial⟩
theorem call_walk (h : InvR σ σ) (x y : Int32) : Call σ (s_X10_walk σ x y) (fun τ => s_X11_walk τ x y) := by
  have hw := h.w
  have n8 := hw.n8
  have e0 : σ 2 1 = nI (nB (σ 151)) := by rw [h.f.1.n]; exact hw.n
  have e0' : σ 151 0 = nI (nB (σ 151)) := hw.n
  by_cases c : win x 1 200
  · obtain ⟨n, hn, rfl⟩ := win_n (n := 200) (by omega) rfl (⟨Int32.le_trans (by decide) c.1, c.2⟩ : win x 0 200)
    by_cases c2 : win y 0 9999
    · by_cases z : nB (σ 151) = 0
      · refine call_q h (-1000000002) (bad_c _ _ ?_) (fun τ q => bad_m _ _ ?_)
        · unfold s_X10_walk
          rw [within_e, wI_1 c, bn_some, if_neg n10, within_e, wI_1 c2, bn_some, if_neg n10, e0, z, if_pos (show nI 0 = 0 from rfl)]
        · unfold s_X11_walk
          rw [isIn_1_200, wI_1 c, bn_some, if_neg n10, isIn_0_9999, wI_1 c2, bn_some, if_neg n10, q.m (by omega), e0', z, if_pos (show nI 0 = 0 from rfl)]
      · have z0 : ¬ nI (nB (σ 151)) = 0 := fun e => z ((nI_eq (a := nB (σ 151)) (b := 0) (by omega) (by omega)).mp e)
        have hn0 : 0 < nB (σ 151) := by omega
        obtain ⟨w1, w2⟩ := walk_w hw hn0 y n
        refine call_g (fun r τ => r = priceA (walkA (σ 151) y n) ∧ RF τ 2 (walkA (σ 151) y n) ∧ FB 2 (up σ 110 4 0) τ) ?_ (fun r τ p => by rw [p.2.2 _ (by omega), up_d (by omega)]) ?_
        · have hF : RF (up σ 110 4 0) 2 (σ 151) := RF_c h.f n8 (fun c a b d => up_d (by omega))
          unfold s_X10_walk s_X8_forget
          rw [within_e, wI_1 c, bn_some, if_neg n10, within_e, wI_1 c2, bn_some, if_neg n10, e0, if_neg z0, lt_e, bv_some, x1_price (.inl rfl) hw hF, bn_some]
          exact x10_walk62 hw hn0 hF y hn
        · intro r τ ⟨hr, p1, p2⟩
          have hA : τ 151 = σ 151 := by rw [p2 _ (by omega), up_d (by omega)]
          show Gv (s_X11_walk τ (nI n) y) _
          unfold s_X11_walk
          rw [isIn_1_200, wI_1 c, bn_some, if_neg n10, isIn_0_9999, wI_1 c2, bn_some, if_neg n10, hA, e0', if_neg z0]
          refine gv_w (m_walk41 hw hn0 hA y hn) ?_
          intro r2 ρ ⟨q0, q1, q2, q3, q4⟩
          have tc : ∀ c, c < 2 ∨ 20 ≤ c → c ≠ 110 → τ c = σ c := fun c a b => by rw [p2 c (by omega), up_d b]
          have e : ∀ c, c < 2 ∨ (20 ≤ c ∧ c < 150) ∨ (152 ≤ c ∧ c < 163) ∨ c = 167 ∨ 170 ≤ c → c ≠ 110 → ρ c = σ c := fun c a b => by rw [q3 c (by omega) (by omega) (by omega) (by omega) (by omega) (by omega) (by omega) (by omega), tc c (by omega) b]
          have s : ∀ j, j ≠ 5 → j ≠ 17 → j ≠ 18 → j ≠ 20 → j ≠ 21 → ρ 150 j = σ 150 j := fun j a b c d f => by rw [q4 j a b c d f, tc _ (by omega) (by omega)]
          have r0 : ρ 110 = ua (σ 110) 4 0 := by rw [q3 _ (by omega) (by omega) (by omega) (by omega) (by omega) (by omega) (by omega) (by omega), p2 _ (by omega), up_f]
          refine ⟨by rw [q0, hr], inv_b h q1 w1 (fun j hj => walk_o hw hn0 y hj n) ?_ ?_ (fun c a b d f => e c (by omega) (by omega)) (by rw [e _ (by omega) (by omega)]) ⟨s _ (by omega) (by omega) (by omega) (by omega) (by omega), s _ (by omega) (by omega) (by omega) (by omega) (by omega), s _ (by omega) (by omega) (by omega) (by omega) (by omega)⟩, e _ (by omega) (by omega)⟩
          · exact RF_c p1 (by omega) (fun c a b d => q3 c (by omega) (by omega) (by omega) (by omega) (by omega) (by omega) (by omega) (by omega))
          · exact TRL_0 h.2.2.2.1 (by rw [r0, ua_s]) (by rw [r0, ua_n (by omega)]) q2
    · refine call_q h (-1000000001) (bad_c _ _ ?_) (fun τ q => bad_m _ _ ?_)
      · unfold s_X10_walk
        rw [within_e, wI_1 c, bn_some, if_neg n10, within_e, wI_0 c2, bn_some, if_pos rfl]
      · unfold s_X11_walk
        rw [isIn_1_200, wI_1 c, bn_some, if_neg n10, isIn_0_9999, wI_0 c2, bn_some, if_pos rfl]
  · refine call_q h (-1000000001) (bad_c _ _ ?_) (fun τ q => bad_m _ _ ?_)
    · unfold s_X10_walk
      rw [within_e, wI_0 c, bn_some, if_pos rfl]
    · unfold s_X11_walk
      rw [isIn_1_200, wI_0 c, bn_some, if_pos rfl]
end wk
