section ck
variable {σ : Sg}
theorem fbad (p : Nat → Prop) : ∀ n, ∃ k, k ≤ n ∧ (∀ i, i < k → p i) ∧ (k = n ∨ ¬ p k) := by
  intro n
  induction n with
  | zero => exact ⟨0, Nat.le_refl _, fun i h => absurd h (by omega), .inl rfl⟩
  | succ n ih =>
    obtain ⟨k, h1, h2, h3⟩ := ih
    rcases h3 with h3 | h3
    · by_cases c : p n
      · refine ⟨n + 1, Nat.le_refl _, fun i hi => ?_, .inl rfl⟩
        by_cases q : i = n
        · rw [q]; exact c
        · exact h2 i (by omega)
      · exact ⟨n, by omega, fun i hi => h2 i (by omega), .inr c⟩
    · exact ⟨k, by omega, h2, .inr h3⟩
def chP (A : Nat → Int32) (i : Nat) : Int32 := priceA (walkA A 0 (i + 1))
def chR (n w k : Nat) : Int32 := if k = n ∧ k = w then 0 else nI (k + 1)
theorem oneI (k : Nat) : (1 : Int32) + nI k = nI (k + 1) := by rw [Int32.add_comm, nI_1]
theorem x10_chk {A : Nat → Int32} (hw : WF A) (hn : 0 < nB A) (h : RF σ 90 A) {n w k : Nat} (n60 : n ≤ 60) (w60 : w ≤ 60) (kn : k ≤ n) (kw : k ≤ w) (hk : ∀ i, i < k → σ 149 i = chP A i) (he : k = n ∨ k = w ∨ ¬ σ 149 k = chP A k) : Gv (s_X10_check_74 FU σ (nI n) (nI w) 90 (priceA A) 0) (fun r τ => r = chR n w k ∧ FB 90 σ τ) := by
  refine gv_loop0 (fun m i (a : Int32 × Sg) => s_X10_check_74 m a.2 (nI n) (nI w) 90 a.1 (nI i)) k (fun i a => a.1 = priceA (walkA A 0 i) ∧ RF a.2 90 (walkA A 0 i) ∧ FB 90 σ a.2) (a := (priceA A, σ)) (by omega) ⟨rfl, h, FB.r 90 σ⟩ ?_ ?_
  · intro m i ⟨x, τ⟩ hi ⟨r1, r2, r3⟩
    have r1 : x = priceA (walkA A 0 i) := r1
    have r2 : RF τ 90 (walkA A 0 i) := r2
    have r3 : FB 90 σ τ := r3
    subst r1
    obtain ⟨w1, w2⟩ := walk_w hw hn 0 i
    obtain ⟨r, τ', e, q1, q2, q3⟩ := x1_step (.inr (.inr rfl)) w1 r2 (by omega) 0
    have l1 : ¬ nI n ≤ nI i := nI_ge (b := n) (by omega) (by omega)
    have l2 : ¬ nI w ≤ nI i := nI_ge (b := w) (by omega) (by omega)
    have hv : τ' 149 i = r := by
      rw [q3 149 (by omega), r3 149 (by omega), hk i hi, q1]
      unfold chP; rw [walk_s]
    refine ⟨(r, τ'), ?_, ?_, ?_, r3.t q3⟩
    · show s_X10_check_74 (m + 1) τ (nI n) (nI w) 90 (priceA (walkA A 0 i)) (nI i) = s_X10_check_74 m τ' (nI n) (nI w) 90 r (nI (i + 1))
      simp only [s_X10_check_74]
      rw [if_neg l1, e, bn_some, if_neg l2, if_pos (inb_nI (by omega) (by omega)), cl_nI (by omega), if_pos hv, nI_1]
    · rw [walk_s]; exact q1
    · rw [walk_s]; exact q2
  · intro m ⟨x, τ⟩ ⟨r1, r2, r3⟩
    have r1 : x = priceA (walkA A 0 k) := r1
    have r2 : RF τ 90 (walkA A 0 k) := r2
    have r3 : FB 90 σ τ := r3
    subst r1
    show Gv (s_X10_check_74 (m + 1) τ (nI n) (nI w) 90 (priceA (walkA A 0 k)) (nI k)) _
    simp only [s_X10_check_74]
    by_cases c : k = n
    · subst c
      rw [if_pos (nI_le (a := k) (by omega) (by omega))]
      by_cases c2 : k = w
      · subst c2
        rw [if_pos (nI_le (a := k) (by omega) (by omega))]
        exact gv_i ⟨by unfold chR; rw [if_pos ⟨rfl, rfl⟩], r3⟩
      · rw [if_neg (nI_ge (b := w) (by omega) (by omega))]
        exact gv_i ⟨by unfold chR; rw [if_neg (fun x => c2 x.2), oneI], r3⟩
    · obtain ⟨w1, w2⟩ := walk_w hw hn 0 k
      obtain ⟨r, τ', e, q1, q2, q3⟩ := x1_step (.inr (.inr rfl)) w1 r2 (by omega) 0
      rw [if_neg (nI_ge (b := n) (by omega) (by omega)), e, bn_some]
      have er : chR n w k = nI (k + 1) := by unfold chR; rw [if_neg (fun x => c x.1)]
      by_cases c2 : k = w
      · rw [if_pos (nI_le (a := w) (by omega) (by omega))]
        exact gv_i ⟨by rw [er, oneI], r3.t q3⟩
      · have hv : ¬ τ' 149 k = r := by
          rw [q3 149 (by omega), r3 149 (by omega), q1]
          rcases he with he | he | he
          · exact absurd he c
          · exact absurd he c2
          · unfold chP at he; rw [walk_s] at he; exact he
        rw [if_neg (nI_ge (b := w) (by omega) (by omega)), if_pos (inb_nI (by omega) (by omega)), cl_nI (by omega), if_neg hv]
        exact gv_i ⟨by rw [er, oneI], r3.t q3⟩
theorem m_chk141 (σ : Sg) {n w k : Nat} (n60 : n ≤ 60) (w60 : w ≤ 60) (k60 : k ≤ 60) : s_X11_check_141 σ (nI n) (nI w) (nI k) = some (chR n w k, σ) := by
  unfold s_X11_check_141 chR
  have e1 : (nI k = nI w) = (k = w) := propext (nI_eq (by omega) (by omega))
  have e2 : (nI k = nI n) = (k = n) := propext (nI_eq (by omega) (by omega))
  rw [oneI]
  simp only [e1, e2]
  by_cases c1 : k = w
  · by_cases c2 : k = n
    · rw [if_pos c1, if_pos c2, if_pos ⟨c2, c1⟩]
    · rw [if_pos c1, if_neg c2, if_neg (fun x => c2 x.1)]
  · rw [if_neg c1, if_neg (fun x => c1 x.2)]
theorem m_chk110 (σ : Sg) {n w k : Nat} (n60 : n ≤ 60) (w60 : w ≤ 60) (kn : k ≤ n) (kw : k ≤ w) (hk : ∀ i, i < k → σ 171 i = σ 172 i) (he : k = n ∨ k = w ∨ ¬ σ 171 k = σ 172 k) : s_X11_check_110 FU σ (nI n) (nI w) 0 = some (chR n w k, σ) := by
  have e := m_chk141 σ (n := n) (w := w) (k := k) n60 w60 (by omega)
  refine loop0 (fun m i (_ : Unit) => s_X11_check_110 m σ (nI n) (nI w) (nI i)) (fun _ => some (chR n w k, σ)) (fun _ a => a) k () (by omega) ?_ ?_
  · intro m i _ hi
    simp only [s_X11_check_110]
    rw [if_neg (nI_ge (b := w) (by omega) (by omega)), if_neg (nI_ge (b := n) (by omega) (by omega)), if_pos (inb_nI (by omega) (by omega)), if_pos (inb_nI (by omega) (by omega)), cl_nI (by omega), if_pos (hk i hi), nI_1]
  · intro m _
    simp only [s_X11_check_110]
    by_cases c2 : k = w
    · rw [if_pos (nI_le (a := w) (by omega) (by omega))]; exact e
    · rw [if_neg (nI_ge (b := w) (by omega) (by omega))]
      by_cases c1 : k = n
      · rw [if_pos (nI_le (a := n) (by omega) (by omega))]; exact e
      · rw [if_neg (nI_ge (b := n) (by omega) (by omega)), if_pos (inb_nI (by omega) (by omega)), if_pos (inb_nI (by omega) (by omega)), cl_nI (by omega), if_neg (he.resolve_left c1 |>.resolve_left c2)]; exact e
/-- what the model's row of prices leaves -/
theorem m_chk70 {A S : Nat → Int32} (hw : WF A) (hz : WZ A) (hS : WZ S) (hn : 0 < nB A) (hA : σ 151 = A) (h3 : σ 153 = S) {n w k : Nat} (n60 : n ≤ 60) (w60 : w ≤ 60) (kn : k ≤ n) (kw : k ≤ w) (hk : ∀ i, i < k → σ 171 i = chP A i) (he : k = n ∨ k = w ∨ ¬ σ 171 k = chP A k) : Gv (s_X11_check_70 FU σ (nI n) (nI w) 0) (fun r τ => r = chR n w k ∧ τ 151 = S ∧ (∀ c, c ≠ 150 → c ≠ 151 → c ≠ 163 → c ≠ 164 → c ≠ 165 → c ≠ 166 → c ≠ 168 → c ≠ 169 → c ≠ 172 → τ c = σ c) ∧ ∀ j, j ≠ 17 → j ≠ 18 → j ≠ 20 → j ≠ 21 → τ 150 j = σ 150 j) := by
  refine gv_loop0 (fun m i s => s_X11_check_70 m s (nI n) (nI w) (nI i)) n (fun i s => s 151 = walkA A 0 i ∧ (∀ j, j < i → s 172 j = chP A j) ∧ (∀ c, c ≠ 150 → c ≠ 151 → c ≠ 163 → c ≠ 164 → c ≠ 165 → c ≠ 166 → c ≠ 168 → c ≠ 169 → c ≠ 172 → s c = σ c) ∧ ∀ j, j ≠ 17 → j ≠ 18 → j ≠ 20 → j ≠ 21 → s 150 j = σ 150 j) (by omega) ⟨hA, fun _ h => absurd h (by omega), fun _ _ _ _ _ _ _ _ _ _ => rfl, fun _ _ _ _ _ => rfl⟩ ?_ ?_
  · intro m i s hi ⟨r1, r2, r3, r4⟩
    obtain ⟨w1, w2⟩ := walk_w hw hn 0 i
    obtain ⟨w3, w4⟩ := walk_w hw hn 0 (i + 1)
    obtain ⟨_, s2, e1, q1, q2⟩ := m_step w1 r1 (by omega) 0
    rw [← walk_s] at q1
    obtain ⟨_, s3, e2, hr, q3, _⟩ := m_price w3 q1
    subst hr
    have ft : FT s s3 := q2.t q3.ft
    refine ⟨up s3 172 i (chP A i), ?_, ?_, ?_, ?_, ?_⟩
    · simp only [s_X11_check_70]
      rw [if_neg (nI_ge (b := n) (by omega) (by omega)), e1, bv_some, e2, bn_some, if_pos (inb_nI (by omega) (by omega)), cl_nI (by omega), lt_e, nI_1]
      rfl
    · rw [up_d (by omega), q3.s]; exact q1
    · intro j hj
      rw [up_f]
      by_cases q : j = i
      · subst q; rw [ua_s]
      · rw [ua_n q, ft.1 172 (by omega) (by omega) (by omega) (by omega) (by omega) (by omega) (by omega) (by omega)]; exact r2 j (by omega)
    · intro c a1 a2 a3 a4 a5 a6 a7 a8 a9
      rw [up_d a9, ft.1 c a1 a2 a3 a4 a5 a6 a7 a8]; exact r3 c a1 a2 a3 a4 a5 a6 a7 a8 a9
    · intro j a1 a2 a3 a4
      rw [up_d (by omega), ft.2 j a1 a2 a3 a4]; exact r4 j a1 a2 a3 a4
  · intro m s ⟨r1, r2, r3, r4⟩
    simp only [s_X11_check_70]
    rw [if_pos (nI_le (a := n) (by omega) (by omega))]
    refine gv_v (m_setAside s (a := 153) (b := 151) (by decide) (by decide) (by omega)) ?_
    intro _ s1 ⟨q1, q2, q3⟩
    have k1 : s1 171 = σ 171 := by rw [q3 _ (by omega), r3 _ (by omega) (by omega) (by omega) (by omega) (by omega) (by omega) (by omega) (by omega) (by omega)]
    have k2 : s1 172 = s 172 := q3 _ (by omega)
    rw [m_chk110 s1 n60 w60 kn kw (fun i hi => by rw [k1, k2, hk i hi, r2 i (by omega)]) (by
      by_cases c : k = n
      · exact .inl c
      · rcases he with he | he | he
        · exact .inl he
        · exact .inr (.inl he)
        · rw [k1, k2, r2 k (by omega)]; exact .inr (.inr he))]
    refine gv_i ⟨rfl, ?_, ?_, ?_⟩
    · refine aside_e (B := walkA A 0 n) hS ?_ (fun j hj => by rw [q1 j hj, r3 153 (by omega) (by omega) (by omega) (by omega) (by omega) (by omega) (by omega) (by omega) (by omega), h3]) (fun j hj => by rw [q2 j hj, r1])
      intro j hj
      rw [walk_o hw hn 0 (by omega)]; exact hz j hj
    · intro c a1 a2 a3 a4 a5 a6 a7 a8 a9
      rw [q3 c a2]; exact r3 c a1 a2 a3 a4 a5 a6 a7 a8 a9
    · intro j a1 a2 a3 a4
      rw [q3 _ (by omega)]; exact r4 j a1 a2 a3 a4
theorem inv_w {ρ : Sg} (h : InvR σ σ) (e : ∀ c, (1 ≤ c ∧ c < 90) ∨ (108 ≤ c ∧ c < 150) ∨ (151 ≤ c ∧ c < 163 ∧ c ≠ 153) ∨ c = 167 ∨ 900 ≤ c → ρ c = σ c) (z : WZ (ρ 153)) (e0 : ρ 0 2 = σ 0 2) (s : ρ 150 3 = σ 150 3 ∧ ρ 150 5 = σ 150 5 ∧ ρ 150 23 = σ 150 23) (w1 : ρ 0 10 = 0) (w2 : ρ 150 38 = 0) : InvR ρ ρ := by
  refine inv_g h (fun c a => e c (by omega)) z e0 ⟨s.1, s.2.1⟩ ?_ ?_ ?_ ⟨0, by omega, w1, w2, fun _ x => absurd x (by omega)⟩
  · exact TP_c h.2.2.2.2.1 (by rw [e _ (by omega)]) (e _ (by omega)) s.2.2 (e _ (by omega))
  · exact SHT_c h.2.2.2.2.2.1 (fun c a b => e c (by omega)) (e _ (by omega)) (e _ (by omega)) (e _ (by omega))
  · exact SLT_c h.2.2.2.2.2.2.1 (fun c a b => e c (by omega)) (e _ (by omega)) (e _ (by omega)) (e _ (by omega)) (e _ (by omega))
theorem call_ckw (h : InvR σ σ) {X : RO} {Y : Sg → RO} (v : Int32) (hX : Gv X (fun r τ => r = v ∧ τ 0 = ua (σ 0) 10 0 ∧ ∀ c, c ≠ 0 → c < 90 ∨ 108 ≤ c → τ c = σ c)) (hY : ∀ τ, τ 0 = ua (σ 0) 10 0 → (∀ c, c ≠ 0 → c < 90 ∨ 108 ≤ c → τ c = σ c) → Gv (Y τ) (fun r ρ => r = v ∧ ρ 151 = σ 151 ∧ WZ (ρ 153) ∧ (∀ c, c < 150 ∨ c = 152 ∨ (154 ≤ c ∧ c < 163) ∨ c = 167 ∨ 900 ≤ c → ρ c = τ c) ∧ ρ 150 38 = 0 ∧ ∀ j, j ≠ 17 → j ≠ 18 → j ≠ 20 → j ≠ 21 → j ≠ 38 → ρ 150 j = σ 150 j)) : Call σ X Y := by
  refine call_g _ hX (fun r τ p => p.2.2 _ (by omega) (by omega)) ?_
  intro r τ ⟨hr, p1, p2⟩
  refine gv_w (hY τ p1 p2) ?_
  intro r' ρ ⟨hr', q1, q2, q3, q4, q5⟩
  have e : ∀ c, c ≠ 0 → c < 90 ∨ (108 ≤ c ∧ c < 150) ∨ c = 152 ∨ (154 ≤ c ∧ c < 163) ∨ c = 167 ∨ 900 ≤ c → ρ c = σ c := fun c a b => by rw [q3 c (by omega), p2 c a (by omega)]
  have r0 : ρ 0 = ua (σ 0) 10 0 := by rw [q3 _ (by omega)]; exact p1
  refine ⟨by rw [hr', hr], inv_w h (fun c a => ?_) q2 (by rw [r0, ua_n (by omega)]) ⟨q5 _ (by omega) (by omega) (by omega) (by omega) (by omega), q5 _ (by omega) (by omega) (by omega) (by omega) (by omega), q5 _ (by omega) (by omega) (by omega) (by omega) (by omega)⟩ (by rw [r0, ua_s]) q4, e _ (by omega) (by omega)⟩
  by_cases c1 : c = 151
  · subst c1; exact q1
  · exact e c (by omega) (by omega)
theorem call_check (h : InvR σ σ) (x : Int32) : Call σ (s_X10_check σ x) (fun τ => s_X11_check τ x) := by
  obtain ⟨w, hw60, e1, e2, e3⟩ := h.2.2.2.2.2.2.2.1
  obtain ⟨g1, g2, g3, g4⟩ := h.2.2.1
  have u0 : up σ 0 10 0 0 = ua (σ 0) 10 0 := up_f ..
  have uc : ∀ c, c ≠ 0 → up σ 0 10 0 c = σ c := fun c a => up_d a
  by_cases c : win x 1 60
  · obtain ⟨n, hn, rfl⟩ := win_n (n := 60) (by omega) rfl (⟨Int32.le_trans (by decide) c.1, c.2⟩ : win x 0 60)
    have badm : ∀ τ : Sg, τ 0 = ua (σ 0) 10 0 → (∀ c, c ≠ 0 → c < 90 ∨ 108 ≤ c → τ c = σ c) → ∀ v : Int32, Gv (some (v, up τ 150 38 0)) (fun r ρ => r = v ∧ ρ 151 = σ 151 ∧ WZ (ρ 153) ∧ (∀ c, c < 150 ∨ c = 152 ∨ (154 ≤ c ∧ c < 163) ∨ c = 167 ∨ 900 ≤ c → ρ c = τ c) ∧ ρ 150 38 = 0 ∧ ∀ j, j ≠ 17 → j ≠ 18 → j ≠ 20 → j ≠ 21 → j ≠ 38 → ρ 150 j = σ 150 j) := fun τ p1 p2 v => by
      refine gv_i ⟨rfl, ?_, ?_, ?_, ?_, ?_⟩
      · rw [up_d (by omega)]; exact p2 _ (by omega) (by omega)
      · rw [up_d (by omega), p2 _ (by omega) (by omega)]; exact g3
      · intro c hc; exact up_d (by omega)
      · rw [up_f, ua_s]
      · intro j _ _ _ _ hj; rw [up_f, ua_n hj, p2 _ (by omega) (by omega)]
    rcases g4 with g4 | ⟨g4, g5, g6⟩
    · refine call_ckw h (-1000000002) ?_ ?_
      · unfold s_X10_check
        rw [lt_e, lt_e, within_e, wI_1 c, bn_some, if_neg n10, u0, ua_n (by omega), g1, g4, if_pos rfl]
        exact gv_i ⟨rfl, u0, fun c a b => uc c a⟩
      · intro τ p1 p2
        show Gv (s_X11_check τ (nI n)) _
        unfold s_X11_check
        rw [lt_e, lt_e, isIn_1_60, wI_1 c, bn_some, if_neg n10, up_f, ua_n (by omega), p2 150 (by omega) (by omega), g4, if_pos rfl]
        exact badm τ p1 p2 _
    · have e46 : σ 46 1 = nI (nB (σ 152)) := by rw [g6.1.1.n]; exact g5.1.n
      have e152 : σ 152 0 = nI (nB (σ 152)) := g5.1.n
      have n8 := g5.1.n8
      have z1 : ¬ (1 : Int32) = 0 := by decide
      by_cases z : nB (σ 152) = 0
      · refine call_ckw h (-1000000002) ?_ ?_
        · unfold s_X10_check
          rw [lt_e, lt_e, within_e, wI_1 c, bn_some, if_neg n10, u0, ua_n (by omega), g1, g4, if_neg z1, uc _ (by omega), e46, z, if_pos (show nI 0 = 0 from rfl)]
          exact gv_i ⟨rfl, u0, fun c a b => uc c a⟩
        · intro τ p1 p2
          show Gv (s_X11_check τ (nI n)) _
          unfold s_X11_check
          rw [lt_e, lt_e, isIn_1_60, wI_1 c, bn_some, if_neg n10, up_f, ua_n (by omega), p2 150 (by omega) (by omega), g4, if_neg z1, up_d (by omega), p2 152 (by omega) (by omega), e152, z, if_pos (show nI 0 = 0 from rfl)]
          exact badm τ p1 p2 _
      · have z0 : ¬ nI (nB (σ 152)) = 0 := fun e => z ((nI_eq (a := nB (σ 152)) (b := 0) (by omega) (by omega)).mp e)
        have hn0 : 0 < nB (σ 152) := by omega
        obtain ⟨k, hk0, hk1, hk2⟩ := fbad (fun i => σ 149 i = chP (σ 152) i) (if n ≤ w then n else w)
        have kn : k ≤ n := by split at hk0 <;> omega
        have kw : k ≤ w := by split at hk0 <;> omega
        have he : k = n ∨ k = w ∨ ¬ σ 149 k = chP (σ 152) k := by
          rcases hk2 with q | q
          · split at q
            · exact .inl q
            · exact .inr (.inl q)
          · exact .inr (.inr q)
        refine call_ckw h (chR n w k) ?_ ?_
        · unfold s_X10_check
          rw [lt_e, lt_e, within_e, wI_1 c, bn_some, if_neg n10, u0, ua_n (by omega), g1, g4, if_neg z1, uc _ (by omega), e46, if_neg z0]
          have hF : RF (up σ 0 10 0) 46 (σ 152) := RF_c g6.1 n8 (fun c a b d => up_d (by omega))
          refine gv_v (x1_take (.inr (.inr rfl)) (.inr (.inl rfl)) (by omega) g5.1 hF) ?_
          intro _ s ⟨p1, p2⟩
          rw [x1_price (.inr (.inr rfl)) g5.1 p1, bn_some, e1]
          have k9 : s 149 = σ 149 := by rw [p2 _ (by omega), uc _ (by omega)]
          refine gv_w (x10_chk g5.1 hn0 p1 hn hw60 kn kw (fun i hi => by rw [k9]; exact hk1 i hi) (by rw [k9]; exact he)) ?_
          intro r τ ⟨hr, f⟩
          refine ⟨hr, ?_, fun c a b => ?_⟩
          · rw [f _ (by omega), p2 _ (by omega)]; exact u0
          · rw [f _ (by omega), p2 _ (by omega)]; exact uc c a
        · intro τ p1 p2
          show Gv (s_X11_check τ (nI n)) _
          unfold s_X11_check
          rw [lt_e, lt_e, isIn_1_60, wI_1 c, bn_some, if_neg n10, up_f, ua_n (by omega), p2 150 (by omega) (by omega), g4, if_neg z1, up_d (by omega), p2 152 (by omega) (by omega), e152, if_neg z0, e2]
          refine gv_v (m_setAside _ (a := 151) (b := 153) (by decide) (by decide) (by omega)) ?_
          intro _ s5 ⟨a1, a2, a3⟩
          have s153 : s5 153 = σ 151 := aside_e (A := σ 151) (B := σ 153) h.1.2.2.2 g3 (fun j hj => by rw [a1 j hj, up_d (by omega), p2 _ (by omega) (by omega)]) (fun j hj => by rw [a2 j hj, up_d (by omega), p2 _ (by omega) (by omega)])
          refine gv_v (m_setAside _ (a := 152) (b := 151) (by decide) (by decide) (by omega)) ?_
          intro _ s6 ⟨b1, b2, b3⟩
          have t152 : s5 152 = σ 152 := by rw [a3 _ (by omega), up_d (by omega), p2 _ (by omega) (by omega)]
          have t151 : s5 151 = σ 151 := by rw [a3 _ (by omega), up_d (by omega), p2 _ (by omega) (by omega)]
          have s151 : s6 151 = σ 152 := aside_e (A := σ 152) (B := σ 151) g2 h.1.2.2.2 (fun j hj => by rw [b1 j hj, t152]) (fun j hj => by rw [b2 j hj, t151])
          have s6153 : s6 153 = σ 151 := by rw [b3 _ (by omega)]; exact s153
          have sc : ∀ c, c ≠ 150 → c ≠ 151 → c ≠ 153 → s6 c = τ c := fun c f1 f2 f3 => by rw [b3 c f2, a3 c f3, up_d f1]
          have s171 : ∀ i, i < w → s6 171 i = σ 149 i := fun i hi => by rw [sc _ (by omega) (by omega) (by omega), p2 _ (by omega) (by omega)]; exact (e3 i hi).symm
          have s50 : s6 150 = ua (σ 150) 38 0 := by rw [b3 _ (by omega), a3 _ (by omega), up_f, p2 _ (by omega) (by omega)]
          have he' : k = n ∨ k = w ∨ ¬ s6 171 k = chP (σ 152) k := by
            by_cases q : k = w
            · exact .inr (.inl q)
            · rw [s171 k (by omega)]; exact he
          refine gv_w (m_chk70 (S := σ 151) (w := w) g5.1 g2 h.1.2.2.2 hn0 s151 s6153 hn hw60 kn kw (fun i hi => by rw [s171 i (by omega)]; exact hk1 i hi) he') ?_
          intro r ρ ⟨hr, q1, q2, q3⟩
          refine ⟨hr, q1, ?_, ?_, ?_, ?_⟩
          · rw [q2 153 (by omega) (by omega) (by omega) (by omega) (by omega) (by omega) (by omega) (by omega) (by omega), s6153]; exact h.1.2.2.2
          · intro c hc
            rw [q2 c (by omega) (by omega) (by omega) (by omega) (by omega) (by omega) (by omega) (by omega) (by omega), sc c (by omega) (by omega) (by omega)]
          · rw [q3 38 (by omega) (by omega) (by omega) (by omega), s50, ua_s]
          · intro j f1 f2 f3 f4 f5
            rw [q3 j f1 f2 f3 f4, s50, ua_n f5]
  · refine call_ckw h (-1000000001) ?_ ?_
    · unfold s_X10_check
      rw [lt_e, lt_e, within_e, wI_0 c, bn_some, if_pos rfl]
      exact gv_i ⟨rfl, u0, fun c a b => uc c a⟩
    · intro τ p1 p2
      show Gv (s_X11_check τ x) _
      unfold s_X11_check
      rw [lt_e, lt_e, isIn_1_60, wI_0 c, bn_some, if_pos rfl]
      refine gv_i ⟨rfl, ?_, ?_, ?_, ?_, ?_⟩
      · rw [up_d (by omega)]; exact p2 _ (by omega) (by omega)
      · rw [up_d (by omega), p2 _ (by omega) (by omega)]; exact g3
      · intro c hc; exact up_d (by omega)
      · rw [up_f, ua_s]
      · intro j _ _ _ _ hj; rw [up_f, ua_n hj, p2 _ (by omega) (by omega)]
end ck
