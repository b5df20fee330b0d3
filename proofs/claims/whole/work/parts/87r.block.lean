section bk
variable {σ : Sg}
theorem PM_e {f g : Nat → Nat} {n : Nat} (h : PM f n) (e : ∀ i, i < n → g i = f i) (en : g n = n) : PM g (n + 1) := by
  obtain ⟨h1, h2, h3⟩ := h
  refine ⟨?_, ?_, ?_⟩
  · intro i hi
    by_cases c : i = n
    · subst c; omega
    · rw [e i (by omega)]; have := h1 i (by omega); omega
  · intro i j hi hj k
    by_cases c : i = n
    · by_cases d : j = n
      · omega
      · rw [c, en, e j (by omega)] at k; have := h1 j (by omega); omega
    · by_cases d : j = n
      · rw [d, en, e i (by omega)] at k; have := h1 i (by omega); omega
      · rw [e i (by omega), e j (by omega)] at k; exact h2 i j (by omega) (by omega) k
  · intro j hj
    by_cases c : j = n
    · exact ⟨n, by omega, by rw [en, c]⟩
    · obtain ⟨i, a, b⟩ := h3 j (by omega)
      exact ⟨i, by omega, by rw [e i a]; exact b⟩
theorem x0_become {x y z : Int32} (σ : Sg) (d : Nat) (hv : VB x y z 0) : Gv (s_X0_become σ d x y z) (fun _ τ => (τ d 0 = x ∧ τ d 1 = y ∧ τ d 2 = z ∧ τ d 3 = 0 ∧ τ d 4 = 0 ∧ τ d 5 = 0 ∧ τ d 6 = wdI x y z 0 ∧ τ d 7 = htI x y z 0) ∧ ∀ c, c ≠ d → τ c = σ c) := by
  unfold s_X0_become
  simp only [lt_e]
  generalize hs : up (up (up (up (up (up (up σ d 0 x) d 1 y) d 2 z) d 3 0) d 4 0) d 8 0) d 9 0 = s
  have f0 : s d 0 = x := by rw [← hs]; simp (disch := omega) only [up_f, ua_n, ua_s]
  have f1 : s d 1 = y := by rw [← hs]; simp (disch := omega) only [up_f, ua_n, ua_s]
  have f2 : s d 2 = z := by rw [← hs]; simp (disch := omega) only [up_f, ua_n, ua_s]
  have f3 : s d 3 = 0 := by rw [← hs]; simp (disch := omega) only [up_f, ua_n, ua_s]
  have f4 : s d 4 = 0 := by rw [← hs]; simp (disch := omega) only [up_f, ua_n, ua_s]
  have fc : ∀ c, c ≠ d → s c = σ c := fun c hc => by rw [← hs, up_d hc, up_d hc, up_d hc, up_d hc, up_d hc, up_d hc, up_d hc]
  rw [x0_drawAs s d 0 (by rw [f0, f1, f2]; exact hv), bv_some, f0, f1, f2]
  refine gv_i ⟨⟨?_, ?_, ?_, ?_, ?_, ?_, ?_, ?_⟩, fun c hc => by rw [up_d hc, up_d hc, up_d hc]; exact fc c hc⟩
  · simp (disch := omega) only [up_f, ua_n, ua_s]; exact f0
  · simp (disch := omega) only [up_f, ua_n, ua_s]; exact f1
  · simp (disch := omega) only [up_f, ua_n, ua_s]; exact f2
  · simp (disch := omega) only [up_f, ua_n, ua_s]; exact f3
  · simp (disch := omega) only [up_f, ua_n, ua_s]; exact f4
  · simp (disch := omega) only [up_f, ua_n, ua_s]
  · simp (disch := omega) only [up_f, ua_n, ua_s]
  · simp (disch := omega) only [up_f, ua_n, ua_s]
theorem shp_p {k b : Nat} : 0 < shpN k b := by
  unfold shpN
  repeat (first | omega | split)
theorem WF_nb {A B : Nat → Int32} {n : Nat} (hw : WF A) (hn : nB A = n) (n7 : n < 8) (Bo : ∀ j, j ≠ 0 → (j < 20 + 6 * n ∨ 26 + 6 * n ≤ j) → j ≠ 70 + n → j ≠ 78 + n → B j = A j) (B0 : B 0 = nI (n + 1)) (hv : VA B (20 + 6 * n)) (b3 : B (20 + 6 * n + 3) = 0) (b4 : B (20 + 6 * n + 4) = 0) (r1 : B (70 + n) = nI n) (r2 : B (78 + n) = nI n) : WF B ∧ nB B = n + 1 := by
  have nb : nB B = n + 1 := by unfold nB; rw [B0]; exact cl_nI (by omega)
  have q1 : ∀ i, i < n → o1 B i = o1 A i := fun i hi => by unfold o1; rw [Bo _ (by omega) (by omega) (by omega) (by omega)]
  have q2 : ∀ i, i < n → o2 B i = o2 A i := fun i hi => by unfold o2; rw [Bo _ (by omega) (by omega) (by omega) (by omega)]
  have q1n : o1 B n = n := by unfold o1; rw [r1]; exact cl_nI (by omega)
  have q2n : o2 B n = n := by unfold o2; rw [r2]; exact cl_nI (by omega)
  refine ⟨⟨⟨by rw [nb]; exact B0, by omega⟩, ⟨?_, ?_, ?_, ?_⟩, ?_, W4_c hw.2.2.2.1 (Bo _ (by omega) (by omega) (by omega) (by omega)) (fun j a b => Bo _ (by omega) (by omega) (by omega) (by omega)), W5_m (fun j hj => by rw [Bo _ (by omega) (by omega) (by omega) (by omega)]; exact W5_j hw.2.2.2.2 j hj)⟩, nb⟩
  · intro i hi
    rw [nb] at hi
    by_cases c : i = n
    · subst c; rw [q1n, r1]
    · rw [q1 i (by omega), Bo _ (by omega) (by omega) (by omega) (by omega)]; exact hw.e1 (by omega)
  · intro i hi
    rw [nb] at hi
    by_cases c : i = n
    · subst c; rw [q2n, r2]
    · rw [q2 i (by omega), Bo _ (by omega) (by omega) (by omega) (by omega)]; exact hw.e2 (by omega)
  · rw [nb]; exact PM_e (by rw [← hn]; exact hw.m1) q1 q1n
  · rw [nb]; exact PM_e (by rw [← hn]; exact hw.m2) q2 q2n
  · intro i hi
    rw [nb] at hi
    by_cases c : i = n
    · subst c
      unfold pw ly
      rw [b3, b4]
      exact ⟨hv, sm_0, .inl rfl⟩
    · have := hw.2.2.1 i (by omega)
      unfold VA pw ly at this ⊢
      rw [Bo _ (by omega) (by omega) (by omega) (by omega), Bo (20 + 6 * i + 1) (by omega) (by omega) (by omega) (by omega), Bo (20 + 6 * i + 2) (by omega) (by omega) (by omega) (by omega), Bo (20 + 6 * i + 5) (by omega) (by omega) (by omega) (by omega), Bo (20 + 6 * i + 3) (by omega) (by omega) (by omega) (by omega), Bo (20 + 6 * i + 4) (by omega) (by omega) (by omega) (by omega)]
      exact this
theorem win_1 {x : Int32} {n : Nat} (hn : n < 2 ^ 31) {M : Int32} (hM : M = nI n) (h : win x 1 M) : ∃ k, 1 ≤ k ∧ k ≤ n ∧ x = nI k := by
  obtain ⟨k, hk, rfl⟩ := win_n hn hM (⟨Int32.le_trans (by decide) h.1, h.2⟩ : win x 0 M)
  refine ⟨k, ?_, hk, rfl⟩
  have := h.1
  rw [le_t, nI_toInt (by omega), show (1 : Int32).toInt = 1 by decide] at this
  omega
def blA (A : Nat → Int32) (n : Nat) (x y z : Int32) : Nat → Int32 := ua (ua (ua (ua (ua (ua (ua (ua (ua A (20 + 6 * n) x) (20 + 6 * n + 1) y) (20 + 6 * n + 2) z) (20 + 6 * n + 3) 0) (20 + 6 * n + 4) 0) (20 + 6 * n + 5) 0) (70 + n) (nI n)) (78 + n) (nI n)) 0 (nI (n + 1))
theorem blA_o (A : Nat → Int32) {n : Nat} (x y z : Int32) (hn : n < 8) : ∀ j, j ≠ 0 → (j < 20 + 6 * n ∨ 26 + 6 * n ≤ j) → j ≠ 70 + n → j ≠ 78 + n → blA A n x y z j = A j := by
  intro j h0 h1 h2 h3
  unfold blA
  rw [ua_n h0, ua_n h3, ua_n h2, ua_n (by omega), ua_n (by omega), ua_n (by omega), ua_n (by omega), ua_n (by omega), ua_n (by omega)]
theorem blA_v (A : Nat → Int32) {n : Nat} (x y z : Int32) (hn : n < 8) : blA A n x y z 0 = nI (n + 1) ∧ blA A n x y z (20 + 6 * n) = x ∧ blA A n x y z (20 + 6 * n + 1) = y ∧ blA A n x y z (20 + 6 * n + 2) = z ∧ blA A n x y z (20 + 6 * n + 3) = 0 ∧ blA A n x y z (20 + 6 * n + 4) = 0 ∧ blA A n x y z (20 + 6 * n + 5) = 0 ∧ blA A n x y z (70 + n) = nI n ∧ blA A n x y z (78 + n) = nI n := by
  unfold blA
  refine ⟨ua_s, ?_, ?_, ?_, ?_, ?_, ?_, ?_, ?_⟩ <;> simp (disch := omega) only [ua_n, ua_s]
theorem x1_addBlock {A : Nat → Int32} {x y z : Int32} {n : Nat} (hw : WF A) (h : RF σ 2 A) (hn : nB A = n) (n7 : n < 8) (hv : VB x y z 0) : Gv (s_X1_addBlock σ 2 x y z) (fun r τ => r = nI n ∧ RF τ 2 (blA A n x y z) ∧ WF (blA A n x y z) ∧ nB (blA A n x y z) = n + 1 ∧ FB 2 σ τ) := by
  have e0 : σ 2 1 = nI n := by rw [h.1.n, hw.n, hn]
  have fk := FK (b := 2) (.inl rfl)
  obtain ⟨v0, w0, w1, w2, w3, w4, w5, w6, w7⟩ := blA_v A x y z n7
  have Bo := blA_o A x y z n7
  have hwB := WF_nb hw hn n7 Bo v0 (by unfold VA; rw [w0, w1, w2, w5]; exact hv) w3 w4 w6 w7
  unfold s_X1_addBlock
  simp (disch := omega) only [lt_e, e0, fk, inb_n, ↓reduceIte, cl_nI, show (2 : Nat) + 1 = 3 from rfl, r3_, show (2 : Nat) + 2 = 4 from rfl, show (2 : Nat) + 3 = 5 from rfl]
  refine gv_v (x0_become σ (2 + 10 + n) hv) ?_
  intro _ s ⟨⟨f0, f1, f2, f3, f4, f5, f6, f7⟩, fc⟩
  have s2 : s 2 = σ 2 := fc _ (by omega)
  have s21 : up (up s 4 n (nI n)) 5 n (nI n) 2 1 = nI n := by rw [up_d (by omega), up_d (by omega), s2]; exact e0
  rw [s21, nI_1]
  generalize ht : up (up (up s 4 n (nI n)) 5 n (nI n)) 2 1 (nI (n + 1)) = t
  have t2 : t 2 = ua (σ 2) 1 (nI (n + 1)) := by rw [← ht, up_f, up_d (by omega), up_d (by omega), s2]
  have t4 : t 4 = ua (σ 4) n (nI n) := by rw [← ht, up_d (by omega), up_d (by omega), up_f, fc _ (by omega)]
  have t5 : t 5 = ua (σ 5) n (nI n) := by rw [← ht, up_d (by omega), up_f, up_d (by omega), fc _ (by omega)]
  have tc : ∀ c, c ≠ 2 → c ≠ 4 → c ≠ 5 → t c = s c := fun c a b d => by rw [← ht, up_d a, up_d d, up_d b]
  have hRU : RU t 2 (blA A n x y z) := by
    refine ⟨⟨?_, ?_, ?_⟩, ?_, ?_, ?_, ?_⟩
    · rw [t2, ua_s, v0]
    · rw [t2, ua_n (by omega), Bo _ (by omega) (by omega) (by omega) (by omega)]; exact h.1.nets
    · rw [t2, ua_n (by omega), Bo _ (by omega) (by omega) (by omega) (by omega)]; exact h.1.z
    · intro i hi
      rw [hwB.2] at hi
      by_cases c : i = n
      · subst c
        unfold BR
        rw [tc _ (by omega) (by omega) (by omega), w0, w1, w2, w5, f6, f7]
        refine ⟨fun k hk => ?_, rfl, rfl⟩
        have : k = 0 ∨ k = 1 ∨ k = 2 ∨ k = 3 ∨ k = 4 ∨ k = 5 := by omega
        rcases this with rfl | rfl | rfl | rfl | rfl | rfl
        · exact f0.trans w0.symm
        · rw [f1, w1]
        · rw [f2, w2]
        · rw [f3, w3]
        · rw [f4, w4]
        · rw [f5, w5]
      · refine BR_g (h.1.br (show i < nB A by omega)) (by rw [tc _ (by omega) (by omega) (by omega), fc _ (by omega)]) (fun k hk => Bo _ (by omega) (by omega) (by omega) (by omega))
    · intro i hi
      rw [hwB.2] at hi
      show t 4 i = _ ∧ t 5 i = _
      rw [t4, t5]
      by_cases c : i = n
      · subst c; rw [ua_s, ua_s, w6, w7]; exact ⟨rfl, rfl⟩
      · rw [ua_n c, ua_n c, Bo _ (by omega) (by omega) (by omega) (by omega), Bo _ (by omega) (by omega) (by omega) (by omega)]
        exact ⟨h.1.one (by omega), h.1.oth (by omega)⟩
    · intro k hk
      rw [tc _ (by omega) (by omega) (by omega), fc _ (by omega), Bo _ (by omega) (by omega) (by omega) (by omega)]; exact h.1.rul hk
    · have m : nN (blA A n x y z) = nN A := by unfold nN; rw [Bo _ (by omega) (by omega) (by omega) (by omega)]
      have nn := hw.nn10
      intro j hj
      rw [m] at hj
      rw [tc _ (by omega) (by omega) (by omega), tc _ (by omega) (by omega) (by omega), fc _ (by omega), fc _ (by omega), Bo _ (by omega) (by omega) (by omega) (by omega), Bo _ (by omega) (by omega) (by omega) (by omega)]
      exact ⟨h.1.set hj, h.1.wgt hj⟩
  have hFB : FB 2 σ t := fun c hc => by rw [tc c (by omega) (by omega) (by omega), fc c (by omega)]
  refine gv_v (set_B (.inl rfl) hwB.1 hRU hFB) ?_
  intro _ ρ ⟨p1, p2⟩
  exact gv_i ⟨rfl, p1, hwB.1, hwB.2, p2⟩
theorem call_block (h : InvR σ σ) (x y z : Int32) : Call σ (s_X10_block σ x y z) (fun τ => s_X11_block τ x y z) := by
  have hw := h.w
  have n8 := hw.n8
  have e0 : σ 2 1 = nI (nB (σ 151)) := by rw [h.f.1.n]; exact hw.n
  have e0' : σ 151 0 = nI (nB (σ 151)) := hw.n
  by_cases c : win x 0 5
  · by_cases c2 : win y 1 30
    · by_cases c3 : win z 1 30
      · by_cases c4 : nB (σ 151) < 8
        · obtain ⟨k, hk, rfl⟩ := win_n (n := 5) (by omega) rfl c
          obtain ⟨a, a1, a2, rfl⟩ := win_1 (n := 30) (by omega) rfl c2
          obtain ⟨b, b1, b2, rfl⟩ := win_1 (n := 30) (by omega) rfl c3
          have hv : VB (nI k) (nI a) (nI b) 0 := ⟨k, a, b, 0, rfl, rfl, rfl, rfl, by omega, a1, a2, b1, b2, shp_p⟩
          generalize hn : nB (σ 151) = n at *
          have l1 : nI n < 8 := nI_lt (a := n) (b := 8) c4 (by omega)
          have l2 : ¬ nI n = 8 := fun e => by have := (nI_eq (a := n) (b := 8) (by omega) (by omega)).mp e; omega
          refine call_g (fun r τ => r = nI n ∧ RF τ 2 (blA (σ 151) n (nI k) (nI a) (nI b)) ∧ WF (blA (σ 151) n (nI k) (nI a) (nI b)) ∧ nB (blA (σ 151) n (nI k) (nI a) (nI b)) = n + 1 ∧ FB 2 (up σ 110 4 0) τ) ?_ (fun r τ p => by rw [p.2.2.2.2 _ (by omega), up_d (by omega)]) ?_
          · have hF : RF (up σ 110 4 0) 2 (σ 151) := RF_c h.f (by omega) (fun c a b d => up_d (by omega))
            unfold s_X10_block s_X8_forget
            rw [isKind_e, wI_1 c, bn_some, if_neg n10, within_e, wI_1 c2, bn_some, if_neg n10, within_e, wI_1 c3, bn_some, if_neg n10, e0, if_pos l1, lt_e, bv_some]
            refine gv_n (x1_addBlock hw hF hn c4 hv) ?_
            intro r τ p
            exact gv_i p
          · intro r τ ⟨hr, p1, p2, p3, p4⟩
            have hA : τ 151 = σ 151 := by rw [p4 _ (by omega), up_d (by omega)]
            have tc : ∀ c, c < 2 ∨ 20 ≤ c → c ≠ 110 → τ c = σ c := fun c a b => by rw [p4 c (by omega), up_d b]
            generalize hB : blA (σ 151) n (nI k) (nI a) (nI b) = B at *
            have hm : ∃ ρ : Sg, s_X11_block τ (nI k) (nI a) (nI b) = some (nI n, ρ) ∧ ρ 151 = B ∧ ρ 150 = ua (τ 150) 5 0 ∧ ∀ c, c ≠ 150 → c ≠ 151 → ρ c = τ c := by
              unfold s_X11_block s_X11_blockAt
              have i0 : (20 : Int32) + 6 * nI n = nI (20 + 6 * n) := by
                show nI 20 + nI 6 * nI n = _
                rw [pk_mul, nI_add]
              have i1 : nI (20 + 6 * n) + 1 = nI (20 + 6 * n + 1) := nI_1 _
              have i2 : nI (20 + 6 * n) + 2 = nI (20 + 6 * n + 2) := nI_add _ _
              have i3 : nI (20 + 6 * n) + 3 = nI (20 + 6 * n + 3) := nI_add _ _
              have i4 : nI (20 + 6 * n) + 4 = nI (20 + 6 * n + 4) := nI_add _ _
              have i5 : nI (20 + 6 * n) + 5 = nI (20 + 6 * n + 5) := nI_add _ _
              have i7 : (70 : Int32) + nI n = nI (70 + n) := nI_add _ _
              have i8 : (78 : Int32) + nI n = nI (78 + n) := nI_add _ _
              rw [isIn_0_5, wI_1 c, bn_some, if_neg n10, isIn_1_30, wI_1 c2, bn_some, if_neg n10, isIn_1_30, wI_1 c3, bn_some, if_neg n10, hA, e0', lt_e, if_neg l2, bn_some, i0, if_pos (inb_nI (by omega) (by omega)), cl_nI (by omega), lt_e, i1, if_pos (inb_nI (by omega) (by omega)), cl_nI (by omega), lt_e, i2, if_pos (inb_nI (by omega) (by omega)), cl_nI (by omega), lt_e, i3, if_pos (inb_nI (by omega) (by omega)), cl_nI (by omega), lt_e, i4, if_pos (inb_nI (by omega) (by omega)), cl_nI (by omega), lt_e, i5, if_pos (inb_nI (by omega) (by omega)), cl_nI (by omega), lt_e, i7, if_pos (inb_nI (by omega) (by omega)), cl_nI (by omega), lt_e, i8, if_pos (inb_nI (by omega) (by omega)), cl_nI (by omega), lt_e, up_f, ua_n (by omega), up_f, ua_n (by omega), up_f, ua_n (by omega), up_f, ua_n (by omega), up_f, ua_n (by omega), up_f, ua_n (by omega), up_f, ua_n (by omega), up_f, ua_n (by omega), hA, e0', nI_1, lt_e, lt_e]
              refine ⟨_, rfl, ?_, ?_, ?_⟩
              · rw [up_d (by omega), up_f, up_f, up_f, up_f, up_f, up_f, up_f, up_f, up_f, hA, ← hB]
                rfl
              · rw [up_f, up_d (by omega), up_d (by omega), up_d (by omega), up_d (by omega), up_d (by omega), up_d (by omega), up_d (by omega), up_d (by omega), up_d (by omega)]
              · intro c a b
                rw [up_d a, up_d b, up_d b, up_d b, up_d b, up_d b, up_d b, up_d b, up_d b, up_d b]
            obtain ⟨ρ, m1, m2, m3, m4⟩ := hm
            refine gv_e m1 (gv_i ⟨hr.symm, ?_, by rw [m4 _ (by omega) (by omega), tc _ (by omega) (by omega)]⟩)
            have e : ∀ c, c < 2 ∨ 20 ≤ c → c ≠ 110 → c ≠ 150 → c ≠ 151 → ρ c = σ c := fun c a b d f => by rw [m4 c d f, tc c a b]
            have s : ∀ j, j ≠ 5 → ρ 150 j = σ 150 j := fun j hj => by rw [m3, ua_n hj, tc _ (by omega) (by omega)]
            have r0 : ρ 110 = ua (σ 110) 4 0 := by rw [m4 _ (by omega) (by omega), p4 _ (by omega), up_f]
            refine inv_b h m2 p2 (fun j hj => by rw [← hB]; exact blA_o _ _ _ _ c4 j (by omega) (by omega) (by omega) (by omega)) ?_ ?_ (fun c a b d f => e c (by omega) (by omega) (by omega) (by omega)) (by rw [e _ (by omega) (by omega) (by omega) (by omega)]) ⟨s _ (by omega), s _ (by omega), s _ (by omega)⟩
            · exact RF_c p1 (by omega) (fun c a b d => m4 c (by omega) (by omega))
            · exact TRL_0 h.2.2.2.1 (by rw [r0, ua_s]) (by rw [r0, ua_n (by omega)]) (by rw [m3, ua_s])
        · have c5 : nB (σ 151) = 8 := by omega
          rw [c5] at e0 e0'
          refine call_q h (-1000000003) (bad_c _ _ ?_) (fun τ q => bad_m _ _ ?_)
          · unfold s_X10_block
            rw [isKind_e, wI_1 c, bn_some, if_neg n10, within_e, wI_1 c2, bn_some, if_neg n10, within_e, wI_1 c3, bn_some, if_neg n10, e0, if_neg (by decide)]
          · unfold s_X11_block
            rw [isIn_0_5, wI_1 c, bn_some, if_neg n10, isIn_1_30, wI_1 c2, bn_some, if_neg n10, isIn_1_30, wI_1 c3, bn_some, if_neg n10, q.m (by omega), e0', lt_e, if_pos (by decide)]
      · refine call_q h (-1000000001) (bad_c _ _ ?_) (fun τ q => bad_m _ _ ?_)
        · unfold s_X10_block
          rw [isKind_e, wI_1 c, bn_some, if_neg n10, within_e, wI_1 c2, bn_some, if_neg n10, within_e, wI_0 c3, bn_some, if_pos rfl]
        · unfold s_X11_block
          rw [isIn_0_5, wI_1 c, bn_some, if_neg n10, isIn_1_30, wI_1 c2, bn_some, if_neg n10, isIn_1_30, wI_0 c3, bn_some, if_pos rfl]
    · refine call_q h (-1000000001) (bad_c _ _ ?_) (fun τ q => bad_m _ _ ?_)
      · unfold s_X10_block
        rw [isKind_e, wI_1 c, bn_some, if_neg n10, within_e, wI_0 c2, bn_some, if_pos rfl]
      · unfold s_X11_block
        rw [isIn_0_5, wI_1 c, bn_some, if_neg n10, isIn_1_30, wI_0 c2, bn_some, if_pos rfl]
  · refine call_q h (-1000000001) (bad_c _ _ ?_) (fun τ q => bad_m _ _ ?_)
    · unfold s_X10_block
      rw [isKind_e, wI_0 c, bn_some, if_pos rfl]
    · unfold s_X11_block
      rw [isIn_0_5, wI_0 c, bn_some, if_pos rfl]
end bk
