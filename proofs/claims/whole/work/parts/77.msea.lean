def tsS (n e : Nat) : Nat → Int32
  | 0 => 0
  | t + 1 => tsS n e t ||| (1 <<< (nI (e / n ^ t % n) &&& 31))
def tsB (n : Nat) : Bool := (List.range (n ^ n)).all (fun e => decide (tsS n e n = (1 <<< (nI n &&& 31)) - 1) == decide (e ∈ pm n))
theorem ts1 : tsB 1 = true := by decide +kernel
theorem ts2 : tsB 2 = true := by decide +kernel
theorem ts3 : tsB 3 = true := by decide +kernel
theorem ts4 : tsB 4 = true := by decide +kernel
theorem n14 {n : Nat} (h1 : 1 ≤ n) (h4 : n ≤ 4) : n = 1 ∨ n = 2 ∨ n = 3 ∨ n = 4 := by omega
theorem ts_e {n e : Nat} (h1 : 1 ≤ n) (h4 : n ≤ 4) (he : e < n ^ n) : (tsS n e n = (1 <<< (nI n &&& 31)) - 1) ↔ e ∈ pm n := by
  have k : tsB n = true := by
    rcases n14 h1 h4 with rfl | rfl | rfl | rfl
    · exact ts1
    · exact ts2
    · exact ts3
    · exact ts4
  have := List.all_eq_true.mp k e (List.mem_range.mpr he)
  have := eq_of_beq this
  exact decide_eq_decide.mp this
theorem pw_le {n : Nat} (h1 : 1 ≤ n) (h4 : n ≤ 4) : 1 ≤ n ^ n ∧ n ^ n ≤ 256 := by
  rcases n14 h1 h4 with rfl | rfl | rfl | rfl <;> decide
theorem pm_r {n : Nat} (h1 : 1 ≤ n) (h4 : n ≤ 4) : (List.range (n ^ n)).filter (fun e => decide (e ∈ pm n)) = pm n := by
  rcases n14 h1 h4 with rfl | rfl | rfl | rfl <;> decide +kernel
theorem pm_b {n : Nat} (h1 : 1 ≤ n) (h4 : n ≤ 4) : ∀ e, e ∈ pm n → e < n ^ n := by
  intro e he
  rw [← pm_r h1 h4] at he
  exact List.mem_range.mp (List.mem_filter.mp he).1
theorem tell_e {σ : Sg} {n e r : Nat} (h1 : 1 ≤ n) (h4 : n ≤ 4) (he : e < n ^ n) (hr : r ≤ 1) (h0 : σ 151 0 = nI n) : Gv (s_X11_tellRow σ (nI r) (nI e)) (fun v τ => v = (if e ∈ pm n then 1 else 0) ∧ (∀ c, c ≠ 151 → τ c = σ c) ∧ (∀ k, k < n → τ 151 (70 + 8 * r + k) = nI (dgt n e k)) ∧ (∀ j, j < 70 + 8 * r ∨ 70 + 8 * r + n ≤ j → τ 151 j = σ 151 j)) := by
  have hp := pw_le h1 h4
  have nz : ¬ nI n = 0 := nI_ne0 (by omega) (by omega)
  unfold s_X11_tellRow
  simp only [lt_e, h0]
  refine gv_loop0 (fun m t τ => s_X11_tellRow_18 m τ (nI r) (nI n) (nI (e / n ^ t)) (tsS n e t) (nI (n - t) - 1)) n (fun t τ => (∀ c, c ≠ 151 → τ c = σ c) ∧ (∀ k, n - t ≤ k → k < n → τ 151 (70 + 8 * r + k) = nI (dgt n e k)) ∧ (∀ j, j < 70 + 8 * r ∨ 70 + 8 * r + n ≤ j → τ 151 j = σ 151 j)) (a := σ) (by omega) ⟨fun _ _ => rfl, fun k h1 h2 => absurd h2 (by omega), fun _ _ => rfl⟩ ?_ ?_ |> gv_e ?_
  · rw [Nat.pow_zero, Nat.div_one]; rfl
  · intro m t τ ht ⟨r1, r2, r3⟩
    have hd : e / n ^ t ≤ e := Nat.div_le_self _ _
    refine ⟨up τ 151 (70 + 8 * r + (n - t - 1)) (nI (e / n ^ t % n)), ?_, ?_, ?_, ?_⟩
    · rw [predI (by omega)]
      have c0 : ¬ nI (n - t - 1) < 0 := nI_pos (by omega)
      simp only [s_X11_tellRow_18]
      simp (disch := omega) only [c0, nz, ↓reduceIte, NK, nI_add, inb_n, cl_nI, lt_e, pk_rem, m1p]
      simp (disch := omega) only [pk_div]
      rw [show n - (t + 1) = n - t - 1 by omega, Nat.pow_succ, ← Nat.div_div_eq_div_mul]
      rfl
    · intro c hc; rw [up_d hc]; exact r1 c hc
    · intro k h1 h2
      rw [up_f]
      by_cases q : k = n - t - 1
      · subst q
        rw [ua_s]
        unfold dgt
        rw [show n - 1 - (n - t - 1) = t by omega]
      · rw [ua_n (by omega)]; exact r2 k (by omega) h2
    · intro j hj
      rw [up_f, ua_n (by omega)]; exact r3 j hj
  · intro m τ ⟨r1, r2, r3⟩
    have c0 : nI (n - n) - 1 < 0 := by rw [Nat.sub_self]; decide
    simp only [s_X11_tellRow_18]
    simp only [c0, ↓reduceIte, ts_e h1 h4 he]
    by_cases c : e ∈ pm n
    · rw [if_pos c]; exact gv_i ⟨by rw [if_pos c], r1, fun k hk => r2 k (by omega) hk, r3⟩
    · rw [if_neg c]; exact gv_i ⟨by rw [if_neg c], r1, fun k hk => r2 k (by omega) hk, r3⟩
theorem times_e (σ : Sg) {n k : Nat} (hk : k ≤ 4) : s_X11_timesItself σ (nI n) (nI k) = some (nI (n ^ k), σ) := by
  unfold s_X11_timesItself
  have := loop0P (fun m i v => s_X11_timesItself_4 m σ (nI n) (nI k) v (nI i)) (fun v => some (v, σ)) (fun i _ => nI (n ^ (i + 1))) k (fun i v => v = nI (n ^ i)) 1 (by omega) (by rw [Nat.pow_zero]; rfl) ?_ ?_
  · refine this.1.trans ?_
    rw [this.2]
  · intro m i v hi hv
    refine ⟨?_, rfl⟩
    subst hv
    show s_X11_timesItself_4 (m + 1) σ (nI n) (nI k) (nI (n ^ i)) (nI i) = _
    simp only [s_X11_timesItself_4]
    simp (disch := omega) only [le_F, ↓reduceIte, lt_e, pk_mul, nI_1]
    rw [Nat.pow_succ]
  · intro m v _
    simp only [s_X11_timesItself_4]
    simp (disch := omega) only [le_T, ↓reduceIte]
/- the fold over all numbers, those that tell an order alone -/
def fl (n e : Nat) : List Nat := (List.range e).filter (fun e => decide (e ∈ pm n))
theorem fl_s {α : Type} (f : α → Nat → α) (n e : Nat) (a : α) : (fl n (e + 1)).foldl f a = if e ∈ pm n then f ((fl n e).foldl f a) e else (fl n e).foldl f a := by
  unfold fl
  rw [List.range_succ, List.filter_append, List.foldl_append]
  by_cases c : e ∈ pm n
  · simp [c]
  · simp [c]
def MRl (a : Int32 × Nat × Nat) (b : Int32) (τ : Sg) : Prop := (a.1 = 2147483647 ∧ b = -1) ∨ (a.1 = b ∧ sm 3000000 b ∧ τ 150 20 = nI a.2.1 ∧ τ 150 21 = nI a.2.2)
def FV (n : Nat) (A : Nat → Int32) (σ τ : Sg) : Prop := FT σ τ ∧ τ 166 = σ 166 ∧ ∀ j, j < 70 ∨ (70 + n ≤ j ∧ j < 78) ∨ 78 + n ≤ j → τ 151 j = A j
theorem r0 : nI 0 = 0 := rfl
theorem r1_ : nI 1 = 1 := rfl
theorem sr1_y {A : Nat → Int32} {e1 e2 : Nat} {a : Int32 × Nat × Nat} (h : a.1 ≤ priceA (rwA A e1 e2)) : sr1 A e1 a e2 = a := by unfold sr1; rw [if_pos h]
theorem sr1_n {A : Nat → Int32} {e1 e2 : Nat} {a : Int32 × Nat × Nat} (h : ¬ a.1 ≤ priceA (rwA A e1 e2)) : sr1 A e1 a e2 = (priceA (rwA A e1 e2), e1, e2) := by unfold sr1; rw [if_neg h]
section msea
variable {σ : Sg} {A : Nat → Int32}
theorem m_inner (hw : WF A) (h1 : 1 ≤ nB A) (h4 : nB A ≤ 4) (K : Sg → Int32 → Int32 → Int32 → RO) {e1 : Nat} (he1 : e1 ∈ pm (nB A)) (a0 : Int32 × Nat × Nat) (b0 : Int32) (hm : MRl a0 b0 σ) (hx : ∀ j, j < 70 ∨ (70 + nB A ≤ j ∧ j < 78) ∨ 78 + nB A ≤ j → σ 151 j = A j) (hr : ∀ k, k < nB A → σ 151 (70 + k) = nI (dgt (nB A) e1 k)) :
    ∃ b τ, s_X11_leastPrice_73 K FU σ (nI (nB A ^ nB A)) b0 (nI e1) 0 = K τ (nI (nB A ^ nB A)) b (nI (e1 + 1)) ∧ MRl (srI A a0 e1) b τ ∧ FV (nB A) A σ τ := by
  have n8 := hw.n8
  obtain ⟨p1, p2⟩ := pw_le h1 h4
  have stepH : ∀ m e (a : Int32 × Sg), e < nB A ^ nB A → (fun e (a : Int32 × Sg) => MRl ((fl (nB A) e).foldl (sr1 A e1) a0) a.1 a.2 ∧ FV (nB A) A σ a.2 ∧ ∀ k, k < nB A → a.2 151 (70 + k) = nI (dgt (nB A) e1 k)) e a → ∃ a' : Int32 × Sg, (fun m e (a : Int32 × Sg) => s_X11_leastPrice_73 K m a.2 (nI (nB A ^ nB A)) a.1 (nI e1) (nI e)) (m + 1) e a = (fun m e (a : Int32 × Sg) => s_X11_leastPrice_73 K m a.2 (nI (nB A ^ nB A)) a.1 (nI e1) (nI e)) m (e + 1) a' ∧ (fun e (a : Int32 × Sg) => MRl ((fl (nB A) e).foldl (sr1 A e1) a0) a.1 a.2 ∧ FV (nB A) A σ a.2 ∧ ∀ k, k < nB A → a.2 151 (70 + k) = nI (dgt (nB A) e1 k)) (e + 1) a' := by
    intro m e ⟨b, τ⟩ he ⟨q1, q2, q3⟩
    have q1 : MRl ((fl (nB A) e).foldl (sr1 A e1) a0) b τ := q1
    have q2 : FV (nB A) A σ τ := q2
    have q3 : ∀ k, k < nB A → τ 151 (70 + k) = nI (dgt (nB A) e1 k) := q3
    obtain ⟨v, τ1, et, t1, t2, t3, t4⟩ := tell_e (σ := τ) (e := e) (r := 1) h1 h4 he (by omega) (by rw [q2.2.2 0 (by omega), hw.n])
    have et : s_X11_tellRow τ 1 (nI e) = some (v, τ1) := et
    have x1 : ∀ j, j < 70 ∨ (70 + nB A ≤ j ∧ j < 78) ∨ 78 + nB A ≤ j → τ1 151 j = A j := fun j hj => by rw [t4 j (by omega)]; exact q2.2.2 j hj
    have x2 : ∀ k, k < nB A → τ1 151 (70 + k) = nI (dgt (nB A) e1 k) := fun k hk => by rw [t4 _ (by omega)]; exact q3 k hk
    have f1 : FV (nB A) A σ τ1 := ⟨q2.1.t (FT_1 t2), by rw [t2 166 (by omega)]; exact q2.2.1, x1⟩
    have m1 : MRl ((fl (nB A) e).foldl (sr1 A e1) a0) b τ1 := by
      unfold MRl at q1 ⊢; rw [t2 150 (by omega)]; exact q1
    by_cases c : e ∈ pm (nB A)
    · have tA : τ1 151 = rwA A e1 e := by
        funext j
        by_cases c1 : 70 ≤ j ∧ j < 70 + nB A
        · obtain ⟨k, rfl⟩ : ∃ k, j = 70 + k := ⟨j - 70, by omega⟩
          rw [x2 k (by omega), rw_1 (by omega)]
        · by_cases c2 : 78 ≤ j ∧ j < 78 + nB A
          · obtain ⟨k, rfl⟩ : ∃ k, j = 78 + k := ⟨j - 78, by omega⟩
            rw [rw_2 n8 (by omega)]
            have := t3 k (by omega)
            rw [show 70 + 8 * 1 + k = 78 + k by omega] at this
            exact this
          · rw [x1 j (by omega)]
            unfold rwA; rw [if_neg c1, if_neg c2]
      have wB := rw_w hw h4 he1 c
      obtain ⟨pr, τ2, ep, u1, u2, u3⟩ := m_price wB tA
      subst u1
      have x3 : τ2 151 = rwA A e1 e := u2.s.trans tA
      have y1 : ∀ j, j < 70 ∨ (70 + nB A ≤ j ∧ j < 78) ∨ 78 + nB A ≤ j → τ2 151 j = A j := fun j hj => by rw [u2.s]; exact x1 j hj
      have y2 : ∀ k, k < nB A → τ2 151 (70 + k) = nI (dgt (nB A) e1 k) := fun k hk => by rw [u2.s]; exact x2 k hk
      have f2 : FV (nB A) A σ τ2 := ⟨f1.1.t u2.ft, by rw [u2.1 166 (by omega) (by omega) (by omega) (by omega)]; exact f1.2.1, y1⟩
      have m2 : MRl ((fl (nB A) e).foldl (sr1 A e1) a0) b τ2 := by
        unfold MRl at m1 ⊢; rw [u2.2 20 (by omega) (by omega), u2.2 21 (by omega) (by omega)]; exact m1
      obtain ⟨pv, hpv, epv⟩ := price_b wB
      have np : ¬ priceA (rwA A e1 e) < 0 := by rw [epv]; exact nI_pos (by omega)
      rw [if_pos c] at t1
      subst t1
      have f3 : FV (nB A) A σ (up (up τ2 150 20 (nI e1)) 150 21 (nI e)) := by
        refine ⟨f2.1.t ⟨fun c h1 _ _ _ _ _ _ _ => by rw [up_d h1, up_d h1], fun j _ _ h3 h4 => by rw [up_f, ua_n h4, up_f, ua_n h3]⟩, ?_, ?_⟩
        · rw [up_d (by omega), up_d (by omega)]; exact f2.2.1
        · intro j hj; rw [up_d (by omega), up_d (by omega)]; exact y1 j hj
      have z2 : ∀ k, k < nB A → up (up τ2 150 20 (nI e1)) 150 21 (nI e) 151 (70 + k) = nI (dgt (nB A) e1 k) := fun k hk => by rw [up_d (by omega), up_d (by omega)]; exact y2 k hk
      have m3 : MRl (priceA (rwA A e1 e), e1, e) (priceA (rwA A e1 e)) (up (up τ2 150 20 (nI e1)) 150 21 (nI e)) := .inr ⟨rfl, ⟨pv, hpv, epv⟩, by rw [up_f, ua_n (by omega), up_f, ua_s], by rw [up_f, ua_s]⟩
      rcases m2 with ⟨v1, v2⟩ | ⟨v1, v2, v3, v4⟩
      · subst v2
        refine ⟨(priceA (rwA A e1 e), up (up τ2 150 20 (nI e1)) 150 21 (nI e)), ?_, ?_, f3, z2⟩
        · show s_X11_leastPrice_73 K (m + 1) τ (nI (nB A ^ nB A)) (-1) (nI e1) (nI e) = _
          simp only [s_X11_leastPrice_73, s_X11_leastPrice_97, s_X11_leastPrice_114]
          simp (disch := omega) only [le_F, ↓reduceIte, et, bn_some, show ¬ (1 : Int32) = 0 by decide, ep, np, show (-1 : Int32) < 0 by decide, nI_1, lt_e]
        · show MRl ((fl (nB A) (e + 1)).foldl (sr1 A e1) a0) _ _
          rw [fl_s, if_pos c]
          rw [sr1_n (by rw [v1, epv]; exact nI_ge (b := 2147483647) (by omega) (by omega))]
          exact m3
      · obtain ⟨bv', hbv, ebv⟩ := v2
        have nb : ¬ b < 0 := by rw [ebv]; exact nI_pos (by omega)
        by_cases c2 : b ≤ priceA (rwA A e1 e)
        · refine ⟨(b, τ2), ?_, ?_, f2, y2⟩
          · show s_X11_leastPrice_73 K (m + 1) τ (nI (nB A ^ nB A)) b (nI e1) (nI e) = _
            simp only [s_X11_leastPrice_73, s_X11_leastPrice_97]
            simp (disch := omega) only [le_F, ↓reduceIte, et, bn_some, show ¬ (1 : Int32) = 0 by decide, ep, np, nb, c2, nI_1]
          · show MRl ((fl (nB A) (e + 1)).foldl (sr1 A e1) a0) _ _
            rw [fl_s, if_pos c]
            rw [sr1_y (by rw [v1]; exact c2)]
            exact .inr ⟨v1, ⟨bv', hbv, ebv⟩, v3, v4⟩
        · refine ⟨(priceA (rwA A e1 e), up (up τ2 150 20 (nI e1)) 150 21 (nI e)), ?_, ?_, f3, z2⟩
          · show s_X11_leastPrice_73 K (m + 1) τ (nI (nB A ^ nB A)) b (nI e1) (nI e) = _
            simp only [s_X11_leastPrice_73, s_X11_leastPrice_97, s_X11_leastPrice_114]
            simp (disch := omega) only [le_F, ↓reduceIte, et, bn_some, show ¬ (1 : Int32) = 0 by decide, ep, np, nb, c2, nI_1, lt_e]
          · show MRl ((fl (nB A) (e + 1)).foldl (sr1 A e1) a0) _ _
            rw [fl_s, if_pos c]
            rw [sr1_n (by rw [v1]; exact c2)]
            exact m3
    · subst t1
      refine ⟨(b, τ1), ?_, ?_, f1, x2⟩
      · show s_X11_leastPrice_73 K (m + 1) τ (nI (nB A ^ nB A)) b (nI e1) (nI e) = _
        simp only [s_X11_leastPrice_73, s_X11_leastPrice_97]
        simp (disch := omega) only [le_F, ↓reduceIte, et, bn_some, c, show (-1 : Int32) < 0 by decide, nI_1]
      · show MRl ((fl (nB A) (e + 1)).foldl (sr1 A e1) a0) b τ1
        rw [fl_s, if_neg c]; exact m1
  obtain ⟨m', ⟨b, τ⟩, e, q1, q2, q3⟩ := ex_loop (F := fun m e (a : Int32 × Sg) => s_X11_leastPrice_73 K m a.2 (nI (nB A ^ nB A)) a.1 (nI e1) (nI e)) (P := fun e (a : Int32 × Sg) => MRl ((fl (nB A) e).foldl (sr1 A e1) a0) a.1 a.2 ∧ FV (nB A) A σ a.2 ∧ ∀ k, k < nB A → a.2 151 (70 + k) = nI (dgt (nB A) e1 k)) (n := nB A ^ nB A) stepH (nB A ^ nB A) 0 FU (b0, σ) (by omega) (by show _ < 4096; omega) ⟨hm, ⟨FT.r σ, rfl, hx⟩, hr⟩
  have e' : s_X11_leastPrice_73 K FU σ (nI (nB A ^ nB A)) b0 (nI e1) 0 = s_X11_leastPrice_73 K (m' + 1) τ (nI (nB A ^ nB A)) b (nI e1) (nI (nB A ^ nB A)) := e
  have q1' : MRl ((fl (nB A) (nB A ^ nB A)).foldl (sr1 A e1) a0) b τ := q1
  unfold fl at q1'
  rw [pm_r h1 h4] at q1'
  refine ⟨b, τ, ?_, q1', q2⟩
  rw [e']
  simp only [s_X11_leastPrice_73]
  simp (disch := omega) only [le_T, ↓reduceIte, nI_1]
theorem m_least (hw : WF A) (hA : σ 151 = A) (h1 : 1 ≤ nB A) (h4 : nB A ≤ 4) : Gv (s_X11_leastPrice σ) (fun r τ => (MRl (srA A) r τ) ∧ FS σ τ) := by
  have n8 := hw.n8
  obtain ⟨p1, p2⟩ := pw_le h1 h4
  unfold s_X11_leastPrice
  have e0 : σ 151 0 = nI (nB A) := by rw [hA, hw.n]
  rw [e0, lt_e, times_e σ h4, bn_some]
  refine gv_loop0 (fun m k τ => s_X11_leastPrice_18 m τ (nI (nB A ^ nB A)) (-1) (nI k)) 16 (fun k τ => (∀ c, c ≠ 166 → τ c = σ c) ∧ ∀ i, i < k → τ 166 i = A (70 + i)) (by omega) ⟨fun _ _ => rfl, fun i hi => absurd hi (by omega)⟩ ?_ ?_
  · intro m k τ hk ⟨r1, r2⟩
    refine ⟨up τ 166 k (A (70 + k)), ?_, ?_, ?_⟩
    · have tA : τ 151 = A := by rw [r1 151 (by omega), hA]
      have c16 : ¬ (16 : Int32) ≤ nI k := nI_ge (b := 16) hk (by omega)
      simp only [s_X11_leastPrice_18]
      simp (disch := omega) only [c16, ↓reduceIte, NK, inb_n, cl_nI, lt_e, tA]
    · intro c hc; rw [up_d hc]; exact r1 c hc
    · intro i hi
      rw [up_f]
      by_cases q : i = k
      · subst q; exact ua_s
      · rw [ua_n q]; exact r2 i (by omega)
  · intro m τ0 ⟨r1, r2⟩
    have c16 : (16 : Int32) ≤ nI 16 := by decide
    simp only [s_X11_leastPrice_18, c16, ↓reduceIte]
    have t0A : τ0 151 = A := by rw [r1 151 (by omega), hA]
    refine gv_loop0 (fun m e (a : Int32 × Sg) => s_X11_leastPrice_51 m a.2 (nI (nB A ^ nB A)) a.1 (nI e)) (nB A ^ nB A) (fun e a => MRl ((fl (nB A) e).foldl (srI A) (2147483647, 0, 0)) a.1 a.2 ∧ FV (nB A) A τ0 a.2) (a := (-1, τ0)) (by omega) ⟨.inl ⟨rfl, rfl⟩, FT.r τ0, rfl, fun j _ => by show τ0 151 j = A j; rw [t0A]⟩ ?_ ?_
    · intro m e ⟨b, τ⟩ he ⟨q1, q2⟩
      have q1 : MRl ((fl (nB A) e).foldl (srI A) (2147483647, 0, 0)) b τ := q1
      have q2 : FV (nB A) A τ0 τ := q2
      obtain ⟨v, τ1, et, t1, t2, t3, t4⟩ := tell_e (σ := τ) (e := e) (r := 0) h1 h4 he (by omega) (by rw [q2.2.2 0 (by omega), hw.n])
      have et : s_X11_tellRow τ 0 (nI e) = some (v, τ1) := et
      have x1 : ∀ j, j < 70 ∨ (70 + nB A ≤ j ∧ j < 78) ∨ 78 + nB A ≤ j → τ1 151 j = A j := fun j hj => by rw [t4 j (by omega)]; exact q2.2.2 j hj
      have f1 : FV (nB A) A τ0 τ1 := ⟨q2.1.t (FT_1 t2), by rw [t2 166 (by omega)]; exact q2.2.1, x1⟩
      have m1 : MRl ((fl (nB A) e).foldl (srI A) (2147483647, 0, 0)) b τ1 := by
        unfold MRl at q1 ⊢; rw [t2 150 (by omega)]; exact q1
      by_cases c : e ∈ pm (nB A)
      · rw [if_pos c] at t1
        subst t1
        obtain ⟨b', τ2, ei, u1, u2⟩ := m_inner hw h1 h4 (s_X11_leastPrice_51 m) c _ b m1 x1 (fun k hk => by have := t3 k hk; rw [show 70 + 8 * 0 + k = 70 + k by omega] at this; exact this)
        refine ⟨(b', τ2), ?_, ?_, f1.1.t u2.1, u2.2.1.trans f1.2.1, u2.2.2⟩
        · show s_X11_leastPrice_51 (m + 1) τ (nI (nB A ^ nB A)) b (nI e) = _
          simp only [s_X11_leastPrice_51]
          simp (disch := omega) only [le_F, ↓reduceIte, et, bn_some, show ¬ (1 : Int32) = 0 by decide]
          exact ei
        · show MRl ((fl (nB A) (e + 1)).foldl (srI A) (2147483647, 0, 0)) b' τ2
          rw [fl_s, if_pos c]; exact u1
      · rw [if_neg c] at t1
        subst t1
        refine ⟨(b, τ1), ?_, ?_, f1⟩
        · show s_X11_leastPrice_51 (m + 1) τ (nI (nB A ^ nB A)) b (nI e) = _
          simp only [s_X11_leastPrice_51]
          simp (disch := omega) only [le_F, ↓reduceIte, et, bn_some, nI_1]
        · show MRl ((fl (nB A) (e + 1)).foldl (srI A) (2147483647, 0, 0)) b τ1
          rw [fl_s, if_neg c]; exact m1
    · intro m ⟨b, τ⟩ ⟨q1, q2⟩
      have q1 : MRl ((fl (nB A) (nB A ^ nB A)).foldl (srI A) (2147483647, 0, 0)) b τ := q1
      have q2 : FV (nB A) A τ0 τ := q2
      unfold fl at q1
      rw [pm_r h1 h4] at q1
      show Gv (s_X11_leastPrice_51 (m + 1) τ (nI (nB A ^ nB A)) b (nI (nB A ^ nB A))) _
      simp only [s_X11_leastPrice_51]
      simp (disch := omega) only [le_T, ↓reduceIte]
      refine gv_loop0 (fun m k ρ => s_X11_leastPrice_144 m ρ b (nI k)) 16 (fun k ρ => (∀ c, c ≠ 151 → ρ c = τ c) ∧ (∀ j, j < 70 + k ∨ 86 ≤ j → ρ 151 j = A j)) (by omega) ⟨fun _ _ => rfl, fun j hj => q2.2.2 j (by omega)⟩ ?_ ?_
      · intro m k ρ hk ⟨s1, s2⟩
        refine ⟨up ρ 151 (70 + k) (A (70 + k)), ?_, ?_, ?_⟩
        · have c16 : ¬ (16 : Int32) ≤ nI k := nI_ge (b := 16) hk (by omega)
          have e6 : ρ 166 k = A (70 + k) := by rw [s1 166 (by omega), q2.2.1, r2 k hk]
          simp only [s_X11_leastPrice_144]
          simp (disch := omega) only [c16, ↓reduceIte, NK, inb_n, cl_nI, lt_e, e6]
        · intro c hc; rw [up_d hc]; exact s1 c hc
        · intro j hj
          rw [up_f]
          by_cases q : j = 70 + k
          · subst q; exact ua_s
          · rw [ua_n q]; exact s2 j (by omega)
      · intro m ρ ⟨s1, s2⟩
        simp only [s_X11_leastPrice_144, c16, ↓reduceIte]
        have rA : ρ 151 = A := by funext j; exact s2 j (by omega)
        refine gv_i ⟨?_, ?_, ?_⟩
        · unfold MRl at q1 ⊢; rw [s1 150 (by omega)]; exact q1
        · intro c h1 h2 h3 h4 h5 h6 h7
          by_cases c1 : c = 151
          · subst c1; rw [rA, hA]
          · rw [s1 c c1, q2.1.1 c h1 c1 h2 h3 h4 h5 h6 h7, r1 c h5]
        · intro j h1 h2 h3 h4
          rw [s1 150 (by omega), q2.1.2 j h1 h2 h3 h4, r1 150 (by omega)]
/- something is found -/
theorem sr_f (hw : WF A) (h4 : nB A ≤ 4) : sm 3000000 (srA A).1 ∧ (srA A).2.1 ∈ pm (nB A) ∧ (srA A).2.2 ∈ pm (nB A) := by
  have key : ∀ (l : List Nat) (e1 : Nat) (a : Int32 × Nat × Nat), e1 ∈ pm (nB A) → (∀ e, e ∈ l → e ∈ pm (nB A)) → (a.1 = 2147483647 ∨ (sm 3000000 a.1 ∧ a.2.1 ∈ pm (nB A) ∧ a.2.2 ∈ pm (nB A))) → (l.foldl (sr1 A e1) a = a ∧ l = []) ∨ (sm 3000000 (l.foldl (sr1 A e1) a).1 ∧ (l.foldl (sr1 A e1) a).2.1 ∈ pm (nB A) ∧ (l.foldl (sr1 A e1) a).2.2 ∈ pm (nB A)) := by
    intro l e1
    induction l with
    | nil => intro a _ _ _; exact .inl ⟨rfl, rfl⟩
    | cons e l ih =>
      intro a h1 h2 h3
      have hs : sm 3000000 (sr1 A e1 a e).1 ∧ (sr1 A e1 a e).2.1 ∈ pm (nB A) ∧ (sr1 A e1 a e).2.2 ∈ pm (nB A) := by
        have hp := price_b (rw_w hw h4 h1 (h2 e (by simp)))
        unfold sr1
        rcases h3 with h3 | h3
        · obtain ⟨pv, hpv, epv⟩ := hp
          rw [if_neg (by rw [h3, epv]; exact nI_ge (b := 2147483647) (by omega) (by omega))]
          exact ⟨⟨pv, hpv, epv⟩, h1, h2 e (by simp)⟩
        · split
          · exact h3
          · exact ⟨hp, h1, h2 e (by simp)⟩
      rcases ih (sr1 A e1 a e) h1 (fun e' he => h2 e' (by simp [he])) (.inr hs) with ⟨q, _⟩ | q
      · refine .inr ?_
        show sm 3000000 (l.foldl (sr1 A e1) (sr1 A e1 a e)).1 ∧ _
        rw [List.foldl_cons, q]; exact hs
      · exact .inr q
  have key2 : ∀ (l : List Nat) (a : Int32 × Nat × Nat), (∀ e, e ∈ l → e ∈ pm (nB A)) → (a.1 = 2147483647 ∨ (sm 3000000 a.1 ∧ a.2.1 ∈ pm (nB A) ∧ a.2.2 ∈ pm (nB A))) → (l.foldl (srI A) a = a ∧ l = []) ∨ (sm 3000000 (l.foldl (srI A) a).1 ∧ (l.foldl (srI A) a).2.1 ∈ pm (nB A) ∧ (l.foldl (srI A) a).2.2 ∈ pm (nB A)) := by
    intro l
    induction l with
    | nil => intro a _ _; exact .inl ⟨rfl, rfl⟩
    | cons e l ih =>
      intro a h2 h3
      have hl := (pm_len h4).1
      have hs : sm 3000000 (srI A a e).1 ∧ (srI A a e).2.1 ∈ pm (nB A) ∧ (srI A a e).2.2 ∈ pm (nB A) := by
        rcases key (pm (nB A)) e a (h2 e (by simp)) (fun _ h => h) h3 with ⟨_, q⟩ | q
        · rw [q] at hl; simp at hl
        · exact q
      rcases ih (srI A a e) (fun e' he => h2 e' (by simp [he])) (.inr hs) with ⟨q, _⟩ | q
      · refine .inr ?_
        rw [List.foldl_cons, q]; exact hs
      · exact .inr q
  rcases key2 (pm (nB A)) (2147483647, 0, 0) (fun _ h => h) (.inl rfl) with ⟨_, q⟩ | q
  · have hl := (pm_len h4).1
    rw [q] at hl; simp at hl
  · exact q
end msea
