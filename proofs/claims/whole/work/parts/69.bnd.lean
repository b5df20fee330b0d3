section bnd
variable {A : Nat → Int32}
theorem sxr_b (hw : WF A) {P : PL} {N k : Nat} (hN : N ≤ 1000) (hk : k < nB A) (h : ∀ j, sm N (P.1 j) ∧ sm N (P.2.1 j)) : sm (N + 35) (sxr A P k).1 ∧ sm (N + 35) (sxr A P k).2 := by
  unfold sxr
  refine itr_inv0 (fun _ (a : Int32 × Int32) => sm (N + 35) a.1 ∧ sm (N + 35) a.2) ⟨sm_0, sm_0⟩ ?_
  intro i a hi ⟨h1, h2⟩
  have hin : i < nB A := by omega
  obtain ⟨w, w1, w2, ew⟩ := wd_b (hw.v (hw.l2 hin))
  obtain ⟨v, v1, v2, ev⟩ := ht_b (hw.v (hw.l2 hin))
  have sw : sm 35 (wd A (o2 A i)) := ⟨w, w2, ew⟩
  have sv : sm 35 (ht A (o2 A i)) := ⟨v, v2, ev⟩
  unfold sxy
  split
  · split
    · exact ⟨sm_w (sm_mx h1 (sm_add (h (o2 A i)).1 sw) (by omega) (by omega)) (by omega), h2⟩
    · exact ⟨h1, sm_w (sm_mx h2 (sm_add (h (o2 A i)).2 sv) (by omega) (by omega)) (by omega)⟩
  · exact ⟨h1, h2⟩
theorem PLk_b (hw : WF A) : ∀ k, k ≤ nB A → (∀ j, sm (35 * k) ((PLk A k).1 j) ∧ sm (35 * k) ((PLk A k).2.1 j)) ∧ sm (35 * k + 35) (PLk A k).2.2.1 ∧ sm (35 * k + 35) (PLk A k).2.2.2 := by
  have n8 := hw.n8
  intro k
  induction k with
  | zero => intro _; exact ⟨fun j => ⟨sm_0, sm_0⟩, sm_0, sm_0⟩
  | succ k ih =>
    intro hk
    obtain ⟨h1, h2, h3⟩ := ih (by omega)
    have hkn : k < nB A := by omega
    have hs := sxr_b hw (N := 35 * k) (by omega) hkn h1
    obtain ⟨w, w1, w2, ew⟩ := wd_b (hw.v (hw.l2 hkn))
    obtain ⟨v, v1, v2, ev⟩ := ht_b (hw.v (hw.l2 hkn))
    have sw : sm 35 (wd A (o2 A k)) := ⟨w, w2, ew⟩
    have sv : sm 35 (ht A (o2 A k)) := ⟨v, v2, ev⟩
    rw [PLk_s]
    refine ⟨fun j => ⟨?_, ?_⟩, ?_, ?_⟩
    · show sm _ (ua _ _ _ j)
      unfold ua
      split
      · exact sm_w hs.1 (by omega)
      · exact sm_w (h1 j).1 (by omega)
    · show sm _ (ua _ _ _ j)
      unfold ua
      split
      · exact sm_w hs.2 (by omega)
      · exact sm_w (h1 j).2 (by omega)
    · exact sm_w (sm_mx h2 (sm_add hs.1 sw) (by omega) (by omega)) (by omega)
    · exact sm_w (sm_mx h3 (sm_add hs.2 sv) (by omega) (by omega)) (by omega)
theorem XX_b (hw : WF A) (j : Nat) : sm 280 (XX A j) := by
  have n8 := hw.n8
  exact sm_w ((PLk_b hw (nB A) (Nat.le_refl _)).1 j).1 (by omega)
theorem YY_b (hw : WF A) (j : Nat) : sm 280 (YY A j) := by
  have n8 := hw.n8
  exact sm_w ((PLk_b hw (nB A) (Nat.le_refl _)).1 j).2 (by omega)
theorem WW_b (hw : WF A) : sm 315 (WW A) := by
  have n8 := hw.n8
  exact sm_w (PLk_b hw (nB A) (Nat.le_refl _)).2.1 (by omega)
theorem HH_b (hw : WF A) : sm 315 (HH A) := by
  have n8 := hw.n8
  exact sm_w (PLk_b hw (nB A) (Nat.le_refl _)).2.2 (by omega)
theorem sm2 {N : Nat} {v : Int32} (h : sm N v) : sm (2 * N) (2 * v) := sm_mul (sm_k (N := 2) (t := 2) (by omega)) h
theorem cx_b (hw : WF A) {i : Nat} (hi : i < nB A) : sm 595 (cx A i) := by
  obtain ⟨w, w1, w2, ew⟩ := wd_b (hw.v hi)
  have sw : sm 35 (wd A i) := ⟨w, w2, ew⟩
  exact sm_w (sm_add (sm2 (XX_b hw i)) sw) (by omega)
theorem cy_b (hw : WF A) {i : Nat} (hi : i < nB A) : sm 595 (cy A i) := by
  obtain ⟨w, w1, w2, ew⟩ := ht_b (hw.v hi)
  have sw : sm 35 (ht A i) := ⟨w, w2, ew⟩
  exact sm_w (sm_add (sm2 (YY_b hw i)) sw) (by omega)
theorem wst_b (hw : WF A) (z : Int32) : ∃ c, c ≤ nB A ∧ (itr (wst A z) (nB A) 0 (0, 0, 2147483647, (-2147483648), 2147483647, (-2147483648))).1 = nI c ∧ (c ≠ 0 → ∃ l u l' u' : Nat, l ≤ u ∧ u ≤ 595 ∧ l' ≤ u' ∧ u' ≤ 595 ∧ (itr (wst A z) (nB A) 0 (0, 0, 2147483647, (-2147483648), 2147483647, (-2147483648))).2.2 = (nI l, nI u, nI l', nI u')) := by
  have := itr_inv0 (f := wst A z) (fun i a => ∃ c, c ≤ i ∧ a.1 = nI c ∧ (c = 0 → a.2.2 = (2147483647, (-2147483648), 2147483647, (-2147483648))) ∧ (c ≠ 0 → ∃ l u l' u' : Nat, l ≤ u ∧ u ≤ 595 ∧ l' ≤ u' ∧ u' ≤ 595 ∧ a.2.2 = (nI l, nI u, nI l', nI u'))) (n := nB A) (a := (0, 0, 2147483647, (-2147483648), 2147483647, (-2147483648))) ⟨0, by omega, rfl, fun _ => rfl, fun h => absurd rfl h⟩ ?_
  · obtain ⟨c, h1, h2, _, h4⟩ := this
    exact ⟨c, h1, h2, h4⟩
  · intro i a hi ⟨c, h1, h2, h3, h4⟩
    unfold wst
    split
    · obtain ⟨x, hx, ex⟩ := cx_b hw hi
      obtain ⟨y, hy, ey⟩ := cy_b hw hi
      refine ⟨c + 1, by omega, by rw [h2, nI_1], fun h => absurd h (by omega), fun _ => ?_⟩
      rw [ex, ey]
      by_cases hc : c = 0
      · rw [h3 hc]
        exact ⟨x, x, y, y, by omega, by omega, by omega, by omega, by simp only [mn_top, mx_bot]⟩
      · obtain ⟨l, u, l', u', k1, k2, k3, k4, k5⟩ := h4 hc
        rw [k5]
        refine ⟨min l x, max u x, min l' y, max u' y, by omega, by omega, by omega, by omega, ?_⟩
        simp only [mn_nI (show l < 2 ^ 31 by omega) (show x < 2 ^ 31 by omega), mx_nI (show u < 2 ^ 31 by omega) (show x < 2 ^ 31 by omega), mn_nI (show l' < 2 ^ 31 by omega) (show y < 2 ^ 31 by omega), mx_nI (show u' < 2 ^ 31 by omega) (show y < 2 ^ 31 by omega)]
    · exact ⟨c, by omega, h2, h3, h4⟩
theorem wire_b (hw : WF A) {j : Nat} (hj : j < nN A) : sm 12000 (wireA A j) := by
  have n8 := hw.n8
  obtain ⟨c, h1, h2, h3⟩ := wst_b hw (A (90 + 2 * j))
  have g9 : sm 9 (A (90 + 2 * j + 1)) := (hw.2.2.2.1.2.2 j hj).2
  have g5 : sm 9 (A 5) := hw.2.2.2.2.1
  unfold wireA
  generalize itr (wst A (A (90 + 2 * j))) (nB A) 0 (0, 0, 2147483647, (-2147483648), 2147483647, (-2147483648)) = a at h2 h3
  unfold wfin
  by_cases hc : 2 ≤ a.1
  · rw [if_pos hc]
    have : c ≠ 0 := by
      intro e; subst e; rw [h2] at hc; exact absurd hc (by decide)
    obtain ⟨l, u, l', u', k1, k2, k3, k4, k5⟩ := h3 this
    have e : ((a.2.2.2.1 - a.2.2.1) + a.2.2.2.2.2) - a.2.2.2.2.1 = nI (u - l + u' - l') := by
      rw [k5]
      show ((nI u - nI l) + nI u') - nI l' = _
      rw [pk_sub k1, nI_add, pk_sub (by omega)]
    rw [e]
    have s0 : sm 1190 (nI (u - l + u' - l')) := sm_k (by omega)
    split
    · exact sm_w (sm_mul (sm_add s0 (sm2 g5)) g9) (by omega)
    · exact sm_w (sm_mul (sm_add s0 (sm_0 (N := 0))) g9) (by omega)
  · rw [if_neg hc]; exact sm_0
theorem wires_b (hw : WF A) : sm 120000 (wiresA A) := by
  have n10 := hw.nn10
  have := itr_inv0 (f := fun j s => s + wireA A j) (fun i s => sm (12000 * i) s) (n := nN A) (a := 0) sm_0 (fun i a hi hp => sm_w (sm_add hp (wire_b hw hi)) (by omega))
  exact sm_w this (by omega)
theorem out_b {v e : Int32} (hv : sm 315 v) (he : sm 240 e) : sm 315 (mx 0 (v - e)) := by
  obtain ⟨w, h1, rfl⟩ := hv
  obtain ⟨f, h2, rfl⟩ := he
  by_cases c : f ≤ w
  · rw [pk_sub c, show (0 : Int32) = nI 0 from rfl, mx_nI (by omega) (by omega)]
    exact sm_k (by omega)
  · have := pk_sneg (a := w) (b := f) (by omega) (by omega)
    unfold mx
    rw [if_neg (fun h => absurd (Int32.lt_trans h this) (by decide))]
    exact sm_0
theorem price_b (hw : WF A) : sm 3000000 (priceA A) := by
  have g : W5 A := hw.2.2.2.2
  unfold priceA
  have e1 := sm_mul (sm_mul (WW_b hw) (HH_b hw)) g.2.1
  have e2 := sm_mul (wires_b hw) g.2.2.1
  have e3 := sm_mul (sm_add (out_b (WW_b hw) g.2.2.2.2) (out_b (HH_b hw) g.2.2.2.2)) g.2.2.2.1
  exact sm_w (sm_add (sm_add e1 e2) e3) (by omega)
end bnd
/- what lies elsewhere changes no price -/
/-- alike in all that places rest on -/
def Ap (A B : Nat → Int32) : Prop := B 0 = A 0 ∧ (∀ i k, i < 8 → k < 6 → k ≠ 3 → B (20 + 6 * i + k) = A (20 + 6 * i + k)) ∧ (∀ j, 70 ≤ j → j < 86 → B j = A j)
def Ag (A B : Nat → Int32) : Prop := ∀ j, j < 110 → j ≠ 2 → j ≠ 3 → j ≠ 4 → B j = A j
section agr
variable {A B : Nat → Int32}
theorem Ag.ap (h : Ag A B) : Ap A B := ⟨h 0 (by omega) (by omega) (by omega) (by omega), fun i k hi hk _ => h _ (by omega) (by omega) (by omega) (by omega), fun j h1 h2 => h j (by omega) (by omega) (by omega) (by omega)⟩
theorem Ap.n (h : Ap A B) : nB B = nB A := by unfold nB; rw [h.1]
theorem Ap.w_ (h : Ap A B) {i : Nat} (hi : i < 8) : wd B i = wd A i := by
  unfold wd; rw [h.2.1 i 1 hi (by omega) (by omega), h.2.1 i 2 hi (by omega) (by omega), h.2.1 i 5 hi (by omega) (by omega), show B (20 + 6 * i) = A (20 + 6 * i) from h.2.1 i 0 hi (by omega) (by omega)]
theorem Ap.h_ (h : Ap A B) {i : Nat} (hi : i < 8) : ht B i = ht A i := by
  unfold ht; rw [h.2.1 i 1 hi (by omega) (by omega), h.2.1 i 2 hi (by omega) (by omega), h.2.1 i 5 hi (by omega) (by omega), show B (20 + 6 * i) = A (20 + 6 * i) from h.2.1 i 0 hi (by omega) (by omega)]
theorem Ap.l_ (h : Ap A B) {i : Nat} (hi : i < 8) : ly B i = ly A i := h.2.1 i 4 hi (by omega) (by omega)
theorem Ap.r1 (h : Ap A B) {i : Nat} (hi : i < 8) : o1 B i = o1 A i := by unfold o1; rw [h.2.2 _ (by omega) (by omega)]
theorem Ap.r2 (h : Ap A B) {i : Nat} (hi : i < 8) : o2 B i = o2 A i := by unfold o2; rw [h.2.2 _ (by omega) (by omega)]
theorem pos_c {f g : Nat → Nat} {j : Nat} : ∀ n, (∀ i, i < n → g i = f i) → pos g n j = pos f n j := by
  intro n
  induction n with
  | zero => intro _; rfl
  | succ n ih =>
    intro h
    unfold pos
    rw [h n (by omega), ih (fun i hi => h i (by omega))]
theorem Ap.q1 (h : Ap A B) (n8 : nB A ≤ 8) (j : Nat) : p1 B j = p1 A j := by
  unfold p1; rw [h.n]; exact pos_c _ (fun i hi => h.r1 (by omega))
theorem Ap.q2 (h : Ap A B) (n8 : nB A ≤ 8) (j : Nat) : p2 B j = p2 A j := by
  unfold p2; rw [h.n]; exact pos_c _ (fun i hi => h.r2 (by omega))
theorem Ap.pl (h : Ap A B) (hw : WF A) : PLA B = PLA A := by
  have n8 := hw.n8
  unfold PLA PLk
  rw [h.n]
  refine itr_congr ?_ _
  intro k P hk
  have lk := hw.l2 hk
  have es : sxr B P k = sxr A P k := by
    unfold sxr
    refine itr_cg (n := k) _ _ _ (by omega) ?_
    intro i a _ hi
    have li := hw.l2 (show i < nB A by omega)
    unfold sxy
    rw [h.r2 (show i < 8 by omega), h.r2 (show k < 8 by omega), h.l_ (show o2 A i < 8 by omega), h.l_ (show o2 A k < 8 by omega), h.q1 n8, h.q1 n8, h.w_ (show o2 A i < 8 by omega), h.h_ (show o2 A i < 8 by omega)]
  unfold seatA
  rw [es, h.r2 (show k < 8 by omega), h.w_ (show o2 A k < 8 by omega), h.h_ (show o2 A k < 8 by omega)]
theorem Ag.nn (h : Ag A B) : nN B = nN A := by unfold nN; rw [h 1 (by omega) (by omega) (by omega) (by omega)]
theorem Ag.wires (h : Ag A B) (hw : WF A) : wiresA B = wiresA A := by
  have n8 := hw.n8
  have n10 := hw.nn10
  unfold wiresA
  rw [h.nn]
  refine itr_congr ?_ _
  intro j s hj
  congr 1
  unfold wireA
  rw [h.ap.n, h (90 + 2 * j) (by omega) (by omega) (by omega) (by omega)]
  have e : itr (wst B (A (90 + 2 * j))) (nB A) 0 (0, 0, 2147483647, (-2147483648), 2147483647, (-2147483648)) = itr (wst A (A (90 + 2 * j))) (nB A) 0 (0, 0, 2147483647, (-2147483648), 2147483647, (-2147483648)) := by
    refine itr_congr ?_ _
    intro i a hi
    have ex : cx B i = cx A i := by unfold cx XX; rw [h.ap.pl hw, h.ap.w_ (show i < 8 by omega)]
    have ey : cy B i = cy A i := by unfold cy YY; rw [h.ap.pl hw, h.ap.h_ (show i < 8 by omega)]
    unfold wst
    rw [ex, ey, h.ap.l_ (show i < 8 by omega)]
  rw [e]
  unfold wfin
  rw [h 5 (by omega) (by omega) (by omega) (by omega), h (90 + 2 * j + 1) (by omega) (by omega) (by omega) (by omega)]
theorem Ag.price (h : Ag A B) (hw : WF A) : priceA B = priceA A := by
  unfold priceA WW HH
  rw [h.ap.pl hw, h.wires hw, h 6 (by omega) (by omega) (by omega) (by omega), h 7 (by omega) (by omega) (by omega) (by omega), h 8 (by omega) (by omega) (by omega) (by omega), h 9 (by omega) (by omega) (by omega) (by omega)]
theorem Ag.wf (h : Ag A B) (hw : WF A) : WF B := by
  have n8 := hw.n8
  have n10 := hw.nn10
  refine ⟨⟨?_, ?_⟩, ⟨?_, ?_, ?_, ?_⟩, ?_, ⟨?_, ?_, ?_⟩, ?_, ?_, ?_, ?_, ?_⟩
  · rw [h.ap.n, h 0 (by omega) (by omega) (by omega) (by omega)]; exact hw.n
  · rw [h.ap.n]; exact n8
  · intro i hi; rw [h.ap.n] at hi; rw [h.ap.r1 (by omega), h (70 + i) (by omega) (by omega) (by omega) (by omega)]; exact hw.e1 hi
  · intro i hi; rw [h.ap.n] at hi; rw [h.ap.r2 (by omega), h (78 + i) (by omega) (by omega) (by omega) (by omega)]; exact hw.e2 hi
  · rw [h.ap.n]
    have m := hw.m1
    refine ⟨fun i hi => by rw [h.ap.r1 (by omega)]; exact m.1 i hi, fun i j hi hj e => ?_, fun j hj => ?_⟩
    · rw [h.ap.r1 (by omega), h.ap.r1 (by omega)] at e; exact m.2.1 i j hi hj e
    · obtain ⟨i, hi, e⟩ := m.2.2 j hj; exact ⟨i, hi, by rw [h.ap.r1 (by omega)]; exact e⟩
  · rw [h.ap.n]
    have m := hw.m2
    refine ⟨fun i hi => by rw [h.ap.r2 (by omega)]; exact m.1 i hi, fun i j hi hj e => ?_, fun j hj => ?_⟩
    · rw [h.ap.r2 (by omega), h.ap.r2 (by omega)] at e; exact m.2.1 i j hi hj e
    · obtain ⟨i, hi, e⟩ := m.2.2 j hj; exact ⟨i, hi, by rw [h.ap.r2 (by omega)]; exact e⟩
  · intro i hi
    rw [h.ap.n] at hi
    have := hw.2.2.1 i hi
    unfold VA pw ly at this ⊢
    rw [h _ (by omega) (by omega) (by omega) (by omega), h (20 + 6 * i + 1) (by omega) (by omega) (by omega) (by omega), h (20 + 6 * i + 2) (by omega) (by omega) (by omega) (by omega), h (20 + 6 * i + 5) (by omega) (by omega) (by omega) (by omega), h (20 + 6 * i + 3) (by omega) (by omega) (by omega) (by omega), h (20 + 6 * i + 4) (by omega) (by omega) (by omega) (by omega)]
    exact this
  · rw [h.nn, h 1 (by omega) (by omega) (by omega) (by omega)]; exact hw.nn
  · rw [h.nn]; exact n10
  · intro j hj
    rw [h.nn] at hj
    rw [h (90 + 2 * j) (by omega) (by omega) (by omega) (by omega), h (90 + 2 * j + 1) (by omega) (by omega) (by omega) (by omega)]
    exact hw.2.2.2.1.2.2 j hj
  · rw [h 5 (by omega) (by omega) (by omega) (by omega)]; exact hw.2.2.2.2.1
  · rw [h 6 (by omega) (by omega) (by omega) (by omega)]; exact hw.2.2.2.2.2.1
  · rw [h 7 (by omega) (by omega) (by omega) (by omega)]; exact hw.2.2.2.2.2.2.1
  · rw [h 8 (by omega) (by omega) (by omega) (by omega)]; exact hw.2.2.2.2.2.2.2.1
  · rw [h 9 (by omega) (by omega) (by omega) (by omega)]; exact hw.2.2.2.2.2.2.2.2
end agr
