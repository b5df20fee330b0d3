def sw (A : Nat → Int32) (r p q : Nat) : Nat → Int32 := ua (ua A (r + p) (A (r + q))) (r + q) (A (r + p))
def nxS (A : Nat → Int32) (p : Nat) : Int32 := if shpI (A (20 + 6 * p)) (A (20 + 6 * p + 2)) ≤ A (20 + 6 * p + 5) + 1 then 0 else A (20 + 6 * p + 5) + 1
def pvS (A : Nat → Int32) (p : Nat) : Int32 := if A (20 + 6 * p + 5) ≤ 0 then shpI (A (20 + 6 * p)) (A (20 + 6 * p + 2)) - 1 else A (20 + 6 * p + 5) - 1
def mvA (A : Nat → Int32) (m p q : Nat) : Nat → Int32 := if m = 0 then sw A 70 p q else if m = 1 then sw A 78 p q else if m = 2 then sw (sw A 70 (p1 A p) (p1 A q)) 78 (p2 A p) (p2 A q) else if m = 3 then ua A (20 + 6 * p + 5) (nxS A p) else ua A (20 + 6 * p + 4) (1 - ly A p)
def unA (A : Nat → Int32) (m p q : Nat) : Nat → Int32 := if m = 3 then ua A (20 + 6 * p + 5) (pvS A p) else mvA A m p q
theorem sw_a (A : Nat → Int32) (r p q : Nat) : sw A r p q (r + p) = A (r + q) := by
  unfold sw ua
  by_cases h : r + p = r + q
  · rw [if_pos h, h]
  · rw [if_neg h, if_pos rfl]
theorem sw_b (A : Nat → Int32) (r p q : Nat) : sw A r p q (r + q) = A (r + p) := by
  unfold sw ua; rw [if_pos rfl]
theorem sw_o {A : Nat → Int32} {r p q j : Nat} (h : j ≠ r + p) (h2 : j ≠ r + q) : sw A r p q j = A j := by
  unfold sw; rw [ua_n h2, ua_n h]
theorem sw_sw (A : Nat → Int32) (r p q : Nat) : sw (sw A r p q) r p q = A := by
  funext j
  by_cases h : j = r + q
  · subst h; rw [sw_b, sw_a]
  · by_cases h2 : j = r + p
    · subst h2; rw [sw_a, sw_b]
    · rw [sw_o h2 h, sw_o h2 h]
theorem sw_sw' (A : Nat → Int32) (r p q : Nat) : sw (sw A r p q) r q p = A := by
  funext j
  by_cases h : j = r + q
  · subst h; rw [sw_a, sw_a]
  · by_cases h2 : j = r + p
    · subst h2; rw [sw_b, sw_b]
    · rw [sw_o h h2, sw_o h2 h]
theorem sw_cm (A : Nat → Int32) {p q u v : Nat} (hp : p < 8) (hq : q < 8) : sw (sw A 70 p q) 78 u v = sw (sw A 78 u v) 70 p q := by
  have n1 : 78 + u ≠ 70 + p := by omega
  have n2 : 78 + u ≠ 70 + q := by omega
  have n3 : 78 + v ≠ 70 + p := by omega
  have n4 : 78 + v ≠ 70 + q := by omega
  funext j
  by_cases h1 : j = 78 + v
  · subst h1; rw [sw_b, sw_o n3 n4, sw_b, sw_o n1 n2]
  · by_cases h2 : j = 78 + u
    · subst h2; rw [sw_a, sw_o n1 n2, sw_a, sw_o n3 n4]
    · rw [sw_o h2 h1]
      by_cases h3 : j = 70 + q
      · subst h3; rw [sw_b, sw_b, sw_o n1.symm n3.symm]
      · by_cases h4 : j = 70 + p
        · subst h4; rw [sw_a, sw_a, sw_o n2.symm n4.symm]
        · rw [sw_o h4 h3, sw_o h4 h3, sw_o h2 h1]
/- rows -/
def tr (p q i : Nat) : Nat := if i = q then p else if i = p then q else i
theorem tr_lt {p q i n : Nat} (hp : p < n) (hq : q < n) (hi : i < n) : tr p q i < n := by
  unfold tr; split
  · exact hp
  · split
    · exact hq
    · exact hi
theorem tr_tr (p q i : Nat) : tr p q (tr p q i) = i := by
  unfold tr; repeat' split
  all_goals omega
theorem PM_tr {f : Nat → Nat} {n p q : Nat} (h : PM f n) (hp : p < n) (hq : q < n) : PM (fun i => f (tr p q i)) n := by
  refine ⟨fun i hi => h.1 _ (tr_lt hp hq hi), fun i j hi hj e => ?_, fun j hj => ?_⟩
  · have := h.2.1 _ _ (tr_lt hp hq hi) (tr_lt hp hq hj) e
    rw [← tr_tr p q i, this, tr_tr]
  · obtain ⟨i, hi, e⟩ := h.2.2 j hj
    exact ⟨tr p q i, tr_lt hp hq hi, by show f (tr p q (tr p q i)) = j; rw [tr_tr]; exact e⟩
theorem PM_c {f g : Nat → Nat} {n : Nat} (h : PM f n) (e : ∀ i, i < n → g i = f i) : PM g n := by
  refine ⟨fun i hi => by rw [e i hi]; exact h.1 i hi, fun i j hi hj q => ?_, fun j hj => ?_⟩
  · rw [e i hi, e j hj] at q; exact h.2.1 i j hi hj q
  · obtain ⟨i, hi, q⟩ := h.2.2 j hj; exact ⟨i, hi, by rw [e i hi]; exact q⟩
theorem sw_tr (A : Nat → Int32) (r p q i : Nat) : sw A r p q (r + i) = A (r + tr p q i) := by
  unfold tr
  by_cases h : i = q
  · subst h; rw [if_pos rfl, sw_b]
  · rw [if_neg h]
    by_cases h2 : i = p
    · subst h2; rw [if_pos rfl, sw_a]
    · rw [if_neg h2, sw_o (by omega) (by omega)]
theorem WF_r {A B : Nat → Int32} (hw : WF A) (h : ∀ j, j < 70 ∨ 86 ≤ j → B j = A j) {f g : Nat → Nat} (hf : PM f (nB A)) (hg : PM g (nB A)) (e1 : ∀ i, i < nB A → B (70 + i) = nI (f i)) (e2 : ∀ i, i < nB A → B (78 + i) = nI (g i)) : WF B := by
  have n8 := hw.n8
  have n10 := hw.nn10
  have en : nB B = nB A := by unfold nB; rw [h 0 (by omega)]
  have em : nN B = nN A := by unfold nN; rw [h 1 (by omega)]
  have q1 : ∀ i, i < nB A → o1 B i = f i := fun i hi => by unfold o1; rw [e1 i hi, cl_nI (by have := hf.1 i hi; omega)]
  have q2 : ∀ i, i < nB A → o2 B i = g i := fun i hi => by unfold o2; rw [e2 i hi, cl_nI (by have := hg.1 i hi; omega)]
  refine ⟨⟨?_, by omega⟩, ⟨?_, ?_, ?_, ?_⟩, ?_, ⟨?_, by omega, ?_⟩, ?_⟩
  · rw [h 0 (by omega), en]; exact hw.n
  · intro i hi; rw [en] at hi; rw [q1 i hi]; exact e1 i hi
  · intro i hi; rw [en] at hi; rw [q2 i hi]; exact e2 i hi
  · rw [en]; exact PM_c hf q1
  · rw [en]; exact PM_c hg q2
  · intro i hi
    rw [en] at hi
    have := hw.2.2.1 i hi
    unfold VA pw ly at this ⊢
    rw [h _ (by omega), h (20 + 6 * i + 1) (by omega), h (20 + 6 * i + 2) (by omega), h (20 + 6 * i + 5) (by omega), h (20 + 6 * i + 3) (by omega), h (20 + 6 * i + 4) (by omega)]
    exact this
  · rw [em, h 1 (by omega)]; exact hw.nn
  · intro j hj
    rw [em] at hj
    rw [h (90 + 2 * j) (by omega), h (90 + 2 * j + 1) (by omega)]
    exact hw.2.2.2.1.2.2 j hj
  · unfold W5
    rw [h 5 (by omega), h 6 (by omega), h 7 (by omega), h 8 (by omega), h 9 (by omega)]
    exact hw.2.2.2.2
theorem WF_b {A B : Nat → Int32} {p : Nat} (hw : WF A) (hp : p < nB A) (h : ∀ j, j < 20 + 6 * p ∨ 26 + 6 * p ≤ j → B j = A j) (hb : VA B (20 + 6 * p) ∧ sm 99 (pw B p) ∧ (ly B p = 0 ∨ ly B p = 1)) : WF B := by
  have n8 := hw.n8
  have n10 := hw.nn10
  have en : nB B = nB A := by unfold nB; rw [h 0 (by omega)]
  have em : nN B = nN A := by unfold nN; rw [h 1 (by omega)]
  have q1 : ∀ i, i < 8 → o1 B i = o1 A i := fun i hi => by unfold o1; rw [h (70 + i) (by omega)]
  have q2 : ∀ i, i < 8 → o2 B i = o2 A i := fun i hi => by unfold o2; rw [h (78 + i) (by omega)]
  refine ⟨⟨?_, by omega⟩, ⟨?_, ?_, ?_, ?_⟩, ?_, ⟨?_, by omega, ?_⟩, ?_⟩
  · rw [h 0 (by omega), en]; exact hw.n
  · intro i hi; rw [en] at hi; rw [q1 i (by omega), h (70 + i) (by omega)]; exact hw.e1 hi
  · intro i hi; rw [en] at hi; rw [q2 i (by omega), h (78 + i) (by omega)]; exact hw.e2 hi
  · rw [en]; exact PM_c hw.m1 (fun i hi => q1 i (by omega))
  · rw [en]; exact PM_c hw.m2 (fun i hi => q2 i (by omega))
  · intro i hi
    rw [en] at hi
    by_cases e : i = p
    · subst e; exact hb
    · have := hw.2.2.1 i hi
      unfold VA pw ly at this ⊢
      rw [h _ (by omega), h (20 + 6 * i + 1) (by omega), h (20 + 6 * i + 2) (by omega), h (20 + 6 * i + 5) (by omega), h (20 + 6 * i + 3) (by omega), h (20 + 6 * i + 4) (by omega)]
      exact this
  · rw [em, h 1 (by omega)]; exact hw.nn
  · intro j hj
    rw [em] at hj
    rw [h (90 + 2 * j) (by omega), h (90 + 2 * j + 1) (by omega)]
    exact hw.2.2.2.1.2.2 j hj
  · unfold W5
    rw [h 5 (by omega), h 6 (by omega), h 7 (by omega), h 8 (by omega), h 9 (by omega)]
    exact hw.2.2.2.2
section mvs
variable {A : Nat → Int32}
theorem WF_sw1 (hw : WF A) {p q : Nat} (hp : p < nB A) (hq : q < nB A) : WF (sw A 70 p q) := by
  have n8 := hw.n8
  refine WF_r hw (fun j hj => sw_o (by omega) (by omega)) (PM_tr hw.m1 hp hq) hw.m2 ?_ ?_
  · intro i hi; rw [sw_tr]; exact hw.e1 (tr_lt hp hq hi)
  · intro i hi; rw [sw_o (by omega) (by omega)]; exact hw.e2 hi
theorem WF_sw2 (hw : WF A) {p q : Nat} (hp : p < nB A) (hq : q < nB A) : WF (sw A 78 p q) := by
  have n8 := hw.n8
  refine WF_r hw (fun j hj => sw_o (by omega) (by omega)) hw.m1 (PM_tr hw.m2 hp hq) ?_ ?_
  · intro i hi; rw [sw_o (by omega) (by omega)]; exact hw.e1 hi
  · intro i hi; rw [sw_tr]; exact hw.e2 (tr_lt hp hq hi)
theorem nB_sw (A : Nat → Int32) {r p q : Nat} (hr : 70 ≤ r) : nB (sw A r p q) = nB A := by
  unfold nB; rw [sw_o (by omega) (by omega)]
theorem nxS_e (hw : WF A) {p : Nat} (hp : p < nB A) : ∃ s n, s < n ∧ n ≤ 6 ∧ A (20 + 6 * p + 5) = nI s ∧ shpI (A (20 + 6 * p)) (A (20 + 6 * p + 2)) = nI n ∧ nxS A p = nI (if s + 1 = n then 0 else s + 1) ∧ (∀ t, t < n → VB (A (20 + 6 * p)) (A (20 + 6 * p + 1)) (A (20 + 6 * p + 2)) (nI t)) := by
  obtain ⟨s1, s2, s3, s4, s, hs, es⟩ := shc_e (hw.v hp)
  refine ⟨s, shc A p, hs, s3, es, s1, ?_, s4⟩
  unfold nxS
  rw [es, s1, nI_1]
  by_cases c : s + 1 = shc A p
  · rw [if_pos c, c, if_pos (nI_le (Nat.le_refl _) (by omega))]; rfl
  · rw [if_neg c, if_neg (nI_ge (by omega) (by omega))]
theorem WF_sh (hw : WF A) {p : Nat} (hp : p < nB A) {v : Int32} (hv : VB (A (20 + 6 * p)) (A (20 + 6 * p + 1)) (A (20 + 6 * p + 2)) v) : WF (ua A (20 + 6 * p + 5) v) := by
  refine WF_b hw hp (fun j hj => ua_n (by omega)) ?_
  unfold VA pw ly
  rw [ua_s, ua_n (by omega), ua_n (by omega), ua_n (by omega), ua_n (by omega), ua_n (by omega)]
  exact ⟨hv, (hw.2.2.1 p hp).2⟩
theorem WF_ly (hw : WF A) {p : Nat} (hp : p < nB A) {v : Int32} (hv : v = 0 ∨ v = 1) : WF (ua A (20 + 6 * p + 4) v) := by
  refine WF_b hw hp (fun j hj => ua_n (by omega)) ?_
  unfold VA pw ly
  rw [ua_s, ua_n (by omega), ua_n (by omega), ua_n (by omega), ua_n (by omega), ua_n (by omega)]
  exact ⟨(hw.2.2.1 p hp).1, (hw.2.2.1 p hp).2.1, hv⟩
theorem WF_pw (hw : WF A) {p : Nat} (hp : p < nB A) {v : Int32} (hv : sm 99 v) : WF (ua A (20 + 6 * p + 3) v) := by
  refine WF_b hw hp (fun j hj => ua_n (by omega)) ?_
  unfold VA pw ly
  rw [ua_s, ua_n (by omega), ua_n (by omega), ua_n (by omega), ua_n (by omega), ua_n (by omega)]
  exact ⟨(hw.2.2.1 p hp).1, hv, (hw.2.2.1 p hp).2.2⟩
theorem ly_t (hw : WF A) {p : Nat} (hp : p < nB A) : (1 - ly A p = 0 ∨ 1 - ly A p = 1) ∧ 1 - (1 - ly A p) = ly A p := by
  rcases hw.lyv hp with e | e <;> rw [e] <;> decide
theorem WF_mv (hw : WF A) {m p q : Nat} (hp : p < nB A) (hq : m ≤ 2 → q < nB A) : WF (mvA A m p q) := by
  unfold mvA
  by_cases h0 : m = 0
  · rw [if_pos h0]; exact WF_sw1 hw hp (hq (by omega))
  · rw [if_neg h0]
    by_cases h1 : m = 1
    · rw [if_pos h1]; exact WF_sw2 hw hp (hq (by omega))
    · rw [if_neg h1]
      by_cases h2 : m = 2
      · rw [if_pos h2]
        have hq' := hq (by omega)
        exact WF_sw2 (WF_sw1 hw (hw.pl1 hp) (hw.pl1 hq')) (by rw [nB_sw _ (by omega)]; exact hw.pl2 hp) (by rw [nB_sw _ (by omega)]; exact hw.pl2 hq')
      · rw [if_neg h2]
        by_cases h3 : m = 3
        · rw [if_pos h3]
          obtain ⟨s, n, hs, hn, e1, e2, e3, e4⟩ := nxS_e hw hp
          rw [e3]
          refine WF_sh hw hp (e4 _ ?_)
          split <;> omega
        · rw [if_neg h3]; exact WF_ly hw hp (ly_t hw hp).1
theorem nB_mv (A : Nat → Int32) {m p q : Nat} : nB (mvA A m p q) = nB A := by
  unfold mvA nB
  repeat' split
  · rw [sw_o (by omega) (by omega)]
  · rw [sw_o (by omega) (by omega)]
  · rw [sw_o (by omega) (by omega), sw_o (by omega) (by omega)]
  · rw [ua_n (by omega)]
  · rw [ua_n (by omega)]
theorem un_mv (hw : WF A) {m p q : Nat} (hp : p < nB A) (hq : m ≤ 2 → q < nB A) : unA (mvA A m p q) m p q = A := by
  unfold unA
  by_cases h3 : m = 3
  · subst h3
    rw [if_pos rfl]
    obtain ⟨s, n, hs, hn, e1, e2, e3, e4⟩ := nxS_e hw hp
    have eB : mvA A 3 p q = ua A (20 + 6 * p + 5) (nxS A p) := by simp [mvA]
    rw [eB]
    have : pvS (ua A (20 + 6 * p + 5) (nxS A p)) p = nI s := by
      unfold pvS
      rw [ua_s, ua_n (by omega), ua_n (by omega), e2, e3]
      by_cases c : s + 1 = n
      · rw [if_pos c, if_pos (by decide), predI (by omega)]; congr 1; omega
      · rw [if_neg c, if_neg (nI_nle (by omega) (by omega)), predI (by omega)]; rfl
    rw [this]
    funext j
    by_cases hj : j = 20 + 6 * p + 5
    · subst hj; rw [ua_s, e1]
    · rw [ua_n hj, ua_n hj]
  · rw [if_neg h3]
    unfold mvA
    by_cases h0 : m = 0
    · simp only [h0, ↓reduceIte]; exact sw_sw A 70 p q
    · by_cases h1 : m = 1
      · subst h1
        simp only [show ¬ 1 = 0 by decide, ↓reduceIte]; exact sw_sw A 78 p q
      · by_cases h2 : m = 2
        · subst h2
          simp only [show ¬ 2 = 0 by decide, show ¬ 2 = 1 by decide, ↓reduceIte]
          have hq' := hq (by omega)
          have n8 := hw.n8
          have a1 := hw.pl1 hp
          have a2 := hw.pl1 hq'
          have a3 := hw.pl2 hp
          have a4 := hw.pl2 hq'
          have f1 : o1 A (p1 A p) = p := (PM_q hw.m1 hp).2
          have f2 : o1 A (p1 A q) = q := (PM_q hw.m1 hq').2
          have f3 : o2 A (p2 A p) = p := (PM_q hw.m2 hp).2
          have f4 : o2 A (p2 A q) = q := (PM_q hw.m2 hq').2
          have wB : WF (sw (sw A 70 (p1 A p) (p1 A q)) 78 (p2 A p) (p2 A q)) := WF_sw2 (WF_sw1 hw a1 a2) (by rw [nB_sw _ (by omega)]; exact a3) (by rw [nB_sw _ (by omega)]; exact a4)
          have nn : nB (sw (sw A 70 (p1 A p) (p1 A q)) 78 (p2 A p) (p2 A q)) = nB A := by rw [nB_sw _ (by omega), nB_sw _ (by omega)]
          have g1 : o1 (sw (sw A 70 (p1 A p) (p1 A q)) 78 (p2 A p) (p2 A q)) (p1 A q) = p := by
            unfold o1; rw [sw_o (by omega) (by omega), sw_b]; exact f1
          have g2 : o1 (sw (sw A 70 (p1 A p) (p1 A q)) 78 (p2 A p) (p2 A q)) (p1 A p) = q := by
            unfold o1; rw [sw_o (by omega) (by omega), sw_a]; exact f2
          have g3 : o2 (sw (sw A 70 (p1 A p) (p1 A q)) 78 (p2 A p) (p2 A q)) (p2 A q) = p := by
            unfold o2; rw [sw_b, sw_o (by omega) (by omega)]; exact f3
          have g4 : o2 (sw (sw A 70 (p1 A p) (p1 A q)) 78 (p2 A p) (p2 A q)) (p2 A p) = q := by
            unfold o2; rw [sw_a, sw_o (by omega) (by omega)]; exact f4
          have k1 := PM_p wB.m1 (i := p1 A q) (by omega)
          have k2 := PM_p wB.m1 (i := p1 A p) (by omega)
          have k3 := PM_p wB.m2 (i := p2 A q) (by omega)
          have k4 := PM_p wB.m2 (i := p2 A p) (by omega)
          rw [g1] at k1
          rw [g2] at k2
          rw [g3] at k3
          rw [g4] at k4
          generalize hB : sw (sw A 70 (p1 A p) (p1 A q)) 78 (p2 A p) (p2 A q) = B at *
          have k1' : p1 B p = p1 A q := k1
          have k2' : p1 B q = p1 A p := k2
          have k3' : p2 B p = p2 A q := k3
          have k4' : p2 B q = p2 A p := k4
          rw [k1', k2', k3', k4', ← hB, sw_cm _ (by omega) (by omega), sw_sw', sw_sw']
        · simp only [h0, h1, h2, h3, ↓reduceIte]
          have : ly (ua A (20 + 6 * p + 4) (1 - ly A p)) p = 1 - ly A p := ua_s
          rw [this, (ly_t hw hp).2]
          funext j
          by_cases hj : j = 20 + 6 * p + 4
          · subst hj; rw [ua_s]; rfl
          · rw [ua_n hj, ua_n hj]
end mvs
