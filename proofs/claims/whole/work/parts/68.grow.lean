theorem VB_sh {k a b s : Int32} (h : VB k a b s) : ∃ n, 1 ≤ n ∧ n ≤ 6 ∧ shpI k b = nI n ∧ (∀ t, t < n → VB k a b (nI t)) ∧ ∃ t, t < n ∧ s = nI t := by
  obtain ⟨k', a', b', s', rfl, rfl, rfl, rfl, hk, h1, h2, h3, h4, hs⟩ := h
  refine ⟨shpN k' b', ?_, ?_, shpI_n hk h4, fun t ht => ⟨k', a', b', t, rfl, rfl, rfl, rfl, hk, h1, h2, h3, h4, ht⟩, s', hs, rfl⟩
  · unfold shpN; repeat' split
    all_goals omega
  · unfold shpN; repeat' split
    all_goals omega
/-- the least over all shapes, of widths or of heights -/
def lsI (f : Int32 → Int32) (n : Nat) : Int32 := itr (fun s v => mn v (f (nI (s + 1)))) (n - 1) 0 (f 0)
theorem lsI_m (f : Int32 → Int32) {n : Nat} (h1 : 1 ≤ n) (h0 : ∃ w, w ≤ 35 ∧ f 0 = nI w) : itr (fun s v => mn v (f (nI s))) n 0 10000 = lsI f n := by
  obtain ⟨m, rfl⟩ : ∃ m, n = m + 1 := ⟨n - 1, by omega⟩
  unfold lsI
  rw [Nat.add_sub_cancel]
  clear h1
  induction m with
  | zero =>
    show mn 10000 (f (nI 0)) = f 0
    obtain ⟨w, hw, e⟩ := h0
    rw [i00, e, show (10000 : Int32) = nI 10000 from rfl, mn_nI (by omega) (by omega), Nat.min_eq_right (by omega)]
  | succ m ih => rw [itr_0, ih, itr_0]
theorem x0_leastWide (σ : Sg) (c : Nat) (A : Nat → Int32) (o : Nat) (h : BR σ c A o) (hv : VA A o) {n : Nat} (hn : shpI (A o) (A (o + 2)) = nI n) (h1 : 1 ≤ n) (h6 : n ≤ 6) (hb : ∀ t, t < n → VB (A o) (A (o + 1)) (A (o + 2)) (nI t)) : s_X0_leastWide σ c = some (lsI (fun s => wdI (A o) (A (o + 1)) (A (o + 2)) s) n, σ) := by
  have e0 : σ c 0 = A o := h.1 0 (by omega)
  have e1 : σ c 1 = A (o + 1) := h.1 1 (by omega)
  have e2 : σ c 2 = A (o + 2) := h.1 2 (by omega)
  have key : ∀ t, t < n → s_X0_wideIn σ c (nI t) = some (wdI (A o) (A (o + 1)) (A (o + 2)) (nI t), σ) := fun t ht => by
    rw [x0_wideIn σ c (nI t) (by rw [e0, e1, e2]; exact hb t ht), e0, e1, e2]
  unfold s_X0_leastWide lsI
  rw [show (0 : Int32) = nI 0 from rfl, key 0 (by omega), bn_some]
  refine loop0 (fun m i v => s_X0_leastWide_8 m σ c v (nI (i + 1))) (fun v => some (v, σ)) (fun s v => mn v (wdI (A o) (A (o + 1)) (A (o + 2)) (nI (s + 1)))) (n - 1) _ (by omega) ?_ ?_
  · intro m i v hi
    simp only [s_X0_leastWide_8]
    simp (disch := omega) only [x0_shapes, bn_some, e0, e2, hn, le_F, ↓reduceIte, key (i + 1) (by omega), lt_e, nI_1]
    rfl
  · intro m v
    simp only [s_X0_leastWide_8]
    simp (disch := omega) only [x0_shapes, bn_some, e0, e2, hn, le_T, ↓reduceIte]
theorem x0_leastHigh (σ : Sg) (c : Nat) (A : Nat → Int32) (o : Nat) (h : BR σ c A o) (hv : VA A o) {n : Nat} (hn : shpI (A o) (A (o + 2)) = nI n) (h1 : 1 ≤ n) (h6 : n ≤ 6) (hb : ∀ t, t < n → VB (A o) (A (o + 1)) (A (o + 2)) (nI t)) : s_X0_leastHigh σ c = some (lsI (fun s => htI (A o) (A (o + 1)) (A (o + 2)) s) n, σ) := by
  have e0 : σ c 0 = A o := h.1 0 (by omega)
  have e1 : σ c 1 = A (o + 1) := h.1 1 (by omega)
  have e2 : σ c 2 = A (o + 2) := h.1 2 (by omega)
  have key : ∀ t, t < n → s_X0_highIn σ c (nI t) = some (htI (A o) (A (o + 1)) (A (o + 2)) (nI t), σ) := fun t ht => by
    rw [x0_highIn σ c (nI t) (by rw [e0, e1, e2]; exact hb t ht), e0, e1, e2]
  unfold s_X0_leastHigh lsI
  rw [show (0 : Int32) = nI 0 from rfl, key 0 (by omega), bn_some]
  refine loop0 (fun m i v => s_X0_leastHigh_8 m σ c v (nI (i + 1))) (fun v => some (v, σ)) (fun s v => mn v (htI (A o) (A (o + 1)) (A (o + 2)) (nI (s + 1)))) (n - 1) _ (by omega) ?_ ?_
  · intro m i v hi
    simp only [s_X0_leastHigh_8]
    simp (disch := omega) only [x0_shapes, bn_some, e0, e2, hn, le_F, ↓reduceIte, key (i + 1) (by omega), lt_e, nI_1]
    rfl
  · intro m v
    simp only [s_X0_leastHigh_8]
    simp (disch := omega) only [x0_shapes, bn_some, e0, e2, hn, le_T, ↓reduceIte]
def shc (A : Nat → Int32) (i : Nat) : Nat := (shpI (A (20 + 6 * i)) (A (20 + 6 * i + 2))).toNatClampNeg
def lwA (A : Nat → Int32) (i : Nat) : Int32 := lsI (fun s => wdI (A (20 + 6 * i)) (A (20 + 6 * i + 1)) (A (20 + 6 * i + 2)) s) (shc A i)
def lhA (A : Nat → Int32) (i : Nat) : Int32 := lsI (fun s => htI (A (20 + 6 * i)) (A (20 + 6 * i + 1)) (A (20 + 6 * i + 2)) s) (shc A i)
def glwA (A : Nat → Int32) : Int32 := itr (fun i g => mx g (lwA A i)) (nB A) 0 0
def glhA (A : Nat → Int32) : Int32 := itr (fun i g => mx g (lhA A i)) (nB A) 0 0
theorem shc_e {A : Nat → Int32} {i : Nat} (h : VA A (20 + 6 * i)) : shpI (A (20 + 6 * i)) (A (20 + 6 * i + 2)) = nI (shc A i) ∧ 1 ≤ shc A i ∧ shc A i ≤ 6 ∧ (∀ t, t < shc A i → VB (A (20 + 6 * i)) (A (20 + 6 * i + 1)) (A (20 + 6 * i + 2)) (nI t)) ∧ ∃ t, t < shc A i ∧ A (20 + 6 * i + 5) = nI t := by
  obtain ⟨n, h1, h2, h3, h4, h5⟩ := VB_sh h
  have e : shc A i = n := by unfold shc; rw [h3, cl_nI (by omega)]
  rw [e]
  exact ⟨h3, h1, h2, h4, h5⟩
section clg
variable {σ : Sg} {b : Nat} {A : Nat → Int32}
theorem x1_glw (hb : FL b) (hw : WF A) (h : RF σ b A) : s_X1_greatestLeastWide σ b = some (glwA A, σ) := by
  have n8 := hw.n8
  refine loop0 (fun m i s => s_X1_greatestLeastWide_4 m σ b s (nI i)) (fun s => some (s, σ)) (fun i g => mx g (lwA A i)) (nB A) 0 (by omega) ?_ ?_
  · intro m i a hi
    obtain ⟨s1, s2, s3, s4, _⟩ := shc_e (hw.v hi)
    simp only [s_X1_greatestLeastWide_4]
    simp (disch := omega) only [h.1.n, hw.n, le_F, ↓reduceIte, FK hb, rtb hb, inb_n, cl_nI, lt_e, x0_leastWide σ _ A _ (h.1.br hi) (hw.v hi) s1 s2 s3 s4, bn_some, nI_1]
    rfl
  · intro m a
    simp only [s_X1_greatestLeastWide_4]
    simp (disch := omega) only [h.1.n, hw.n, le_T, ↓reduceIte]
theorem x1_glh (hb : FL b) (hw : WF A) (h : RF σ b A) : s_X1_greatestLeastHigh σ b = some (glhA A, σ) := by
  have n8 := hw.n8
  refine loop0 (fun m i s => s_X1_greatestLeastHigh_4 m σ b s (nI i)) (fun s => some (s, σ)) (fun i g => mx g (lhA A i)) (nB A) 0 (by omega) ?_ ?_
  · intro m i a hi
    obtain ⟨s1, s2, s3, s4, _⟩ := shc_e (hw.v hi)
    simp only [s_X1_greatestLeastHigh_4]
    simp (disch := omega) only [h.1.n, hw.n, le_F, ↓reduceIte, FK hb, rtb hb, inb_n, cl_nI, lt_e, x0_leastHigh σ _ A _ (h.1.br hi) (hw.v hi) s1 s2 s3 s4, bn_some, nI_1]
    rfl
  · intro m a
    simp only [s_X1_greatestLeastHigh_4]
    simp (disch := omega) only [h.1.n, hw.n, le_T, ↓reduceIte]
end clg
section mdg
variable {σ : Sg} {A : Nat → Int32}
theorem m_leastOf (hw : WF A) (hA : σ 151 = A) (w : Int32) (hwi : w = 0 ∨ w = 1) : s_X11_leastOf σ w = some (if w = 0 then glhA A else glwA A, σ) := by
  have n8 := hw.n8
  unfold s_X11_leastOf
  refine (loop0 (fun m i g => s_X11_leastOf_4 m σ w g (nI i)) (fun g => some (g, σ)) (fun i g => mx g (if w = 0 then lhA A i else lwA A i)) (nB A) 0 (by omega) ?_ ?_).trans ?_
  · intro m i g hi
    obtain ⟨s1, s2, s3, s4, _⟩ := shc_e (hw.v hi)
    simp only [s_X11_leastOf_4, s_X11_blockAt]
    simp (disch := omega) only [hA, hw.n, le_F, ↓reduceIte, bn_some, NK]
    refine (loop0 (fun n t v => s_X11_leastOf_29 (s_X11_leastOf_4 m) n σ w g (nI i) (nI (20 + 6 * i)) v (nI t)) (fun v => s_X11_leastOf_4 m σ w (mx g v) (nI (i + 1))) (fun t v => mn v (if w = 0 then htI (A (20 + 6 * i)) (A (20 + 6 * i + 1)) (A (20 + 6 * i + 2)) (nI t) else wdI (A (20 + 6 * i)) (A (20 + 6 * i + 1)) (A (20 + 6 * i + 2)) (nI t))) (shc A i) 10000 (by omega) ?_ ?_).trans ?_
    · intro n t v ht
      simp only [s_X11_leastOf_29]
      simp (disch := omega) only [inb_n, cl_nI, NK, ↓reduceIte, shapesOf_e, hA, s1, bn_some, le_F, heightOf_e _ (s4 t ht), widthOf_e, least_e]
      split <;> rfl
    · intro n v
      simp only [s_X11_leastOf_29]
      simp (disch := omega) only [inb_n, cl_nI, NK, ↓reduceIte, shapesOf_e, hA, s1, bn_some, le_T, most_e]
    · show s_X11_leastOf_4 m σ w (mx g _) _ = _
      congr 2
      rcases hwi with rfl | rfl
      · simp only [↓reduceIte]
        obtain ⟨v, v1, v2, e⟩ := ht_b (s4 0 (by omega))
        exact lsI_m (fun s => htI (A (20 + 6 * i)) (A (20 + 6 * i + 1)) (A (20 + 6 * i + 2)) s) s2 ⟨v, v2, e⟩
      · simp only [show ¬ (1 : Int32) = 0 by decide, ↓reduceIte]
        obtain ⟨v, v1, v2, e⟩ := wd_b (s4 0 (by omega))
        exact lsI_m (fun s => wdI (A (20 + 6 * i)) (A (20 + 6 * i + 1)) (A (20 + 6 * i + 2)) s) s2 ⟨v, v2, e⟩
  · intro m g
    simp only [s_X11_leastOf_4]
    simp (disch := omega) only [hA, hw.n, le_T, ↓reduceIte]
  · rcases hwi with rfl | rfl
    · rfl
    · rfl
end mdg
/- what could still grow -/
def rbs (A : Nat → Int32) (g : Nat → Int32) (k i : Nat) (v : Int32) : Int32 := if p1 A (o2 A k) < p1 A (o2 A i) ∧ ly A (o2 A k) = ly A (o2 A i) then mx v (g i) else v
def rbk (A : Nat → Int32) (g : Nat → Int32) (k : Nat) : Int32 := itr (rbs A g k) (nB A - (k + 1)) (k + 1) 0
def bF (A : Nat → Int32) : Nat → Nat → Int32
  | 0, _ => 0
  | m + 1, k => if k + (m + 1) = nB A then wd A (o2 A k) + rbk A (bF A m) k else bF A m k
def gA (A : Nat → Int32) (k : Nat) : Int32 := bF A (nB A) k
theorem bF_st (A : Nat → Int32) {k : Nat} : ∀ m d, nB A ≤ k + m → bF A (m + d) k = bF A m k := by
  intro m d
  induction d with
  | zero => intro _; rfl
  | succ d ih =>
    intro h
    show (if k + (m + d + 1) = nB A then _ else bF A (m + d) k) = _
    rw [if_neg (by omega)]
    exact ih h
theorem itr_cg {α : Type} {f g : Nat → α → α} {n : Nat} : ∀ k i a, i + k ≤ n → (∀ j a, i ≤ j → j < n → f j a = g j a) → itr f k i a = itr g k i a := by
  intro k
  induction k with
  | zero => intro i a _ _; rfl
  | succ k ih =>
    intro i a h hh
    show itr f k (i + 1) (f i a) = itr g k (i + 1) (g i a)
    rw [hh i a (by omega) (by omega)]
    exact ih (i + 1) _ (by omega) (fun j a h1 h2 => hh j a (by omega) h2)
theorem rbk_c (A : Nat → Int32) {g g' : Nat → Int32} {k : Nat} (hk : k < nB A) (h : ∀ i, k < i → i < nB A → g i = g' i) : rbk A g k = rbk A g' k := by
  unfold rbk
  refine itr_cg (n := nB A) _ _ _ (by omega) ?_
  intro j a h1 h2
  unfold rbs
  rw [h j (by omega) h2]
theorem gA_e (A : Nat → Int32) {k : Nat} (hk : k < nB A) : gA A k = wd A (o2 A k) + rbk A (gA A) k := by
  unfold gA
  obtain ⟨m, hm⟩ : ∃ m, k + (m + 1) = nB A := ⟨nB A - k - 1, by omega⟩
  have e1 : bF A (nB A) k = bF A (m + 1) k := by
    have := bF_st A (k := k) (m + 1) k (by omega)
    rw [show m + 1 + k = nB A by omega] at this
    exact this
  rw [e1]
  show (if k + (m + 1) = nB A then _ else _) = _
  rw [if_pos hm]
  congr 1
  refine rbk_c A hk ?_
  intro i h1 h2
  have := bF_st A (k := i) m (nB A - m) (by omega)
  rw [show m + (nB A - m) = nB A by omega] at this
  exact this.symm
def growA (A : Nat → Int32) (i : Nat) : Int32 := WW A - XX A i - gA A (p2 A i)
theorem m1p (n : Nat) : nI n + (-1) = nI n - 1 := by rw [Int32.sub_eq_add_neg]
theorem predI {n : Nat} (h : 0 < n) : nI n - 1 = nI (n - 1) := pk_sub (b := 1) h
section clw
variable {σ : Sg} {b : Nat} {A : Nat → Int32}
theorem x1_reach (hb : FL b) (hw : WF A) (h : RF σ b A) {k : Nat} (hk : k < nB A) (hr : ∀ i, k < i → i < nB A → σ (b + 6) (o2 A i) = gA A i) : s_X1_reachBehind σ b (nI k) = some (rbk A (gA A) k, σ) := by
  have n8 := hw.n8
  have lk := hw.l2 hk
  have ek : σ (b + 3) k = nI (o2 A k) := by rw [h.1.oth hk, hw.e2 hk]
  have qk := hw.pl1 lk
  unfold s_X1_reachBehind
  simp (disch := omega) only [FK hb, inb_n, cl_nI, ek, lt_e, ↓reduceIte, nI_1]
  refine (loopE (F := fun m i v => s_X1_reachBehind_14 m σ b (nI (o2 A k)) v (nI i)) (fin := fun v => some (v, σ)) (f := rbs A (gA A) k) (n := nB A) (P := fun i _ => k < i) ?_ ?_ (nB A - (k + 1)) (k + 1) FU 0 (by omega) (by show _ < 4096; omega) (by omega)).1
  · intro m i v hi hki
    have li := hw.l2 hi
    have ei : σ (b + 3) i = nI (o2 A i) := by rw [h.1.oth hi, hw.e2 hi]
    have qi := hw.pl1 li
    refine ⟨?_, by omega⟩
    simp only [s_X1_reachBehind_14]
    simp (disch := omega) only [h.1.n, hw.n, le_F, ↓reduceIte, FK hb, rtb hb, inb_n, cl_nI, ei, lt_e, h.p1 li, h.p1 lk, h.1.lyv li, h.1.lyv lk, hr i hki hi, nI_1]
    unfold rbs
    by_cases c : p1 A (o2 A k) < p1 A (o2 A i)
    · by_cases c2 : ly A (o2 A k) = ly A (o2 A i)
      · simp (disch := omega) only [c, c2, le_F, ↓reduceIte, and_self, mx]
      · simp (disch := omega) only [c, c2, le_F, ↓reduceIte, and_false]
    · simp (disch := omega) only [c, le_T, ↓reduceIte, false_and]
  · intro m v _
    simp only [s_X1_reachBehind_14]
    simp (disch := omega) only [h.1.n, hw.n, le_T, ↓reduceIte]
theorem x1_grows (hb : FL b) (hw : WF A) (h : RF σ b A) {i : Nat} (hi : i < nB A) : Gv (s_X1_growsOf σ b (nI i)) (fun r τ => r = growA A i ∧ ∀ c, c ≠ b + 6 → τ c = σ c) := by
  have n8 := hw.n8
  unfold s_X1_growsOf
  rw [h.1.n, hw.n, lt_e]
  refine gv_loop0 (fun m t τ => s_X1_growsOf_7 m τ b (nI i) (nI (nB A - t) - 1)) (nB A) (fun t τ => (∀ c, c ≠ b + 6 → τ c = σ c) ∧ ∀ j, nB A - t ≤ j → j < nB A → τ (b + 6) (o2 A j) = gA A j) (by omega) ⟨fun _ _ => rfl, fun j h1 h2 => absurd h2 (by omega)⟩ ?_ ?_
  · intro m t τ ht ⟨r1, r2⟩
    have hk : nB A - t - 1 < nB A := by omega
    have hT : RF τ b A := RF_c h n8 (fun c _ _ hc => r1 c hc)
    have e := x1_reach hb hw hT hk (fun j h1 h2 => r2 j (by omega) h2)
    have ek : τ (b + 3) (nB A - t - 1) = nI (o2 A (nB A - t - 1)) := by rw [hT.1.oth hk, hw.e2 hk]
    have lk := hw.l2 hk
    refine ⟨up τ (b + 6) (o2 A (nB A - t - 1)) (wd A (o2 A (nB A - t - 1)) + rbk A (gA A) (nB A - t - 1)), ?_, ?_, ?_⟩
    · rw [predI (by omega)]
      have c1 : ¬ nI (nB A - t - 1) < 0 := nI_pos (by omega)
      simp only [s_X1_growsOf_7]
      simp (disch := omega) only [c1, ↓reduceIte, FK hb, rtb hb, inb_n, cl_nI, ek, e, bn_some, lt_e, hT.1.w lk, m1p]
      rw [show nB A - (t + 1) = nB A - t - 1 by omega]
    · intro c hc
      rw [up_d hc]; exact r1 c hc
    · intro j h1 h2
      rw [up_f]
      by_cases q : j = nB A - t - 1
      · subst q; rw [ua_s, gA_e A h2]
      · rw [ua_n (fun e => q (hw.j2 h2 hk e))]
        exact r2 j (by omega) h2
  · intro m τ ⟨r1, r2⟩
    have hT : RF τ b A := RF_c h n8 (fun c _ _ hc => r1 c hc)
    have c1 : nI (nB A - nB A) - 1 < 0 := by rw [Nat.sub_self]; decide
    have e := r2 (p2 A i) (by omega) (hw.pl2 hi)
    rw [show o2 A (p2 A i) = i from (PM_q hw.m2 hi).2] at e
    simp only [s_X1_growsOf_7]
    simp (disch := omega) only [c1, ↓reduceIte, FK hb, rtb hb, inb_n, cl_nI, hT.ww, hT.x hi, e]
    exact gv_i ⟨rfl, r1⟩
end clw
section mdw
variable {σ : Sg} {A : Nat → Int32}
theorem m_behind (hw : WF A) (hA : σ 151 = A) (hp : PDd σ A) : ∀ f k, k < nB A → nB A - k ≤ f → n_X11_behind f σ (nI (o2 A k)) = some (gA A k, σ) := by
  have n8 := hw.n8
  intro f
  induction f with
  | zero => intro k hk hf; omega
  | succ f ih =>
    intro k hk hf
    have lk := hw.l2 hk
    have qk := hw.pl1 lk
    have w1 := width_e σ (i := o2 A k) (by omega)
    rw [hA] at w1
    show s_X11_behind (n_X11_behind f) σ (nI (o2 A k)) = _
    unfold s_X11_behind
    have e0 : σ 151 0 = nI (nB A) := by rw [hA, hw.n]
    rw [e0, lt_e]
    have := loop0P (fun m i (a : Int32 × Int32) => s_X11_behind_15 (n_X11_behind f) m σ (nI (o2 A k)) a.1 (nI (nB A)) a.2 (nI i)) (fun a => some (a.1 + wd A (o2 A k), σ)) (fun i _ => if i < k then (0, 0) else (itr (rbs A (gA A) k) (i - k) (k + 1) 0, 1)) (nB A) (fun i a => a = if i ≤ k then (0, 0) else (itr (rbs A (gA A) k) (i - (k + 1)) (k + 1) 0, 1)) (0, 0) (by omega) (by simp) ?_ ?_
    · refine this.1.trans ?_
      rw [this.2, if_neg (by omega), gA_e A hk, Int32.add_comm]
      rfl
    · intro m i a hi ha
      have li := hw.l2 hi
      have qi := hw.pl1 li
      have eo : A (78 + i) = nI (o2 A i) := hw.e2 hi
      have al := alike_e σ (i := o2 A k) (j := o2 A i) (by omega) (by omega)
      rw [hA] at al
      have io : (nI (o2 A i) = nI (o2 A k)) = (o2 A i = o2 A k) := ieq (by omega) (by omega)
      constructor
      · show s_X11_behind_15 _ (m + 1) σ (nI (o2 A k)) a.1 (nI (nB A)) a.2 (nI i) = _
        simp only [s_X11_behind_15, s_X11_behind_78]
        simp (disch := omega) only [le_F, ↓reduceIte, NK, inb_n, cl_nI, hA, eo, lt_e, al, bn_some, hp.p li, hp.p lk, most_e, io]
        subst ha
        by_cases c : i ≤ k
        · simp only [c, ↓reduceIte]
          by_cases c2 : i < k
          · have ne : ¬ o2 A i = o2 A k := fun e => by have := hw.j2 hi hk e; omega
            simp only [ne, c2, ↓reduceIte]
          · have : i = k := by omega
            subst this
            simp [itr]
        · have c2 : ¬ i < k := by omega
          obtain ⟨d, hd⟩ : ∃ d, i - k = d + 1 := ⟨i - k - 1, by omega⟩
          have e3 : i - (k + 1) = d := by omega
          have e4 : k + 1 + d = i := by omega
          simp only [c, c2, ↓reduceIte, e3, hd, itr_snoc, e4, show ¬ (1 : Int32) = 0 by decide]
          generalize itr (rbs A (gA A) k) d (k + 1) 0 = v
          unfold rbs
          by_cases c3 : ly A (o2 A k) = ly A (o2 A i)
          · by_cases c4 : p1 A (o2 A k) < p1 A (o2 A i)
            · simp (disch := omega) only [c3, c4, le_F, ↓reduceIte, and_self, ih i hi (by omega), bn_some, show ¬ (1 : Int32) = 0 by decide]
            · simp (disch := omega) only [c3, c4, le_T, ↓reduceIte, false_and, show ¬ (1 : Int32) = 0 by decide]
          · simp only [c3, ↓reduceIte, and_false]
      · by_cases c : i < k
        · simp only [c, ↓reduceIte, show i + 1 ≤ k by omega]
        · simp only [c, ↓reduceIte, show ¬ i + 1 ≤ k by omega]
          rw [show i + 1 - (k + 1) = i - k by omega]
    · intro m a _
      simp only [s_X11_behind_15]
      simp (disch := omega) only [le_T, ↓reduceIte, w1, bn_some]
theorem m_grows (hw : WF A) (hA : σ 151 = A) (hp : PDd σ A) {i : Nat} (hi : i < nB A) : s_X11_growsOf σ (nI i) = some (growA A i, σ) := by
  have n8 := hw.n8
  have e := m_behind hw hA hp 10 (p2 A i) (hw.pl2 hi) (by omega)
  rw [show o2 A (p2 A i) = i from (PM_q hw.m2 hi).2] at e
  unfold s_X11_growsOf growA
  simp (disch := omega) only [inb_n, cl_nI, ↓reduceIte, e, bn_some, hp.ww, hp.x hi]
end mdw
