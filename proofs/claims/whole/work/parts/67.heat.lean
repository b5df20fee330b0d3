def ovI (a n b m : Int32) : Int32 := mn (a + n) (b + m) - mx a b
def axA (A : Nat → Int32) (i j : Nat) : Int32 := ovI (XX A i) (wd A i) (XX A j) (wd A j)
def ayA (A : Nat → Int32) (i j : Nat) : Int32 := ovI (YY A i) (ht A i) (YY A j) (ht A j)
def tcI (A : Nat → Int32) (i j : Nat) : Int32 := if ly A i = ly A j then (if axA A i j = 0 ∧ 0 < ayA A i j then 1 else if ayA A i j = 0 ∧ 0 < axA A i j then 1 else 0) else 0
def loI (A : Nat → Int32) (i j : Nat) : Int32 := if ly A i = ly A j then 0 else if 0 < axA A i j ∧ 0 < ayA A i j then 1 else 0
def hst (A : Nat → Int32) (i o : Nat) (s : Int32) : Int32 := if tcI A i o = 0 then (if loI A i o = 0 then s else s + 2 * pw A o) else s + pw A o
def heatA (A : Nat → Int32) (i : Nat) : Int32 := itr (hst A i) (nB A) 0 (4 * pw A i)
theorem ovI_s (a n : Int32) : ovI a n a n = n := by
  unfold ovI mn mx
  simp only [Int32.lt_irrefl, ↓reduceIte]
  rw [Int32.add_comm, Int32.add_sub_cancel]
theorem tcI_s {A : Nat → Int32} (hw : WF A) {i : Nat} (hi : i < nB A) : tcI A i i = 0 ∧ loI A i i = 0 := by
  obtain ⟨w, w1, w2, e1⟩ := wd_b (hw.v hi)
  obtain ⟨v, v1, v2, e2⟩ := ht_b (hw.v hi)
  have f1 : axA A i i = nI w := by unfold axA; rw [ovI_s]; exact e1
  have f2 : ayA A i i = nI v := by unfold ayA; rw [ovI_s]; exact e2
  have g1 : ¬ nI w = 0 := nI_ne0 (by omega) (by omega)
  have g2 : ¬ nI v = 0 := nI_ne0 (by omega) (by omega)
  unfold tcI loI
  rw [f1, f2]
  simp [g1, g2]
theorem tcI_b (A : Nat → Int32) (i j : Nat) : tcI A i j = 0 ∨ tcI A i j = 1 := by
  unfold tcI
  split
  · split
    · exact .inr rfl
    · split
      · exact .inr rfl
      · exact .inl rfl
  · exact .inl rfl
section clh
variable {σ : Sg} {b : Nat} {A : Nat → Int32}
theorem x0_across (h : RF σ b A) {i j : Nat} (hi : i < nB A) (hj : j < nB A) : s_X0_sharedAcross σ (b + 10 + i) (b + 10 + j) = some (axA A i j, σ) := by
  unfold s_X0_sharedAcross
  simp only [h.x hi, h.x hj, h.1.w hi, h.1.w hj, lt_e]
  rfl
theorem x0_up (h : RF σ b A) {i j : Nat} (hi : i < nB A) (hj : j < nB A) : s_X0_sharedUp σ (b + 10 + i) (b + 10 + j) = some (ayA A i j, σ) := by
  unfold s_X0_sharedUp
  simp only [h.y hi, h.y hj, h.1.hh hi, h.1.hh hj, lt_e]
  rfl
theorem x0_touches (h : RF σ b A) {i j : Nat} (hi : i < nB A) (hj : j < nB A) : s_X0_touches σ (b + 10 + i) (b + 10 + j) = some (tcI A i j, σ) := by
  unfold s_X0_touches s_X0_touches_34 tcI
  simp only [h.1.lyv hi, h.1.lyv hj, x0_across h hi hj, x0_up h hi hj, bn_some, one_le, lt_one, le0]
  by_cases e : ly A i = ly A j
  · by_cases e1 : axA A i j = 0
    · by_cases e2 : 0 < ayA A i j
      · simp [e, e1, e2]
      · by_cases e3 : ayA A i j = 0 <;> simp [e, e1, e2, e3]
    · by_cases e3 : ayA A i j = 0
      · by_cases e4 : 0 < axA A i j <;> simp [e, e1, e3, e4]
      · simp [e, e1, e3]
  · simp [e]
theorem x0_lies (h : RF σ b A) {i j : Nat} (hi : i < nB A) (hj : j < nB A) : s_X0_liesOver σ (b + 10 + i) (b + 10 + j) = some (loI A i j, σ) := by
  unfold s_X0_liesOver loI
  simp only [h.1.lyv hi, h.1.lyv hj, x0_across h hi hj, x0_up h hi hj, bn_some, lt_one, le0]
  by_cases e : ly A i = ly A j
  · simp [e]
  · by_cases e1 : 0 < axA A i j
    · by_cases e2 : 0 < ayA A i j <;> simp [e, e1, e2]
    · simp [e, e1]
theorem x1_heatOf (hb : FL b) (hw : WF A) (h : RF σ b A) {i : Nat} (hi : i < nB A) : s_X1_heatOf σ b (nI i) = some (heatA A i, σ) := by
  have n8 := hw.n8
  unfold s_X1_heatOf heatA
  simp (disch := omega) only [FK hb, rtb hb, inb_n, cl_nI, lt_e, ↓reduceIte, h.1.pwv hi]
  refine loop0 (fun m o s => s_X1_heatOf_17 m σ b (b + 10 + i) s (nI o)) (fun s => some (s, σ)) (hst A i) (nB A) (4 * pw A i) (by omega) ?_ ?_
  · intro m o a ho
    simp only [s_X1_heatOf_17]
    simp (disch := omega) only [h.1.n, hw.n, le_F, ↓reduceIte, FK hb, rtb hb, inb_n, cl_nI, lt_e, x0_touches h hi ho, x0_lies h hi ho, bn_some, h.1.pwv ho, nI_1]
    unfold hst
    split
    · split <;> rfl
    · rfl
  · intro m a
    simp only [s_X1_heatOf_17]
    simp (disch := omega) only [h.1.n, hw.n, le_T, ↓reduceIte]
def hot1 (A : Nat → Int32) (i : Nat) (a : Nat × Int32) : Nat × Int32 := if heatA A i ≤ a.2 then a else (i, heatA A i)
def hotK (A : Nat → Int32) (k : Nat) : Nat × Int32 := itr (hot1 A) k 0 (0, -1)
def hotA (A : Nat → Int32) : Nat := (hotK A (nB A)).1
theorem x1_hottest (hb : FL b) (hw : WF A) (h : RF σ b A) : s_X1_hottestBlock σ b = some (nI (hotA A), σ) := by
  have n8 := hw.n8
  unfold s_X1_hottestBlock hotA hotK
  refine loop0 (fun m i (a : Nat × Int32) => s_X1_hottestBlock_6 m σ b (nI a.1) a.2 (nI i)) (fun a => some (nI a.1, σ)) (hot1 A) (nB A) (0, -1) (by omega) ?_ ?_
  · intro m i a hi
    simp only [s_X1_hottestBlock_6]
    simp (disch := omega) only [h.1.n, hw.n, le_F, ↓reduceIte, x1_heatOf hb hw h hi, bn_some, nI_1]
    unfold hot1
    split <;> rfl
  · intro m a
    simp only [s_X1_hottestBlock_6]
    simp (disch := omega) only [h.1.n, hw.n, le_T, ↓reduceIte]
theorem heat_b (hw : WF A) {i : Nat} (hi : i < nB A) : sm 2000 (heatA A i) := by
  have n8 := hw.n8
  have := itr_inv0 (f := hst A i) (fun k s => sm (396 + 198 * k) s) (n := nB A) (a := 4 * pw A i) (sm_w (sm_mul (sm_k (N := 4) (t := 4) (by omega)) (hw.pwv hi)) (by omega)) (fun k a hk hp => by
    unfold hst
    split
    · split
      · exact sm_w hp (by omega)
      · exact sm_w (sm_add hp (sm_mul (sm_k (N := 2) (t := 2) (by omega)) (hw.pwv hk))) (by omega)
    · exact sm_w (sm_add hp (hw.pwv hk)) (by omega))
  exact sm_w this (by omega)
theorem hotK_s (A : Nat → Int32) (k : Nat) : hotK A (k + 1) = hot1 A k (hotK A k) := itr_0 _ _ _
theorem hot_in (hw : WF A) : ∀ k, k < nB A → (hotK A (k + 1)).1 < k + 1 ∧ (hotK A (k + 1)).2 = heatA A (hotK A (k + 1)).1 := by
  intro k
  induction k with
  | zero =>
    intro hk
    rw [hotK_s]
    have e : ¬ heatA A 0 ≤ (hotK A 0).2 := by
      show ¬ heatA A 0 ≤ -1
      intro c
      have c2 := sm_ge (heat_b hw hk) (by omega)
      exact absurd (Int32.le_trans c2 c) (by decide)
    unfold hot1
    rw [if_neg e]
    exact ⟨by omega, rfl⟩
  | succ k ih =>
    intro hk
    have := ih (by omega)
    rw [hotK_s]
    unfold hot1
    split
    · exact ⟨by omega, this.2⟩
    · exact ⟨by omega, rfl⟩
theorem hot_lt (hw : WF A) (h0 : nB A ≠ 0) : hotA A < nB A := by
  have := hot_in hw (nB A - 1) (by omega)
  rw [show nB A - 1 + 1 = nB A by omega] at this
  exact this.1
def ghA (A : Nat → Int32) : Int32 := if nB A = 0 then 0 else heatA A (hotA A)
theorem n_0 (hw : WF A) : (A 0 = 0) = (nB A = 0) := by
  have n8 := hw.n8
  rw [hw.n]; exact propext (nI_eq (b := 0) (by omega) (by omega))
theorem x1_gheat (hb : FL b) (hw : WF A) (h : RF σ b A) : s_X1_greatestHeat σ b = some (ghA A, σ) := by
  unfold s_X1_greatestHeat ghA
  rw [h.1.n]
  simp only [n_0 hw]
  by_cases e : nB A = 0
  · simp [e]
  · simp only [e, ↓reduceIte, x1_hottest hb hw h, bn_some, x1_heatOf hb hw h (hot_lt hw e)]
end clh
section mdh
variable {σ : Sg} {A : Nat → Int32}
theorem over_e (σ : Sg) (a n b m : Int32) : s_X11_over σ a n b m = some (ovI a n b m, σ) := by
  unfold s_X11_over ovI
  simp only [least_e, most_e, bn_some]
theorem m_touch (hw : WF A) (hA : σ 151 = A) (hp : PDd σ A) {i j : Nat} (hi : i < nB A) (hj : j < nB A) : s_X11_doTouch σ (nI i) (nI j) = some (tcI A i j, σ) := by
  have n8 := hw.n8
  have w1 := width_e σ (i := i) (by omega)
  have h1 := height_e σ (i := i) (by omega) (by rw [hA]; exact hw.v hi)
  have w2 := width_e σ (i := j) (by omega)
  have h2 := height_e σ (i := j) (by omega) (by rw [hA]; exact hw.v hj)
  have al := alike_e σ (i := i) (j := j) (by omega) (by omega)
  rw [hA] at w1 h1 w2 h2 al
  unfold s_X11_doTouch s_X11_doTouch_71
  simp (disch := omega) only [inb_n, cl_nI, ↓reduceIte, w1, h1, w2, h2, al, bn_some, over_e, hp.x hi, hp.x hj, hp.y hi, hp.y hj]
  show (if (if ly A i = ly A j then (1 : Int32) else 0) = 0 then some (0, σ) else if axA A i j = 0 then if 0 < ayA A i j then some (1, σ) else if ayA A i j = 0 then if axA A i j ≤ 0 then some (0, σ) else some (1, σ) else some (0, σ) else if ayA A i j = 0 then if axA A i j ≤ 0 then some (0, σ) else some (1, σ) else some (0, σ)) = _
  unfold tcI
  simp only [le0]
  by_cases e : ly A i = ly A j
  · by_cases e1 : axA A i j = 0
    · by_cases e2 : 0 < ayA A i j
      · simp [e, e1, e2]
      · by_cases e3 : ayA A i j = 0 <;> simp [e, e1, e2, e3]
    · by_cases e3 : ayA A i j = 0
      · by_cases e4 : 0 < axA A i j <;> simp [e, e1, e3, e4]
      · simp [e, e1, e3]
  · simp [e]
theorem m_heatOf (hw : WF A) (hA : σ 151 = A) (hp : PDd σ A) {i : Nat} (hi : i < nB A) : s_X11_heatOf σ (nI i) = some (heatA A i, σ) := by
  have n8 := hw.n8
  unfold s_X11_heatOf heatA s_X11_blockAt
  have ep : A (20 + 6 * i + 3) = pw A i := rfl
  simp (disch := omega) only [bn_some, NK, inb_n, cl_nI, lt_e, ↓reduceIte, hA, ep]
  refine loop0 (fun m o s => s_X11_heatOf_17 m σ (nI i) s (nI o)) (fun s => some (s, σ)) (hst A i) (nB A) (4 * pw A i) (by omega) ?_ ?_
  · intro m o a ho
    have w1 := width_e σ (i := i) (by omega)
    have h1 := height_e σ (i := i) (by omega) (by rw [hA]; exact hw.v hi)
    have w2 := width_e σ (i := o) (by omega)
    have h2 := height_e σ (i := o) (by omega) (by rw [hA]; exact hw.v ho)
    have al := alike_e σ (i := i) (j := o) (by omega) (by omega)
    have eo : A (20 + 6 * o + 3) = pw A o := rfl
    have io : (nI o = nI i) = (o = i) := ieq (by omega) (by omega)
    have ex : ovI (XX A i) (wd A i) (XX A o) (wd A o) = axA A i o := rfl
    have ey : ovI (YY A i) (ht A i) (YY A o) (ht A o) = ayA A i o := rfl
    rw [hA] at w1 h1 w2 h2 al
    simp only [s_X11_heatOf_17, s_X11_heatOf_97, s_X11_blockAt]
    simp (disch := omega) only [hA, hw.n, le_F, ↓reduceIte, inb_n, cl_nI, w1, h1, w2, h2, al, bn_some, over_e, hp.x hi, hp.x ho, hp.y hi, hp.y ho, lt_e, m_touch hw hA hp hi ho, NK, eo, io, ex, ey, le0, Int32.add_zero]
    unfold hst
    by_cases eq : o = i
    · subst eq
      have := tcI_s hw hi
      simp [this.1, this.2]
    · by_cases e : ly A i = ly A o
      · have l0 : loI A i o = 0 := by unfold loI; simp [e]
        by_cases t : tcI A i o = 0 <;> simp [eq, e, l0, t]
      · have t0 : tcI A i o = 0 := by unfold tcI; simp [e]
        unfold loI
        by_cases e1 : 0 < axA A i o
        · by_cases e2 : 0 < ayA A i o <;> simp [eq, e, t0, e1, e2]
        · simp [eq, e, t0, e1]
  · intro m a
    simp only [s_X11_heatOf_17]
    simp (disch := omega) only [hA, hw.n, le_T, ↓reduceIte]
theorem m_hottest (hw : WF A) (hA : σ 151 = A) (hp : PDd σ A) : s_X11_hottestNow σ = some (if nB A = 0 then -1 else nI (hotA A), σ) := by
  have n8 := hw.n8
  unfold s_X11_hottestNow
  have := loop0P (fun m i a => s_X11_hottestNow_4 m σ a (nI i)) (fun a => some (a, σ)) (fun i _ => nI (hotK A (i + 1)).1) (nB A) (fun i a => a = if i = 0 then -1 else nI (hotK A i).1) (-1) (by omega) rfl ?_ ?_
  · refine this.1.trans ?_
    rw [this.2]
    rfl
  · intro m i a hi ha
    refine ⟨?_, by simp⟩
    show s_X11_hottestNow_4 (m + 1) σ a (nI i) = s_X11_hottestNow_4 m σ (nI (hotK A (i + 1)).1) (nI (i + 1))
    simp only [s_X11_hottestNow_4]
    by_cases h0 : i = 0
    · subst h0
      have : (hotK A (0 + 1)).1 = 0 := by have := hot_in hw 0 hi; omega
      rw [this, ha]
      simp (disch := omega) only [hA, hw.n, le_F, ↓reduceIte]
      rfl
    · rw [if_neg h0] at ha
      obtain ⟨k, rfl⟩ : ∃ k, i = k + 1 := ⟨i - 1, by omega⟩
      have hh := hot_in hw k (by omega)
      subst ha
      have c1 : ¬ nI (hotK A (k + 1)).1 < 0 := nI_pos (by omega)
      simp (disch := omega) only [hA, hw.n, le_F, c1, ↓reduceIte, m_heatOf hw hA hp hi, m_heatOf hw hA hp (show (hotK A (k + 1)).1 < nB A by omega), bn_some, nI_1]
      rw [hotK_s A (k + 1)]
      unfold hot1
      rw [hh.2]
      split <;> rfl
  · intro m a ha
    simp only [s_X11_hottestNow_4]
    simp (disch := omega) only [hA, hw.n, le_T, ↓reduceIte]
end mdh
