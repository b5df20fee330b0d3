theorem one_le (v : Int32) : (1 ≤ v) = (0 < v) := by
  apply propext; rw [le_t, lt_t, show (1 : Int32).toInt = 1 by decide, show (0 : Int32).toInt = 0 by decide]; omega
theorem lt_one (v : Int32) : (v < 1) = (v ≤ 0) := by
  apply propext; rw [le_t, lt_t, show (1 : Int32).toInt = 1 by decide, show (0 : Int32).toInt = 0 by decide]; omega
theorem le0 (v : Int32) : (v ≤ 0) = ¬ (0 < v) := by
  apply propext; exact lt_le.symm
theorem bit01 (x : Int32) : (x &&& 1 = 0 ∧ ¬ x &&& 1 = 1) ∨ (x &&& 1 = 1 ∧ ¬ x &&& 1 = 0) := by
  obtain ⟨j, hj, e⟩ := pk_andE x (m := 1) 1 (by decide)
  have : j = 0 ∨ j = 1 := by omega
  rw [e]
  rcases this with rfl | rfl
  · exact .inl ⟨rfl, by decide⟩
  · exact .inr ⟨rfl, by decide⟩
/- one wire -/
abbrev W6 : Type := Int32 × Int32 × Int32 × Int32 × Int32 × Int32
def cx (A : Nat → Int32) (i : Nat) : Int32 := 2 * XX A i + wd A i
def cy (A : Nat → Int32) (i : Nat) : Int32 := 2 * YY A i + ht A i
def wst (A : Nat → Int32) (z : Int32) (i : Nat) (a : W6) : W6 := if ((z >>> (nI i &&& 31)) &&& 1) = 1 then (a.1 + 1, a.2.1 ||| (1 <<< (ly A i &&& 31)), mn a.2.2.1 (cx A i), mx a.2.2.2.1 (cx A i), mn a.2.2.2.2.1 (cy A i), mx a.2.2.2.2.2 (cy A i)) else a
def wfin (A : Nat → Int32) (j : Nat) (a : W6) : Int32 := if 2 ≤ a.1 then (if a.2.1 = 3 then ((((a.2.2.2.1 - a.2.2.1) + a.2.2.2.2.2) - a.2.2.2.2.1) + 2 * A 5) * A (90 + 2 * j + 1) else ((((a.2.2.2.1 - a.2.2.1) + a.2.2.2.2.2) - a.2.2.2.2.1) + 0) * A (90 + 2 * j + 1)) else 0
def wireA (A : Nat → Int32) (j : Nat) : Int32 := wfin A j (itr (wst A (A (90 + 2 * j))) (nB A) 0 (0, 0, 2147483647, (-2147483648), 2147483647, (-2147483648)))
def wiresA (A : Nat → Int32) : Int32 := itr (fun j s => s + wireA A j) (nN A) 0 0
theorem RF.x {σ : Sg} {b : Nat} {A : Nat → Int32} (h : RF σ b A) {i : Nat} (hi : i < nB A) : σ (b + 10 + i) 8 = XX A i := (h.2.2.1 i hi).1
theorem RF.y {σ : Sg} {b : Nat} {A : Nat → Int32} (h : RF σ b A) {i : Nat} (hi : i < nB A) : σ (b + 10 + i) 9 = YY A i := (h.2.2.1 i hi).2
theorem RF.ww {σ : Sg} {b : Nat} {A : Nat → Int32} (h : RF σ b A) : σ b 12 = WW A := h.2.2.2.1
theorem RF.hw {σ : Sg} {b : Nat} {A : Nat → Int32} (h : RF σ b A) : σ b 13 = HH A := h.2.2.2.2
theorem RF.p1 {σ : Sg} {b : Nat} {A : Nat → Int32} (h : RF σ b A) {i : Nat} (hi : i < nB A) : σ (b + 4) i = nI (p1 A i) := (h.2.1 i hi).1
theorem RF.p2 {σ : Sg} {b : Nat} {A : Nat → Int32} (h : RF σ b A) {i : Nat} (hi : i < nB A) : σ (b + 5) i = nI (p2 A i) := (h.2.1 i hi).2
theorem k0c : (0 : Int32).toNatClampNeg = 0 := by decide
theorem k1c : (1 : Int32).toNatClampNeg = 1 := by decide
theorem k2c : (2 : Int32).toNatClampNeg = 2 := by decide
theorem k3c : (3 : Int32).toNatClampNeg = 3 := by decide
theorem k4c : (4 : Int32).toNatClampNeg = 4 := by decide
theorem b05 : (inb 0 5 = true) = True := by decide
theorem b15 : (inb 1 5 = true) = True := by decide
theorem b25 : (inb 2 5 = true) = True := by decide
theorem b35 : (inb 3 5 = true) = True := by decide
theorem b45 : (inb 4 5 = true) = True := by decide
section cls
variable {σ : Sg} {b : Nat} {A : Nat → Int32} (hb : FL b) (hw : WF A) (h : RF σ b A)
theorem x1_wireOf (hb : FL b) (hw : WF A) (h : RF σ b A) {j : Nat} (hj : j < nN A) : s_X1_wireOf σ b (nI j) = some (wireA A j, σ) := by
  have n8 := hw.n8
  have n10 := hw.nn10
  unfold s_X1_wireOf
  simp (disch := omega) only [FK hb, inb_n, cl_nI, h.1.set hj, lt_e, ↓reduceIte]
  refine loop0 (fun m i (a : W6) => s_X1_wireOf_31 m σ b (nI j) (A (90 + 2 * j)) a.1 a.2.1 a.2.2.1 a.2.2.2.1 a.2.2.2.2.1 a.2.2.2.2.2 (nI i)) (fun a => some (wfin A j a, σ)) (wst A (A (90 + 2 * j))) (nB A) (0, 0, 2147483647, (-2147483648), 2147483647, (-2147483648)) (by omega) ?_ ?_
  · intro m i a hi
    simp only [s_X1_wireOf_31]
    simp (disch := omega) only [h.1.n, hw.n, le_F, ↓reduceIte, FK hb, rtb hb, inb_n, cl_nI, lt_e, h.x hi, h.y hi, h.1.w hi, h.1.hh hi, h.1.lyv hi, nI_1]
    unfold wst
    split
    · rfl
    · rfl
  · intro m a
    simp only [s_X1_wireOf_31, s_X1_wireOf_171]
    simp (disch := omega) only [h.1.n, hw.n, le_T, ↓reduceIte, FK hb, inb_n, cl_nI, h.1.wgt hj, b05, k0c, h.1.rul (k := 0)]
    unfold wfin
    split
    · split <;> rfl
    · rfl
theorem x1_wires (hb : FL b) (hw : WF A) (h : RF σ b A) : s_X1_wires σ b = some (wiresA A, σ) := by
  have n10 := hw.nn10
  refine loop0 (fun m i s => s_X1_wires_4 m σ b s (nI i)) (fun s => some (s, σ)) (fun j s => s + wireA A j) (nN A) 0 (by omega) ?_ ?_
  · intro m i a hi
    simp only [s_X1_wires_4]
    simp (disch := omega) only [h.1.nets, hw.nn, le_F, ↓reduceIte, x1_wireOf hb hw h hi, bn_some, lt_e, nI_1]
  · intro m a
    simp only [s_X1_wires_4]
    simp (disch := omega) only [h.1.nets, hw.nn, le_T, ↓reduceIte]
def priceA (A : Nat → Int32) : Int32 := (WW A * HH A * A 6 + wiresA A * A 7) + (mx 0 (WW A - A 9) + mx 0 (HH A - A 9)) * A 8
theorem x1_price (hb : FL b) (hw : WF A) (h : RF σ b A) : s_X1_price σ b = some (priceA A, σ) := by
  unfold s_X1_price
  simp (disch := omega) only [FK hb, b45, b15, b25, b35, k1c, k2c, k3c, k4c, h.1.rul (k := 1), h.1.rul (k := 2), h.1.rul (k := 3), h.1.rul (k := 4), h.ww, h.hw, ↓reduceIte, lt_e, x1_wires hb hw h, bn_some]
  rfl
/- rooms -/
def abvA (A : Nat → Int32) : Int32 := itr (fun i s => s + ly A i) (nB A) 0 0
def usedA (A : Nat → Int32) : Int32 := itr (fun i s => s + wd A i * ht A i) (nB A) 0 0
def wasteA (A : Nat → Int32) : Int32 := WW A * HH A * (if abvA A ≤ 0 then 1 else 2) - usedA A
theorem x1_above (hb : FL b) (hw : WF A) (h : RF σ b A) : s_X1_blocksAbove σ b = some (abvA A, σ) := by
  have n8 := hw.n8
  refine loop0 (fun m i s => s_X1_blocksAbove_4 m σ b s (nI i)) (fun s => some (s, σ)) (fun i s => s + ly A i) (nB A) 0 (by omega) ?_ ?_
  · intro m i a hi
    simp only [s_X1_blocksAbove_4]
    simp (disch := omega) only [h.1.n, hw.n, le_F, ↓reduceIte, FK hb, rtb hb, inb_n, cl_nI, lt_e, h.1.lyv hi, nI_1]
  · intro m a
    simp only [s_X1_blocksAbove_4]
    simp (disch := omega) only [h.1.n, hw.n, le_T, ↓reduceIte]
theorem x1_waste (hb : FL b) (hw : WF A) (h : RF σ b A) : s_X1_waste σ b = some (wasteA A, σ) := by
  have n8 := hw.n8
  have key : ∀ q, s_X1_waste_17 FU σ b q 0 0 = some (WW A * HH A * q - usedA A, σ) := by
    intro q
    refine loop0 (fun m i s => s_X1_waste_17 m σ b q s (nI i)) (fun s => some (WW A * HH A * q - s, σ)) (fun i s => s + wd A i * ht A i) (nB A) 0 (by omega) ?_ ?_
    · intro m i a hi
      simp only [s_X1_waste_17]
      simp (disch := omega) only [h.1.n, hw.n, le_F, ↓reduceIte, FK hb, rtb hb, inb_n, cl_nI, lt_e, h.1.w hi, h.1.hh hi, nI_1]
    · intro m a
      simp only [s_X1_waste_17]
      simp (disch := omega) only [h.1.n, hw.n, le_T, ↓reduceIte, h.ww, h.hw]
  unfold s_X1_waste wasteA
  rw [x1_above hb hw h, bn_some, key, key]
  split <;> rfl
def roomsA (A : Nat → Int32) (l : Int32) : Int32 := itr (fun i s => if ly A i = l then s + rm A i else s) (nB A) 0 0
theorem x1_roomsOn (hb : FL b) (hw : WF A) (h : RF σ b A) (l : Int32) : s_X1_roomsOn σ b l = some (roomsA A l, σ) := by
  have n8 := hw.n8
  refine loop0 (fun m i s => s_X1_roomsOn_4 m σ b l s (nI i)) (fun s => some (s, σ)) (fun i s => if ly A i = l then s + rm A i else s) (nB A) 0 (by omega) ?_ ?_
  · intro m i a hi
    simp only [s_X1_roomsOn_4]
    simp (disch := omega) only [h.1.n, hw.n, le_F, ↓reduceIte, FK hb, rtb hb, inb_n, cl_nI, lt_e, h.1.lyv hi, nI_1, x0_room _ _ _ _ (h.1.br hi), bn_some]
    split <;> rfl
  · intro m a
    simp only [s_X1_roomsOn_4]
    simp (disch := omega) only [h.1.n, hw.n, le_T, ↓reduceIte]
/- guesses -/
def srt : Nat → Nat → Nat → Nat
  | 0, r, _ => r
  | f + 1, r, t => if t < (r + 1) * (r + 1) then r else srt f (r + 1) t
def grm (A : Nat → Int32) (z : Int32) : Int32 := itr (fun i s => if ((z >>> (nI i &&& 31)) &&& 1) = 1 then s + rm A i else s) (nB A) 0 0
theorem sq_lt {r t : Nat} (hr : r ≤ 101) (ht : t ≤ 20000) : (nI t < nI r * nI r) ↔ t < r * r := by
  have : r * r ≤ 101 * 101 := Nat.mul_le_mul hr hr
  rw [pk_mul]; exact nI_ltI (by omega) (by omega)
theorem root_e (σ : Sg) {t : Nat} (ht : t < 10201) : ∀ f r m, r + f = 100 → f < m → s_X1_wholeRoot_4 m σ (nI t) (nI r) (nI (r + 1)) = some (nI (srt f r t), σ) := by
  intro f
  induction f with
  | zero =>
    intro r m h hm
    obtain ⟨m', rfl⟩ : ∃ m', m = m' + 1 := ⟨m - 1, by omega⟩
    have : r = 100 := by omega
    subst this
    simp only [s_X1_wholeRoot_4]
    rw [if_pos (by decide)]
    rfl
  | succ f ih =>
    intro r m h hm
    obtain ⟨m', rfl⟩ : ∃ m', m = m' + 1 := ⟨m - 1, by omega⟩
    simp only [s_X1_wholeRoot_4, sq_lt (show r + 1 ≤ 101 by omega) (show t ≤ 20000 by omega)]
    have c1 : ¬ (100 : Int32) < nI (r + 1) := nI_nlt (a := 100) (b := r + 1) (by omega) (by omega)
    rw [if_neg c1]
    unfold srt
    by_cases c : t < (r + 1) * (r + 1)
    · rw [if_pos c, if_pos c]
    · rw [if_neg c, if_neg c, nI_1]
      exact ih (r + 1) m' (by omega) (by omega)
theorem grm_b (hw : WF A) (z : Int32) : sm 9800 (grm A z) := by
  have n8 := hw.n8
  have := itr_inv0 (f := fun i s => if ((z >>> (nI i &&& 31)) &&& 1) = 1 then s + rm A i else s) (fun i s => sm (1225 * i) s) (n := nB A) (a := 0) sm_0 (fun i a hi hp => by
    show sm _ (ite _ _ _)
    split
    · exact sm_w (sm_add hp (rm_b (hw.v hi))) (by omega)
    · exact sm_w hp (by omega))
  exact sm_w this (by omega)
def guessA (A : Nat → Int32) (j : Nat) : Int32 := A (90 + 2 * j + 1) * 2 * nI (srt 100 0 (grm A (A (90 + 2 * j))).toNatClampNeg)
theorem x1_guessOf (hb : FL b) (hw : WF A) (h : RF σ b A) {j : Nat} (hj : j < nN A) : s_X1_guessOf σ b (nI j) = some (guessA A j, σ) := by
  have n8 := hw.n8
  have n10 := hw.nn10
  refine (loop0 (fun m i s => s_X1_guessOf_4 m σ b (nI j) s (nI i)) (fun s => bn (s_X1_wholeRoot σ s) fun v2 s1 => some (A (90 + 2 * j + 1) * 2 * v2, s1)) (fun i s => if ((A (90 + 2 * j) >>> (nI i &&& 31)) &&& 1) = 1 then s + rm A i else s) (nB A) 0 (by omega) ?_ ?_).trans ?_
  · intro m i a hi
    simp only [s_X1_guessOf_4]
    simp (disch := omega) only [h.1.n, hw.n, le_F, ↓reduceIte, FK hb, rtb hb, inb_n, cl_nI, lt_e, h.1.set hj, nI_1, x0_room _ _ _ _ (h.1.br hi), bn_some]
    split <;> rfl
  · intro m a
    simp only [s_X1_guessOf_4]
    simp (disch := omega) only [h.1.n, hw.n, le_T, ↓reduceIte, FK hb, inb_n, cl_nI, h.1.wgt hj]
  · obtain ⟨t, ht, e⟩ := grm_b hw (A (90 + 2 * j))
    have e2 := root_e σ (t := t) (by omega) 100 0 FU (by omega) (by decide)
    show bn (s_X1_wholeRoot σ (grm A (A (90 + 2 * j)))) _ = _
    unfold guessA s_X1_wholeRoot
    rw [e, cl_nI (by omega)]
    have e3 : s_X1_wholeRoot_4 FU σ (nI t) 0 1 = some (nI (srt 100 0 t), σ) := e2
    rw [e3, bn_some]
end cls
