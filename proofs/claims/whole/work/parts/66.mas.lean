section mdl
variable {σ : Sg} {A : Nat → Int32}
theorem PDd.x {σ : Sg} {A : Nat → Int32} (h : PDd σ A) {i : Nat} (hi : i < nB A) : σ 164 i = XX A i := (h.2 i hi).2.1
theorem PDd.y {σ : Sg} {A : Nat → Int32} (h : PDd σ A) {i : Nat} (hi : i < nB A) : σ 165 i = YY A i := (h.2 i hi).2.2
theorem PDd.p {σ : Sg} {A : Nat → Int32} (h : PDd σ A) {i : Nat} (hi : i < nB A) : σ 163 i = nI (p1 A i) := (h.2 i hi).1
theorem PDd.ww {σ : Sg} {A : Nat → Int32} (h : PDd σ A) : σ 150 17 = WW A := h.1.1
theorem PDd.hw {σ : Sg} {A : Nat → Int32} (h : PDd σ A) : σ 150 18 = HH A := h.1.2
def wsm (A : Nat → Int32) (z : Int32) (i : Nat) (a : W6) : W6 := if ((z >>> (nI i &&& 31)) &&& 1) = 0 then a else (a.1 + 1, a.2.1 ||| (1 <<< (ly A i &&& 31)), if a.1 = 0 then cx A i else mn a.2.2.1 (cx A i), if a.1 = 0 then cx A i else mx a.2.2.2.1 (cx A i), if a.1 = 0 then cy A i else mn a.2.2.2.2.1 (cy A i), if a.1 = 0 then cy A i else mx a.2.2.2.2.2 (cy A i))
theorem wsm_e (A : Nat → Int32) (z : Int32) (j n : Nat) (hn : n ≤ 8) : wfin A j (itr (wsm A z) n 0 (0, 0, 0, 0, 0, 0)) = wfin A j (itr (wst A z) n 0 (0, 0, 2147483647, (-2147483648), 2147483647, (-2147483648))) := by
  have := itr_rel0 (f := wsm A z) (g := wst A z) (fun i a b => ∃ c, c ≤ i ∧ a.1 = nI c ∧ b.1 = nI c ∧ a.2.1 = b.2.1 ∧ (c = 0 → b.2.2 = (2147483647, (-2147483648), 2147483647, (-2147483648))) ∧ (c ≠ 0 → a.2.2 = b.2.2)) (n := n) (a := (0, 0, 0, 0, 0, 0)) (b := (0, 0, 2147483647, (-2147483648), 2147483647, (-2147483648))) ⟨0, by omega, rfl, rfl, rfl, fun _ => rfl, fun h => absurd rfl h⟩ ?_
  · obtain ⟨c, hc, e1, e2, e3, e4, e5⟩ := this
    unfold wfin
    rw [e1, e2, e3]
    by_cases h0 : c = 0
    · subst h0
      rw [if_neg (by decide), if_neg (by decide)]
    · rw [e5 h0]
  · intro i a b hi ⟨c, hc, e1, e2, e3, e4, e5⟩
    unfold wsm wst
    rcases bit01 (z >>> (nI i &&& 31)) with ⟨h0, h1⟩ | ⟨h1, h0⟩
    · rw [if_pos h0, if_neg h1]
      exact ⟨c, by omega, e1, e2, e3, e4, e5⟩
    · rw [if_neg h0, if_pos h1]
      refine ⟨c + 1, by omega, by rw [e1, nI_1], by rw [e2, nI_1], by rw [e3], fun h => absurd h (by omega), fun _ => ?_⟩
      by_cases hc0 : c = 0
      · subst hc0
        rw [e4 rfl]
        have : a.1 = 0 := e1
        simp only [this, ↓reduceIte, mn_top, mx_bot]
      · have : ¬ a.1 = 0 := by rw [e1]; exact nI_ne0 (by omega) (by omega)
        simp only [this, ↓reduceIte]
        rw [e5 hc0]
theorem m_wireOf (hw : WF A) (hA : σ 151 = A) (hp : PDd σ A) {j : Nat} (hj : j < nN A) : s_X11_wireOf σ (nI j) = some (wireA A j, σ) := by
  have n8 := hw.n8
  have n10 := hw.nn10
  unfold s_X11_wireOf wireA
  rw [← wsm_e A _ j _ n8]
  simp (disch := omega) only [NK, inb_n, cl_nI, hA, lt_e, ↓reduceIte]
  refine loop0 (fun m i (a : W6) => s_X11_wireOf_32 m σ (nI j) (A (90 + 2 * j)) a.1 a.2.1 a.2.2.1 a.2.2.2.1 a.2.2.2.2.1 a.2.2.2.2.2 (nI i)) (fun a => some (wfin A j a, σ)) (wsm A (A (90 + 2 * j))) (nB A) (0, 0, 0, 0, 0, 0) (by omega) ?_ ?_
  · intro m i a hi
    have w1 := width_e σ (i := i) (by omega)
    have h1 := height_e σ (i := i) (by omega) (by rw [hA]; exact hw.v hi)
    rw [hA] at w1 h1
    have ey : A (20 + 6 * i + 4) = ly A i := rfl
    simp only [s_X11_wireOf_32]
    simp (disch := omega) only [hA, hw.n, le_F, ↓reduceIte, inb_n, cl_nI, lt_e, w1, h1, bn_some, hp.x hi, hp.y hi, nI_1]
    unfold wsm
    by_cases c : ((A (90 + 2 * j) >>> (nI i &&& 31)) &&& 1) = 0
    · simp only [c, ↓reduceIte]
    · simp only [c, ↓reduceIte]
      by_cases c0 : a.1 = 0
      · simp (disch := omega) only [c0, ↓reduceIte, s_X11_wireOf_107, s_X11_wireOf_125, s_X11_wireOf_143, s_X11_wireOf_161, s_X11_blockAt, bn_some, NK, inb_n, cl_nI, hA, lt_e, ey, nI_1]
        rfl
      · simp (disch := omega) only [c0, ↓reduceIte, s_X11_wireOf_107, s_X11_wireOf_125, s_X11_wireOf_143, s_X11_wireOf_161, s_X11_blockAt, bn_some, NK, inb_n, cl_nI, hA, lt_e, ey, nI_1, least_e, most_e]
        rfl
  · intro m a
    simp only [s_X11_wireOf_32, s_X11_wireOf_230]
    simp (disch := omega) only [hA, hw.n, le_T, ↓reduceIte, NK, inb_n, cl_nI]
    unfold wfin
    split
    · split <;> rfl
    · rfl
theorem m_wires (hw : WF A) (hA : σ 151 = A) (hp : PDd σ A) : s_X11_wires σ = some (wiresA A, σ) := by
  have n10 := hw.nn10
  refine loop0 (fun m i s => s_X11_wires_4 m σ s (nI i)) (fun s => some (s, σ)) (fun j s => s + wireA A j) (nN A) 0 (by omega) ?_ ?_
  · intro m i a hi
    simp only [s_X11_wires_4]
    simp (disch := omega) only [hA, hw.nn, le_F, ↓reduceIte, m_wireOf hw hA hp hi, bn_some, lt_e, nI_1]
  · intro m a
    simp only [s_X11_wires_4]
    simp (disch := omega) only [hA, hw.nn, le_T, ↓reduceIte]
theorem m_price (hw : WF A) (hA : σ 151 = A) : Gv (s_X11_priceNow σ) (fun r τ => r = priceA A ∧ FP σ τ ∧ PDd τ A) := by
  unfold s_X11_priceNow
  refine gv_v (findPlaces_e hw hA) ?_
  intro _ τ ⟨f, p⟩
  have tA : τ 151 = A := f.s.trans hA
  simp only [most_e, bn_some, p.ww, p.hw, tA, lt_e, m_wires hw tA p]
  refine gv_i ⟨?_, f, p⟩
  unfold priceA
  rw [Int32.mul_comm (A 8)]
theorem m_above (hw : WF A) (hA : σ 151 = A) : s_X11_onLayer σ 1 = some (abvA A, σ) := by
  have n8 := hw.n8
  unfold s_X11_onLayer abvA
  refine (loop0 (fun m i s => s_X11_onLayer_4 m σ 1 s (nI i)) (fun s => some (s, σ)) (fun i s => if ly A i = 1 then s + 1 else s + 0) (nB A) 0 (by omega) ?_ ?_).trans ?_
  · intro m i a hi
    have ey : A (20 + 6 * i + 4) = ly A i := rfl
    simp only [s_X11_onLayer_4, s_X11_blockAt]
    simp (disch := omega) only [hA, hw.n, le_F, ↓reduceIte, bn_some, NK, inb_n, cl_nI, lt_e, ey, nI_1]
    split <;> rfl
  · intro m a
    simp only [s_X11_onLayer_4]
    simp (disch := omega) only [hA, hw.n, le_T, ↓reduceIte]
  · congr 2
    apply itr_congr
    intro i a hi
    rcases hw.lyv hi with e | e <;> simp [e]
theorem sub_sub' (a b c : Int32) : a - b - c = a - (b + c) := by
  rw [Int32.sub_eq_add_neg, Int32.sub_eq_add_neg, Int32.sub_eq_add_neg, Int32.neg_add, Int32.add_assoc, Int32.sub_eq_add_neg (-b) c]
theorem m_waste (hw : WF A) (hA : σ 151 = A) (hp : PDd σ A) : s_X11_waste σ = some (wasteA A, σ) := by
  have n8 := hw.n8
  have key : ∀ q, s_X11_waste_26 FU σ q 0 = some (q - usedA A, σ) := by
    intro q
    refine (loop0 (fun m i s => s_X11_waste_26 m σ s (nI i)) (fun s => some (s, σ)) (fun i s => s - wd A i * ht A i) (nB A) q (by omega) ?_ ?_).trans ?_
    · intro m i a hi
      have w1 := width_e σ (i := i) (by omega)
      have h1 := height_e σ (i := i) (by omega) (by rw [hA]; exact hw.v hi)
      rw [hA] at w1 h1
      simp only [s_X11_waste_26]
      simp (disch := omega) only [hA, hw.n, le_F, ↓reduceIte, w1, h1, bn_some, lt_e, nI_1]
    · intro m a
      simp only [s_X11_waste_26]
      simp (disch := omega) only [hA, hw.n, le_T, ↓reduceIte]
    · congr 2
      refine itr_rel0 (fun _ a b => a = q - b) ?_ ?_
      · simp
      · intro i a b _ e
        show a - _ = q - (b + _)
        rw [e, sub_sub']
  unfold s_X11_waste wasteA
  rw [m_above hw hA, bn_some, hp.ww, hp.hw]
  simp only [lt_e, key]
  split <;> rfl
theorem m_roomOn (hw : WF A) (hA : σ 151 = A) (l : Int32) : s_X11_roomOn σ l = some (roomsA A l, σ) := by
  have n8 := hw.n8
  unfold s_X11_roomOn roomsA
  refine loop0 (fun m i s => s_X11_roomOn_4 m σ l s (nI i)) (fun s => some (s, σ)) (fun i s => if ly A i = l then s + rm A i else s) (nB A) 0 (by omega) ?_ ?_
  · intro m i a hi
    have ey : A (20 + 6 * i + 4) = ly A i := rfl
    have r1 := room_e σ (i := i) (by omega) (by rw [hA]; exact hw.v hi)
    rw [hA] at r1
    simp only [s_X11_roomOn_4, s_X11_blockAt]
    simp (disch := omega) only [hA, hw.n, le_F, ↓reduceIte, bn_some, NK, inb_n, cl_nI, lt_e, ey, r1, nI_1, Int32.add_zero]
    split <;> rfl
  · intro m a
    simp only [s_X11_roomOn_4]
    simp (disch := omega) only [hA, hw.n, le_T, ↓reduceIte]
theorem m_root (σ : Sg) (hA : σ 151 = A) {j t : Nat} (hj : j < 10) (ht : t < 10201) : ∀ f r m, r + f = 100 → f < m → s_X11_guessOf_53 m σ (nI j) (nI t) (nI r) = some (2 * nI (srt f r t) * A (90 + 2 * j + 1), σ) := by
  intro f
  induction f with
  | zero =>
    intro r m h hm
    obtain ⟨m', rfl⟩ : ∃ m', m = m' + 1 := ⟨m - 1, by omega⟩
    have : r = 100 := by omega
    subst this
    simp only [s_X11_guessOf_53, nI_1, sq_lt (show 100 + 1 ≤ 101 by omega) (show t ≤ 20000 by omega)]
    rw [if_pos (by omega)]
    simp (disch := omega) only [NK, inb_n, cl_nI, ↓reduceIte, hA, srt]
  | succ f ih =>
    intro r m h hm
    obtain ⟨m', rfl⟩ : ∃ m', m = m' + 1 := ⟨m - 1, by omega⟩
    simp only [s_X11_guessOf_53, nI_1, sq_lt (show r + 1 ≤ 101 by omega) (show t ≤ 20000 by omega)]
    unfold srt
    by_cases c : t < (r + 1) * (r + 1)
    · rw [if_pos c, if_pos c]
      simp (disch := omega) only [NK, inb_n, cl_nI, ↓reduceIte, hA]
    · rw [if_neg c, if_neg c]
      exact ih (r + 1) m' (by omega) (by omega)
theorem m_guessOf (hw : WF A) (hA : σ 151 = A) {j : Nat} (hj : j < nN A) : s_X11_guessOf σ (nI j) = some (guessA A j, σ) := by
  have n8 := hw.n8
  have n10 := hw.nn10
  unfold s_X11_guessOf
  refine (loop0 (fun m i s => s_X11_guessOf_4 m σ (nI j) s (nI i)) (fun s => s_X11_guessOf_53 FU σ (nI j) s 0) (fun i s => if ((A (90 + 2 * j) >>> (nI i &&& 31)) &&& 1) = 1 then s + rm A i else s) (nB A) 0 (by omega) ?_ ?_).trans ?_
  · intro m i a hi
    have r1 := room_e σ (i := i) (by omega) (by rw [hA]; exact hw.v hi)
    rw [hA] at r1
    simp only [s_X11_guessOf_4]
    simp (disch := omega) only [hA, hw.n, le_F, ↓reduceIte, NK, inb_n, cl_nI, lt_e, r1, bn_some, nI_1, Int32.add_zero]
    split <;> rfl
  · intro m a
    simp only [s_X11_guessOf_4]
    simp (disch := omega) only [hA, hw.n, le_T, ↓reduceIte]
  · obtain ⟨t, ht, e⟩ := grm_b hw (A (90 + 2 * j))
    show s_X11_guessOf_53 FU σ (nI j) (grm A (A (90 + 2 * j))) 0 = _
    unfold guessA
    rw [e, cl_nI (by omega)]
    have e2 := m_root σ hA (j := j) (t := t) (by omega) (by omega) 100 0 FU (by omega) (by decide)
    rw [show (0 : Int32) = nI 0 from rfl, e2]
    congr 2
    rw [Int32.mul_comm, Int32.mul_assoc]
end mdl
