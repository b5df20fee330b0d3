def wdI (k a b s : Int32) : Int32 := if k = 2 ∨ k = 3 then a + s else if s = 1 then b else if s = 2 then a + 1 else a
def htI (k a b s : Int32) : Int32 := if k = 2 ∨ k = 3 then (if k = 3 ∧ ¬ s ≤ 2 then (a * b + a + s - 1) / (a + s) + 1 else (a * b + a + s - 1) / (a + s)) else if s = 1 then a else if s = 2 then b - 1 else b
def rmI (k a b s : Int32) : Int32 := if k = 2 ∨ k = 3 then (if k = 3 then a * b + 1 else a * b) else (if k = 5 then wdI k a b s * htI k a b s - 1 else wdI k a b s * htI k a b s)
def woI (k a b p s : Int32) : Int32 := if k = 1 then rmI k a b s + p else if k = 2 ∨ k = 3 then rmI k a b s - s else if k = 4 then 2 * (rmI k a b s + p) else rmI k a b s
def ofI (k x : Int32) : Int32 := if x = 0 ∨ k = x ∨ (x = 1 ∧ k = 4) ∨ (x = 2 ∧ k = 3) then 1 else 0
def shpN (k b : Nat) : Nat := if k = 1 then 2 else if k = 2 then 6 else if k = 3 then 5 else if k = 5 then (if b ≤ 1 then 2 else 3) else 1
/-- a block's numbers are such as can be -/
def VB (k a b s : Int32) : Prop := ∃ k' a' b' s' : Nat, k = nI k' ∧ a = nI a' ∧ b = nI b' ∧ s = nI s' ∧ k' < 6 ∧ 1 ≤ a' ∧ a' ≤ 30 ∧ 1 ≤ b' ∧ b' ≤ 30 ∧ s' < shpN k' b'
theorem VB_c {k a b s : Int32} (h : VB k a b s) : ∃ a' b' s' : Nat, a = nI a' ∧ b = nI b' ∧ s = nI s' ∧ 1 ≤ a' ∧ a' ≤ 30 ∧ 1 ≤ b' ∧ b' ≤ 30 ∧ ((k = 0 ∧ s' = 0) ∨ (k = 1 ∧ s' ≤ 1) ∨ (k = 2 ∧ s' ≤ 5) ∨ (k = 3 ∧ s' ≤ 4) ∨ (k = 4 ∧ s' = 0) ∨ (k = 5 ∧ s' ≤ 2 ∧ (b' ≤ 1 → s' ≤ 1))) := by
  obtain ⟨k', a', b', s', rfl, rfl, rfl, rfl, hk, h1, h2, h3, h4, hs⟩ := h
  refine ⟨a', b', s', rfl, rfl, rfl, h1, h2, h3, h4, ?_⟩
  have : k' = 0 ∨ k' = 1 ∨ k' = 2 ∨ k' = 3 ∨ k' = 4 ∨ k' = 5 := by omega
  unfold shpN at hs
  rcases this with rfl | rfl | rfl | rfl | rfl | rfl
  · exact .inl ⟨rfl, by simp at hs; omega⟩
  · exact .inr (.inl ⟨rfl, by simp at hs; omega⟩)
  · exact .inr (.inr (.inl ⟨rfl, by simp at hs; omega⟩))
  · exact .inr (.inr (.inr (.inl ⟨rfl, by simp at hs; omega⟩)))
  · exact .inr (.inr (.inr (.inr (.inl ⟨rfl, by simp at hs; omega⟩))))
  · refine .inr (.inr (.inr (.inr (.inr ⟨rfl, ?_, ?_⟩))))
    · simp at hs; split at hs <;> omega
    · intro hb; simp [hb] at hs; omega
theorem n01 {s : Nat} (h : s ≤ 1) : s = 0 ∨ s = 1 := by omega
theorem n012 {s : Nat} (h : s ≤ 2) : s = 0 ∨ s = 1 ∨ s = 2 := by omega
theorem i00 : nI 0 = 0 := rfl
theorem i11 : nI 1 = 1 := rfl
theorem i22 : nI 2 = 2 := rfl
theorem x0_wideIn (σ : Sg) (c : Nat) (x : Int32) (h : VB (σ c 0) (σ c 1) (σ c 2) x) : s_X0_wideIn σ c x = some (wdI (σ c 0) (σ c 1) (σ c 2) x, σ) := by
  unfold s_X0_wideIn wdI
  simp only [ti_1, ti_2, ti_3, ti_4, ti_5]
  obtain ⟨a', b', s', ha, hb, hs, _, _, _, _, hc⟩ := VB_c h
  rw [hs]
  rcases hc with ⟨hk, h1⟩ | ⟨hk, h1⟩ | ⟨hk, h1⟩ | ⟨hk, h1⟩ | ⟨hk, h1⟩ | ⟨hk, h1, _⟩
  · subst h1; simp [hk, i00]
  · rcases n01 h1 with rfl | rfl <;> simp [hk, i00, i11]
  · simp [hk]
  · simp [hk]
  · subst h1; simp [hk, i00]
  · rcases n012 h1 with rfl | rfl | rfl <;> simp [hk, i00, i11, i22]
theorem x0_bent (σ : Sg) (c : Nat) (x : Int32) {a b s : Nat} (ha : σ c 1 = nI a) (hb : σ c 2 = nI b) (hs : x = nI s) (h1 : 1 ≤ a) (h2 : a ≤ 30) (h3 : s ≤ 5) : s_X0_bentHigh σ c x = some ((σ c 1 * σ c 2 + σ c 1 + x - 1) / (σ c 1 + x), σ) := by
  unfold s_X0_bentHigh
  simp only [lt_e]
  have e : σ c 1 + x = nI (a + s) := by rw [ha, hs, nI_add]
  have hp : 0 < σ c 1 + x := by rw [e]; exact nI_lt (a := 0) (by omega) (by omega)
  have hn : ¬ σ c 1 + x = 0 := by rw [e]; exact nI_ne0 (by omega) (by omega)
  rw [if_pos hp, if_neg hn, Int32.add_assoc (σ c 1 * σ c 2) (σ c 1) x]
theorem le3 {s : Nat} (h : s ≤ 5) : (nI s < 3) ↔ s < 3 := nI_ltI (a := s) (b := 3) (by omega) (by omega)
theorem le2 {s : Nat} (h : s ≤ 5) : (nI s ≤ 2) ↔ s ≤ 2 := nI_leI (a := s) (b := 2) (by omega) (by omega)
theorem x0_highIn (σ : Sg) (c : Nat) (x : Int32) (h : VB (σ c 0) (σ c 1) (σ c 2) x) : s_X0_highIn σ c x = some (htI (σ c 0) (σ c 1) (σ c 2) x, σ) := by
  unfold s_X0_highIn htI
  simp only [ti_1, ti_2, ti_3, ti_4, ti_5]
  obtain ⟨a', b', s', ha, hb, hs, h1, h2, h3, h4, hc⟩ := VB_c h
  rcases hc with ⟨hk, h5⟩ | ⟨hk, h5⟩ | ⟨hk, h5⟩ | ⟨hk, h5⟩ | ⟨hk, h5⟩ | ⟨hk, h5, _⟩
  · subst h5; simp [hk, hs, i00]
  · rcases n01 h5 with rfl | rfl <;> simp [hk, hs, i00, i11]
  · rw [x0_bent σ c x ha hb hs h1 h2 (by omega)]; simp [hk, bn_some]
  · rw [x0_bent σ c x ha hb hs h1 h2 (by omega)]
    rw [hs, hk]
    simp only [bn_some, le3 (show s' ≤ 5 by omega), le2 (show s' ≤ 5 by omega)]
    by_cases h6 : s' < 3
    · have h7 : s' ≤ 2 := by omega
      simp [h6, h7]
    · have h7 : ¬ s' ≤ 2 := by omega
      have h8 : 2 < s' := by omega
      simp [h6, h8]
  · subst h5; simp [hk, hs, i00]
  · rcases n012 h5 with rfl | rfl | rfl <;> simp [hk, hs, i00, i11, i22]
theorem wd_b {k a b s : Int32} (h : VB k a b s) : ∃ w, 1 ≤ w ∧ w ≤ 35 ∧ wdI k a b s = nI w := by
  unfold wdI
  obtain ⟨a', b', s', rfl, rfl, rfl, h1, h2, h3, h4, hc⟩ := VB_c h
  rcases hc with ⟨rfl, h5⟩ | ⟨rfl, h5⟩ | ⟨rfl, h5⟩ | ⟨rfl, h5⟩ | ⟨rfl, h5⟩ | ⟨rfl, h5, _⟩
  · subst h5; exact ⟨a', h1, by omega, by simp [i00]⟩
  · rcases n01 h5 with rfl | rfl
    · exact ⟨a', h1, by omega, by simp [i00]⟩
    · exact ⟨b', h3, by omega, by simp [i11]⟩
  · exact ⟨a' + s', by omega, by omega, by simp [nI_add]⟩
  · exact ⟨a' + s', by omega, by omega, by simp [nI_add]⟩
  · subst h5; exact ⟨a', h1, by omega, by simp [i00]⟩
  · rcases n012 h5 with rfl | rfl | rfl
    · exact ⟨a', h1, by omega, by simp [i00]⟩
    · exact ⟨b', h3, by omega, by simp [i11]⟩
    · exact ⟨a' + 1, by omega, by omega, by simp [i22, nI_1]⟩
theorem dv_b {a b s : Nat} (h1 : 1 ≤ a) (h2 : a ≤ 30) (h3 : 1 ≤ b) (h4 : b ≤ 30) (h5 : s ≤ 5) : ∃ w, 1 ≤ w ∧ w ≤ 31 ∧ (nI a * nI b + nI a + nI s - 1) / (nI a + nI s) = nI w := by
  have hab : a * b ≤ 900 := Nat.mul_le_mul h2 h4
  have hab1 : 1 ≤ a * b := Nat.mul_pos h1 h3
  have hab2 : a * b ≤ a * 30 := Nat.mul_le_mul_left a h4
  refine ⟨(a * b + a + s - 1) / (a + s), ?_, ?_, ?_⟩
  · exact Nat.div_pos (by omega) (by omega)
  · apply Nat.div_le_of_le_mul
    have : (a + s) * 31 = a * 30 + a + s * 31 := by omega
    omega
  · rw [pk_mul, nI_add, nI_add, nI_add, li1, pk_sub (by omega), pk_div (by omega) (by omega) (by omega)]
theorem ht_b {k a b s : Int32} (h : VB k a b s) : ∃ w, 1 ≤ w ∧ w ≤ 35 ∧ htI k a b s = nI w := by
  unfold htI
  obtain ⟨a', b', s', rfl, rfl, rfl, h1, h2, h3, h4, hc⟩ := VB_c h
  rcases hc with ⟨rfl, h5⟩ | ⟨rfl, h5⟩ | ⟨rfl, h5⟩ | ⟨rfl, h5⟩ | ⟨rfl, h5⟩ | ⟨rfl, h5, h6⟩
  · subst h5; exact ⟨b', h3, by omega, by simp [i00]⟩
  · rcases n01 h5 with rfl | rfl
    · exact ⟨b', h3, by omega, by simp [i00]⟩
    · exact ⟨a', h1, by omega, by simp [i11]⟩
  · obtain ⟨w, w1, w2, hw⟩ := dv_b h1 h2 h3 h4 h5
    exact ⟨w, w1, by omega, by rw [← hw]; simp⟩
  · obtain ⟨w, w1, w2, hw⟩ := dv_b h1 h2 h3 h4 (show s' ≤ 5 by omega)
    rw [hw]
    by_cases h7 : nI s' ≤ 2
    · exact ⟨w, w1, by omega, by simp [h7]⟩
    · refine ⟨w + 1, by omega, by omega, ?_⟩
      rw [if_pos (.inr rfl), if_pos ⟨rfl, h7⟩, nI_1]
  · subst h5; exact ⟨b', h3, by omega, by simp [i00]⟩
  · rcases n012 h5 with rfl | rfl | rfl
    · exact ⟨b', h3, by omega, by simp [i00]⟩
    · exact ⟨a', h1, by omega, by simp [i11]⟩
    · refine ⟨b' - 1, by omega, by omega, ?_⟩
      have e : nI b' - 1 = nI (b' - 1) := by rw [li1, pk_sub (by omega)]
      simp [i22, e]
theorem rm_b {k a b s : Int32} (h : VB k a b s) : sm 1225 (rmI k a b s) := by
  obtain ⟨w, w1, w2, hw⟩ := wd_b h
  obtain ⟨v, v1, v2, hv⟩ := ht_b h
  unfold rmI
  rw [hw, hv]
  obtain ⟨a', b', s', rfl, rfl, rfl, h1, h2, h3, h4, _⟩ := VB_c h
  have e1 : a' * b' ≤ 900 := Nat.mul_le_mul h2 h4
  have e2 : w * v ≤ 1225 := Nat.mul_le_mul w2 v2
  have e3 : 1 ≤ w * v := Nat.mul_pos w1 v1
  simp only [pk_mul]
  split
  · split
    · rw [nI_1]; exact sm_k (by omega)
    · exact sm_k (by omega)
  · split
    · rw [li1, pk_sub (by omega)]; exact sm_k (by omega)
    · exact sm_k (by omega)
/- the model's -/
theorem shapesOf_e (σ : Sg) (k b : Int32) : s_X11_shapesOf σ k b = some (shpI k b, σ) := by
  unfold s_X11_shapesOf shpI
  simp only [ti_1, ti_2, ti_3, ti_4, ti_5]
  by_cases h1 : k = 1
  · simp [h1]
  · by_cases h2 : k = 2
    · simp [h2]
    · by_cases h3 : k = 3
      · simp [h3]
      · by_cases h5 : k = 5
        · simp [h5]
          split <;> rfl
        · simp [h1, h2, h3, h5]
theorem isSoft_e (σ : Sg) (k : Int32) : s_X11_isSoft σ k = some (if k = 2 ∨ k = 3 then 1 else 0, σ) := by
  unfold s_X11_isSoft
  by_cases h2 : k = 2
  · simp [h2]
  · by_cases h3 : k = 3 <;> simp [h2, h3]
theorem widthOf_e (σ : Sg) (k a b s : Int32) : s_X11_widthOf σ k a b s = some (wdI k a b s, σ) := by
  unfold s_X11_widthOf wdI
  rw [isSoft_e, bn_some]
  by_cases h : k = 2 ∨ k = 3
  · simp [h]
  · simp only [h, ↓reduceIte]
    split
    · rfl
    · split <;> rfl
theorem heightOf_e (σ : Sg) {k a b s : Int32} (h : VB k a b s) : s_X11_heightOf σ k a b s = some (htI k a b s, σ) := by
  unfold s_X11_heightOf htI
  rw [isSoft_e, bn_some]
  by_cases hk : k = 2 ∨ k = 3
  · have hn : ¬ a + s = 0 := by
      obtain ⟨a', b', s', rfl, rfl, rfl, h1, h2, h3, h4, hc⟩ := VB_c h
      rw [nI_add]
      refine nI_ne0 (by omega) ?_
      have : s' ≤ 5 := by rcases hc with h | h | h | h | h | h <;> omega
      omega
    simp only [hk, hn, ↓reduceIte, lt_e]
    by_cases h3 : k = 3
    · by_cases h4 : s ≤ 2 <;> simp [h3, h4]
    · simp [h3]
  · simp only [hk, ↓reduceIte]
    split
    · rfl
    · split <;> rfl
theorem roomOf_e (σ : Sg) {k a b s : Int32} (h : VB k a b s) : s_X11_roomOf σ k a b s = some (rmI k a b s, σ) := by
  unfold s_X11_roomOf rmI
  rw [isSoft_e, bn_some, widthOf_e]
  by_cases hk : k = 2 ∨ k = 3
  · simp only [hk, ↓reduceIte]
    by_cases h3 : k = 3 <;> simp [h3]
  · simp only [hk, ↓reduceIte, bn_some, heightOf_e σ h]
    by_cases h5 : k = 5 <;> simp [h5]
theorem worthOf_e (σ : Sg) {k a b s : Int32} (p : Int32) (h : VB k a b s) : s_X11_worthOf σ k a b p s = some (woI k a b p s, σ) := by
  unfold s_X11_worthOf woI
  rw [roomOf_e σ h, bn_some]
  simp only [ti_1, ti_2, ti_3, ti_4]
  by_cases h1 : k = 1
  · simp [h1]
  · by_cases h2 : k = 2
    · simp [h2]
    · by_cases h3 : k = 3
      · simp [h3]
      · by_cases h4 : k = 4 <;> simp [h1, h2, h3, h4]
theorem isOf_e (σ : Sg) (k x : Int32) : s_X11_isOf σ k x = some (ofI k x, σ) := by
  unfold s_X11_isOf s_X11_isOf_19 ofI
  by_cases h0 : x = 0
  · simp [h0]
  · by_cases h1 : k = x
    · simp [h1]
    · by_cases h2 : x = 1
      · by_cases h3 : k = 4
        · simp [h2, h3]
        · simp [h2, h3]
          split <;> rfl
      · by_cases h4 : x = 2
        · by_cases h5 : k = 3
          · simp [h4, h5]
          · simp [h4, h5]
            split <;> rfl
        · simp [h0, h1, h2, h4]
/- a block in a row of numbers -/
def wd (A : Nat → Int32) (i : Nat) : Int32 := wdI (A (20 + 6 * i)) (A (20 + 6 * i + 1)) (A (20 + 6 * i + 2)) (A (20 + 6 * i + 5))
def ht (A : Nat → Int32) (i : Nat) : Int32 := htI (A (20 + 6 * i)) (A (20 + 6 * i + 1)) (A (20 + 6 * i + 2)) (A (20 + 6 * i + 5))
def rm (A : Nat → Int32) (i : Nat) : Int32 := rmI (A (20 + 6 * i)) (A (20 + 6 * i + 1)) (A (20 + 6 * i + 2)) (A (20 + 6 * i + 5))
def ly (A : Nat → Int32) (i : Nat) : Int32 := A (20 + 6 * i + 4)
def pw (A : Nat → Int32) (i : Nat) : Int32 := A (20 + 6 * i + 3)
def VA (A : Nat → Int32) (o : Nat) : Prop := VB (A o) (A (o + 1)) (A (o + 2)) (A (o + 5))
theorem width_e (σ : Sg) {i : Nat} (hi : i < 8) : s_X11_width σ (nI i) = some (wd (σ 151) i, σ) := by
  unfold s_X11_width s_X11_blockAt wd
  simp (disch := omega) only [bn_some, NK, cl_nI, inb_n, ↓reduceIte, widthOf_e]
theorem height_e (σ : Sg) {i : Nat} (hi : i < 8) (h : VA (σ 151) (20 + 6 * i)) : s_X11_height σ (nI i) = some (ht (σ 151) i, σ) := by
  unfold s_X11_height s_X11_blockAt ht
  simp (disch := omega) only [bn_some, NK, cl_nI, inb_n, ↓reduceIte]
  rw [heightOf_e σ h, bn_some]
theorem room_e (σ : Sg) {i : Nat} (hi : i < 8) (h : VA (σ 151) (20 + 6 * i)) : s_X11_room σ (nI i) = some (rm (σ 151) i, σ) := by
  unfold s_X11_room s_X11_blockAt rm
  simp (disch := omega) only [bn_some, NK, cl_nI, inb_n, ↓reduceIte]
  rw [roomOf_e σ h, bn_some]
theorem alike_e (σ : Sg) {i j : Nat} (hi : i < 8) (hj : j < 8) : s_X11_isAlike σ (nI i) (nI j) = some (if ly (σ 151) i = ly (σ 151) j then 1 else 0, σ) := by
  unfold s_X11_isAlike s_X11_blockAt ly
  simp (disch := omega) only [bn_some, NK, cl_nI, inb_n, ↓reduceIte]
  split <;> rfl
/- a block in a cell of the program's -/
def BR (σ : Sg) (c : Nat) (A : Nat → Int32) (o : Nat) : Prop := (∀ k, k < 6 → σ c k = A (o + k)) ∧ σ c 6 = wdI (A o) (A (o + 1)) (A (o + 2)) (A (o + 5)) ∧ σ c 7 = htI (A o) (A (o + 1)) (A (o + 2)) (A (o + 5))
theorem x0_room (σ : Sg) (c : Nat) (A : Nat → Int32) (o : Nat) (h : BR σ c A o) : s_X0_room σ c = some (rmI (A o) (A (o + 1)) (A (o + 2)) (A (o + 5)), σ) := by
  obtain ⟨h, h6, h7⟩ := h
  unfold s_X0_room rmI
  rw [h6, h7, show σ c 0 = A o from h 0 (by omega), h 1 (by omega), h 2 (by omega)]
  simp only [ti_2, ti_3, ti_4, ti_5]
  by_cases h2 : A o = 2
  · simp [h2]
  · by_cases h3 : A o = 3
    · simp [h3]
    · by_cases h4 : A o = 4
      · simp [h4]
      · by_cases h5 : A o = 5 <;> simp [h2, h3, h4, h5]
theorem x0_worth (σ : Sg) (c : Nat) (A : Nat → Int32) (o : Nat) (h : BR σ c A o) : s_X0_worth σ c = some (woI (A o) (A (o + 1)) (A (o + 2)) (A (o + 3)) (A (o + 5)), σ) := by
  have hr := x0_room σ c A o h
  obtain ⟨h, h6, h7⟩ := h
  unfold s_X0_worth woI
  rw [hr, show σ c 0 = A o from h 0 (by omega)]
  simp only [bn_some, ti_1, ti_2, ti_3, ti_4, h 3 (by omega), h 5 (by omega)]
  by_cases h1 : A o = 1
  · simp [h1]
  · by_cases h2 : A o = 2
    · simp [h2]
    · by_cases h3 : A o = 3
      · simp [h3]
      · by_cases h4 : A o = 4 <;> simp [h1, h2, h3, h4]
theorem shpI_n {k b : Nat} (hk : k < 6) (hb : b ≤ 30) : shpI (nI k) (nI b) = nI (shpN k b) := by
  unfold shpI shpN
  have : k = 0 ∨ k = 1 ∨ k = 2 ∨ k = 3 ∨ k = 4 ∨ k = 5 := by omega
  have e : (nI b ≤ 1) ↔ b ≤ 1 := nI_leI (a := b) (b := 1) (by omega) (by omega)
  rcases this with rfl | rfl | rfl | rfl | rfl | rfl
  · rfl
  · rfl
  · rfl
  · rfl
  · rfl
  · simp only [e]
    by_cases h : b ≤ 1
    · simp [h]; decide
    · simp [h]; decide
def KA (σ : Sg) : Prop := σ 900 0 = -1 ∧ σ 900 1 = 0 ∧ σ 900 2 = 0 ∧ σ 900 3 = 2 ∧ σ 900 4 = 1 ∧ σ 900 5 = 0
