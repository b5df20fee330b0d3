def wm (B : Nat → Int32) : Nat → List Int32 → Bool
  | _, [] => true
  | s, c :: l => (B s == c) && wm B (s + 1) l
def wE (B : Nat → Int32) (st : ST) (l : List Int32) : Prop := st.2.2.1 = 1 ∧ st.2.1 - st.1 = l.length ∧ wm B st.1 l = true
def st0 (B : Nat → Int32) (len : Nat) : ST := adv B len (0, 0, 0, [], 0)
def wAll : List Int32 := [97, 108, 108]
def wBlk : List Int32 := [98, 108, 111, 99, 107]
def wB (B : Nat → Int32) (st : ST) (l : List Int32) : Bool := decide (st.2.2.1 = 1) && (decide (st.2.1 - st.1 = l.length) && wm B st.1 l)
theorem wB_e {B : Nat → Int32} {st : ST} {l : List Int32} : wB B st l = true ↔ wE B st l := by
  unfold wB wE; simp [Bool.and_eq_true]
/-- the head of a text: all, or a block's number -/
def pHd (B : Nat → Int32) (len : Nat) : Bool × Nat × ST := if wB B (st0 B len) wAll = true then (true, 8, adv B len (st0 B len)) else if wB B (st0 B len) wBlk = true then (if (adv B len (st0 B len)).2.2.1 = 2 ∧ (adv B len (st0 B len)).2.1 - (adv B len (st0 B len)).1 = 1 ∧ B (adv B len (st0 B len)).1 ≤ 55 then (true, (B (adv B len (st0 B len)).1 - 48).toNatClampNeg, adv B len (adv B len (st0 B len))) else (false, 0, adv B len (st0 B len))) else (false, 0, st0 B len)
def pTx (B : Nat → Int32) (len : Nat) : Bool × Nat × ST := if (pHd B len).1 = true then (if (pOr B len (pPc B len (pHd B len).2.1 20 0 0) (pHd B len).2.2).1 = true ∧ (pOr B len (pPc B len (pHd B len).2.1 20 0 0) (pHd B len).2.2).2.2.2.1 = 0 then (true, (pHd B len).2.1, (pOr B len (pPc B len (pHd B len).2.1 20 0 0) (pHd B len).2.2).2) else (false, 0, (pOr B len (pPc B len (pHd B len).2.1 20 0 0) (pHd B len).2.2).2)) else (false, 0, (pHd B len).2.2)
section hd
variable {B : Nat → Int32} {len : Nat}
theorem st0_g : Good B len (st0 B len) := adv_g (st := (0, 0, 0, [], 0)) [] 0 (by simp) (by simp)
theorem adv_g' {st : ST} (g : Good B len st) : Good B len (adv B len st) := adv_g st.2.2.2.1 st.2.2.2.2 g.2.1 (by have := g.1; have := g.2.2.2.2.2.1; omega)
theorem hd_k {st : ST} (g : Good B len st) (h : st.2.2.1 = 2) (h55 : B st.1 ≤ 55) : ∃ d, d ≤ 7 ∧ B st.1 - 48 = nI d := by
  have hs := g.2.2.2.1 (by omega)
  have h2 := g.2.2.2.2.2.2 h st.1 (by omega) hs.2
  obtain ⟨d, hd, e⟩ := dig_n h2
  refine ⟨d, ?_, e⟩
  have e2 : B st.1 = nI (d + 48) := by
    have : B st.1 - 48 + 48 = nI d + 48 := by rw [e]
    rw [Int32.sub_add_cancel] at this
    rw [this]; exact nI_add d 48
  rw [e2] at h55
  have := (nI_leI (a := d + 48) (b := 55) (by omega) (by omega)).mp h55
  omega
theorem hd_55 {st : ST} (g : Good B len st) (h : st.2.2.1 = 2) {d : Nat} (hd : d ≤ 9) (e : B st.1 - 48 = nI d) : (B st.1 ≤ 55) = (d < 8) := by
  have e2 : B st.1 = nI (d + 48) := by
    have : B st.1 - 48 + 48 = nI d + 48 := by rw [e]
    rw [Int32.sub_add_cancel] at this
    rw [this]; exact nI_add d 48
  rw [e2]
  exact propext ⟨fun h => by have := (nI_leI (a := d + 48) (b := 55) (by omega) (by omega)).mp h; omega, fun h => (nI_leI (a := d + 48) (b := 55) (by omega) (by omega)).mpr (by omega)⟩
theorem pHd_g : (pHd B len).1 = true → Good B len (pHd B len).2.2 ∧ (pHd B len).2.1 ≤ 8 ∧ (pHd B len).2.2.2.2.2.1 = [] := by
  intro h
  unfold pHd at h ⊢
  by_cases c : wB B (st0 B len) wAll = true
  · rw [if_pos c] at h ⊢; exact ⟨adv_g' st0_g, Nat.le_refl 8, rfl⟩
  · rw [if_neg c] at h ⊢
    by_cases c2 : wB B (st0 B len) wBlk = true
    · rw [if_pos c2] at h ⊢
      by_cases c3 : (adv B len (st0 B len)).2.2.1 = 2 ∧ (adv B len (st0 B len)).2.1 - (adv B len (st0 B len)).1 = 1 ∧ B (adv B len (st0 B len)).1 ≤ 55
      · rw [if_pos c3] at h ⊢
        obtain ⟨d, hd, e⟩ := hd_k (adv_g' st0_g) c3.1 c3.2.2
        refine ⟨adv_g' (adv_g' st0_g), ?_, rfl⟩
        show (B (adv B len (st0 B len)).1 - 48).toNatClampNeg ≤ 8
        rw [e, cl_nI (by omega)]; omega
      · rw [if_neg c3] at h; exact absurd h (by simp)
    · rw [if_neg c2] at h; exact absurd h (by simp)
/- the program's -/
theorem isW_l {τ : Sg} (hc : CB τ B len) {s e c : Nat} (h3 : τ 114 3 = nI s) (hl : (sByt c).length = sLen c) (hn : s + sLen c ≤ len) : ∀ r i m, i + r = sLen c → r < m → s_X3_isWord_29 m τ c (nI i) = some (if wm B (s + i) ((sByt c).drop i) = true then 1 else 0, τ) := by
  have h96 := hc.2.1
  intro r
  induction r with
  | zero =>
    intro i m hi hm
    obtain ⟨m', rfl⟩ : ∃ m', m = m' + 1 := ⟨m - 1, by omega⟩
    simp only [s_X3_isWord_29, s_J0_length_8abf5, bn_some]
    simp (disch := omega) only [le_T, ↓reduceIte]
    rw [List.drop_eq_nil_of_le (by omega)]
    simp [wm]
  | succ r ih =>
    intro i m hi hm
    obtain ⟨m', rfl⟩ : ∃ m', m = m' + 1 := ⟨m - 1, by omega⟩
    have hi2 : i < (sByt c).length := by omega
    have ed : (sByt c).getD i 0 = (sByt c)[i] := by rw [List.getD_eq_getElem?_getD, List.getElem?_eq_getElem hi2, Option.getD_some]
    simp only [s_X3_isWord_29, s_J0_length_8abf5, s_J0_charAt_5068e, bn_some]
    simp (disch := omega) only [le_F, ↓reduceIte, h3, nI_add, inb_n, cl_nI, bn_some, (hc.2.2 (s + i) (by omega)).1, ed, nI_1]
    rw [List.drop_eq_getElem_cons hi2]
    unfold wm
    by_cases q : B (s + i) = (sByt c)[i]
    · rw [if_pos q, ih (i + 1) m' (by omega) (by omega)]
      rw [show s + (i + 1) = s + i + 1 by omega]
      simp [q]
    · rw [if_neg q]; simp [q]
theorem isW_e {τ : Sg} (hc : CB τ B len) {st : ST} (g : Good B len st) (ht : CTk τ B st.1 st.2.1 st.2.2.1) {c : Nat} (hl : (sByt c).length = sLen c) (hs5 : sLen c ≤ 100) : s_X3_isWord τ c = some (if wB B st (sByt c) = true then 1 else 0, τ) := by
  have h96 := hc.2.1
  have hk := g.2.2.1
  have gel := g.2.1
  obtain ⟨t3, t4, t5⟩ := ht
  have sB : st.2.2.1 = 3 → sm 255 (B st.1) := fun e => (hc.2.2 _ (g.2.2.2.1 (by omega)).1).2
  unfold s_X3_isWord s_J0_length_8abf5
  rw [t5, t3, t4, pk_sub g.1]
  simp only [tk_2 hk sB, bn_some]
  have e1 : (nI (st.2.1 - st.1) = nI (sLen c)) = (st.2.1 - st.1 = sLen c) := ieq (by omega) (by omega)
  simp only [e1]
  unfold wB
  rw [hl]
  by_cases c1 : st.2.2.1 = 1
  · by_cases c2 : st.2.1 - st.1 = sLen c
    · have gse := g.1
      have := isW_l hc t3 (e := st.2.1) hl (by omega) (sLen c) 0 FU (by omega) (by show _ < 4096; omega)
      have this2 : s_X3_isWord_29 FU τ c 0 = some (if wm B (st.1 + 0) ((sByt c).drop 0) = true then 1 else 0, τ) := this
      rw [this2]
      simp [c1, c2]
    · simp [c1, c2]
  · simp [c1]
theorem x3_adv0 {τ : Sg} (hc : CB τ B len) (h4 : τ 114 4 = 0) (h5 : τ 114 5 = -1) : Gv (s_X3_advance τ) (fun _ ρ => CTk ρ B (st0 B len).1 (st0 B len).2.1 (st0 B len).2.2.1 ∧ FA τ ρ) := by
  unfold s_X3_advance
  rw [h5, if_neg (by decide), if_neg (by decide), h4, lt_e]
  rw [show (0 : Int32) = nI 0 from rfl, adv32 hc (nI 0) 100 0 FU (by omega) (by have := hc.2.1; omega) (by decide)]
  exact adv70 hc (p := 0) (by omega) (w := (0 = 1 ∨ 0 = 2)) (by simp; rfl) h4
theorem x9_begin {τ : Sg} (v : Int32) : s_X9_begin τ 116 v = some (0, up (up (up τ 116 0 v) 116 1 0) 116 2 0) := by
  unfold s_X9_begin; simp only [lt_e]
theorem beg_ci {τ : Sg} (hc : CB τ B len) {st : ST} (ht : CTk τ B st.1 st.2.1 st.2.2.1) (hL : st.2.2.2.1 = []) (hC : st.2.2.2.2 = 0) (key : Nat) : CI B len key (up (up (up τ 116 0 (nI key)) 116 1 0) 116 2 0) st ∧ FR τ (up (up (up τ 116 0 (nI key)) 116 1 0) 116 2 0) := by
  have f : FR τ (up (up (up τ 116 0 (nI key)) 116 1 0) 116 2 0) := ⟨fun c _ h2 _ => by rw [up_d h2, up_d h2, up_d h2], fun j _ _ _ => by rw [up_d (by omega), up_d (by omega), up_d (by omega)]⟩
  have e : up (up (up τ 116 0 (nI key)) 116 1 0) 116 2 0 114 = τ 114 := by rw [up_d (by omega), up_d (by omega), up_d (by omega)]
  refine ⟨⟨CB_f hc f, ⟨?_, ?_, ?_⟩, ?_, ?_, ?_, ?_⟩, f⟩
  · rw [e]; exact ht.1
  · rw [e]; exact ht.2.1
  · rw [e]; exact ht.2.2
  · rw [up_f, ua_n (by omega), up_f, ua_n (by omega), up_f, ua_s]
  · rw [up_f, ua_n (by omega), up_f, ua_s, hC]; rfl
  · rw [up_f, ua_s, hL]; rfl
  · intro i t hi; rw [hL] at hi; simp at hi
theorem x3_head {τ : Sg} (hc : CB τ B len) (ht : CTk τ B (st0 B len).1 (st0 B len).2.1 (st0 B len).2.2.1) : Gv (s_X3_readHead τ) (fun r ρ => (((pHd B len).1 = true ∧ r = 1 ∧ CI B len (pHd B len).2.1 ρ (pHd B len).2.2) ∨ ((pHd B len).1 = false ∧ r = 0 ∧ ρ 114 3 = nI (pHd B len).2.2.1)) ∧ FR τ ρ) := by
  have g0 : Good B len (st0 B len) := st0_g
  have h96 := hc.2.1
  unfold s_X3_readHead
  rw [isW_e hc g0 ht (c := 950) (by decide) (by decide), bn_some, isW_e hc g0 ht (c := 951) (by decide) (by decide)]
  rw [show sByt 950 = wAll from by950, show sByt 951 = wBlk from by951]
  simp only [bn_some]
  by_cases c : wB B (st0 B len) wAll = true
  · have eH : pHd B len = (true, 8, adv B len (st0 B len)) := by unfold pHd; rw [if_pos c]
    rw [eH]
    rw [if_pos c, if_neg (show ¬ (1 : Int32) = 0 by decide), x9_begin, bv_some]
    obtain ⟨h1, f1⟩ := beg_ci hc ht rfl rfl 8
    refine gv_v (c_adv h1 g0) ?_
    intro _ τ2 ⟨h2, f2⟩
    exact gv_i ⟨.inl ⟨rfl, rfl, h2⟩, f1.t f2⟩
  · rw [if_neg c, if_pos rfl]
    by_cases c2 : wB B (st0 B len) wBlk = true
    · rw [if_pos c2, if_neg (show ¬ (1 : Int32) = 0 by decide)]
      have eH : pHd B len = if (adv B len (st0 B len)).2.2.1 = 2 ∧ (adv B len (st0 B len)).2.1 - (adv B len (st0 B len)).1 = 1 ∧ B (adv B len (st0 B len)).1 ≤ 55 then (true, (B (adv B len (st0 B len)).1 - 48).toNatClampNeg, adv B len (adv B len (st0 B len))) else (false, 0, adv B len (st0 B len)) := by unfold pHd; rw [if_neg c, if_pos c2]
      rw [eH]
      refine gv_v (x3_advance hc ht g0.2.1 g0.2.2.1 (fun e => (g0.2.2.2.1 (by omega)).1)) ?_
      intro _ τ1 ⟨t1, f1⟩
      have hc1 := CB_f hc f1.fr
      have g1 : Good B len (adv B len (st0 B len)) := adv_g' g0
      have t1 : CTk τ1 B (adv B len (st0 B len)).1 (adv B len (st0 B len)).2.1 (adv B len (st0 B len)).2.2.1 := t1
      have hL : (adv B len (st0 B len)).2.2.2.1 = [] := rfl
      have hC : (adv B len (st0 B len)).2.2.2.2 = 0 := rfl
      generalize adv B len (st0 B len) = w at *
      have sB : w.2.2.1 = 3 → sm 255 (B w.1) := fun e => (hc1.2.2 _ (g1.2.2.2.1 (by omega)).1).2
      have gel := g1.2.1
      rw [t1.2.2, t1.1, t1.2.1, pk_sub g1.1]
      have e1 : (nI (w.2.1 - w.1) = 1) = (w.2.1 - w.1 = 1) := ieq (b := 1) (by omega) (by omega)
      simp only [tk_3 g1.2.2.1 sB, e1]
      have fl : τ1 114 3 = nI w.1 := t1.1
      have nw : ∀ (p : ¬ (w.2.2.1 = 2 ∧ w.2.1 - w.1 = 1 ∧ B w.1 ≤ 55)), (if w.2.2.1 = 2 ∧ w.2.1 - w.1 = 1 ∧ B w.1 ≤ 55 then (true, (B w.1 - 48).toNatClampNeg, adv B len w) else (false, 0, w)) = ((false, 0, w) : Bool × Nat × ST) := fun p => if_neg p
      by_cases k2 : w.2.2.1 = 2
      · have hs := g1.2.2.2.1 (by omega)
        have ib : inb (nI w.1) 96 = true := inb_nI (by omega) (by omega)
        rw [if_pos k2]
        by_cases k3 : w.2.1 - w.1 = 1
        · rw [if_pos k3]
          by_cases k4 : B w.1 ≤ 55
          · obtain ⟨d, hd, ed⟩ := hd_k g1 k2 k4
            have pw : (if w.2.2.1 = 2 ∧ w.2.1 - w.1 = 1 ∧ B w.1 ≤ 55 then (true, (B w.1 - 48).toNatClampNeg, adv B len w) else (false, 0, w)) = ((true, d, adv B len w) : Bool × Nat × ST) := by rw [if_pos ⟨k2, k3, k4⟩, ed, cl_nI (by omega)]
            rw [pw, if_pos ib, cl_nI (by omega), (hc1.2.2 w.1 hs.1).1, if_pos k4, if_pos ib, ed, x9_begin, bv_some]
            obtain ⟨h2, f2⟩ := beg_ci hc1 t1 hL hC d
            refine gv_v (c_adv h2 g1) ?_
            intro _ τ3 ⟨h3, f3⟩
            exact gv_i ⟨.inl ⟨rfl, rfl, h3⟩, (f1.fr.t f2).t f3⟩
          · rw [nw (fun p => k4 p.2.2), if_pos ib, cl_nI (by omega), (hc1.2.2 w.1 hs.1).1, if_neg k4]
            exact gv_i ⟨.inr ⟨rfl, rfl, fl⟩, f1.fr⟩
        · rw [nw (fun p => k3 p.2.1), if_neg k3]
          exact gv_i ⟨.inr ⟨rfl, rfl, fl⟩, f1.fr⟩
      · rw [nw (fun p => k2 p.1), if_neg k2]
        exact gv_i ⟨.inr ⟨rfl, rfl, fl⟩, f1.fr⟩
    · have eH : pHd B len = (false, 0, st0 B len) := by unfold pHd; rw [if_neg c, if_neg c2]
      rw [eH, if_neg c2, if_pos rfl]
      exact gv_i ⟨.inr ⟨rfl, rfl, ht.1⟩, FR.r τ⟩
theorem x3_text {τ : Sg} (hc : CB τ B len) : Gv (s_X3_readText τ) (fun r ρ => (((pTx B len).1 = true ∧ r = 1 ∧ CI B len (pTx B len).2.1 ρ (pTx B len).2.2) ∨ ((pTx B len).1 = false ∧ r = 0 ∧ ρ 114 3 = nI (pTx B len).2.2.1)) ∧ FR τ ρ) := by
  unfold s_X3_readText pTx
  simp only [lt_e]
  have f0 : FR τ (up (up τ 114 4 0) 114 5 (-1)) := ⟨fun c h1 _ _ => by rw [up_d h1, up_d h1], fun j h3 h4 h5 => by rw [up_f, ua_n h5, up_f, ua_n h4]⟩
  refine gv_v (x3_adv0 (B := B) (len := len) (CB_f hc f0) (by rw [up_f, ua_n (by omega), up_f, ua_s]) (by rw [up_f, ua_s])) ?_
  intro _ τ1 ⟨t1, f1⟩
  have f01 := f0.t f1.fr
  refine gv_n (x3_head (CB_f hc f01) t1) ?_
  intro r τ2 ⟨hp, f2⟩
  have f02 := f01.t f2
  rcases hp with ⟨u1, u2, u3⟩ | ⟨u1, u2, u3⟩
  · subst u2
    rw [if_neg (show ¬ (1 : Int32) = 0 by decide), if_pos u1]
    obtain ⟨gh, hk8, _⟩ := pHd_g u1
    have gp : PG B len (pHd B len).2.1 (pPc B len (pHd B len).2.1 20 0 0) := pc_g 20 0 0
    refine gv_n (c_or gp (c_pc hk8 20 0 0 (by omega) (by omega) (by omega)) τ2 (pHd B len).2.2 u3 gh) ?_
    intro r τ3 ⟨hp, f3⟩
    have f03 := f02.t f3
    have gq := or_g gp (pHd B len).2.2 gh
    generalize pOr B len (pPc B len (pHd B len).2.1 20 0 0) (pHd B len).2.2 = w at *
    rcases hp with ⟨v1, v2, v3⟩ | ⟨v1, v2, v3⟩
    · subst v2
      obtain ⟨gw, _, _, _⟩ := gq v1
      have sB : w.2.2.2.1 = 3 → sm 255 (B w.2.1) := fun e => (v3.1.2.2 _ (gw.2.2.2.1 (by omega)).1).2
      rw [if_neg (show ¬ (1 : Int32) = 0 by decide), v3.2.1.2.2]
      simp only [tk_1 gw.2.2.1 sB, v1, true_and]
      by_cases c : w.2.2.2.1 = 0
      · rw [if_pos c, if_pos c]
        exact gv_i ⟨.inl ⟨rfl, rfl, v3⟩, f03⟩
      · rw [if_neg c, if_neg c]
        exact gv_i ⟨.inr ⟨rfl, rfl, v3.2.1.1⟩, f03⟩
    · subst v2
      have nq : ¬ w.1 = true := by rw [v1]; decide
      simp only [↓reduceIte, nq, false_and]
      exact gv_i ⟨.inr ⟨rfl, rfl, v3.2.2.1⟩, f03⟩
  · subst u2
    have nq : ¬ (pHd B len).1 = true := by rw [u1]; decide
    simp only [↓reduceIte, nq]
    exact gv_i ⟨.inr ⟨rfl, rfl, u3⟩, f02⟩
/- the model's -/
theorem m_next0 {τ : Sg} (hc : MB τ B len) (h5 : τ 150 25 = 0) : Gv (s_X11_next τ) (fun _ ρ => MTk ρ B (st0 B len).1 (st0 B len).2.1 (st0 B len).2.2.1 ∧ FN τ ρ) := by
  unfold s_X11_next
  rw [h5, if_pos (by decide), lt_e]
  have a := nxt34 hc 0 0 100 0 FU (by omega) (by have := hc.2.1; omega) (by decide)
  rw [up_id (show τ 150 25 = nI 0 from h5)] at a
  rw [a]
  unfold s_X11_next_72
  rw [if_pos rfl]
  exact nxt89 hc (p := 0) (by omega) (w := (0 = 1 ∨ 0 = 2)) (t := 0) (by simp)
theorem isWA_e {ρ : Sg} (hc : MB ρ B len) {st : ST} (g : Good B len st) (ht : MTk ρ B st.1 st.2.1 st.2.2.1) : s_X11_isWordAt ρ 97 108 108 0 = some (if wB B st wAll = true then 1 else 0, ρ) := by
  obtain ⟨t4, t5, t6, _⟩ := ht
  have h96 := hc.2.1
  have hk := g.2.2.1
  have gel := g.2.1
  have gse := g.1
  have k1 : (tkM st.2.2.1 (st.2.1 - st.1) = 1) = (st.2.2.1 = 1) := by
    have : st.2.2.1 = 0 ∨ st.2.2.1 = 1 ∨ st.2.2.1 = 2 ∨ st.2.2.1 = 3 ∨ st.2.2.1 = 4 := by omega
    rcases this with e | e | e | e | e <;> rw [e] <;> by_cases c : st.2.1 - st.1 ≤ 4 <;> simp [tkM, c]
  have e3 : (nI (st.2.1 - st.1) = 3) = (st.2.1 - st.1 = 3) := ieq (b := 3) (by omega) (by omega)
  unfold s_X11_isWordAt s_X11_isWordAt_10 wB
  simp only [↓reduceIte, t4, t5, t6, pk_sub gse, k1, e3]
  by_cases c1 : st.2.2.1 = 1
  · by_cases c2 : st.2.1 - st.1 = 3
    · have q0 := (hc.2.2 st.1 (by omega)).1
      have q1 := (hc.2.2 (st.1 + 1) (by omega)).1
      have q2 := (hc.2.2 (st.1 + 2) (by omega)).1
      simp (disch := omega) only [c1, c2, ↓reduceIte, NK, inb_n, cl_nI, q0, q1, q2]
      by_cases b0 : B st.1 = 97
      · by_cases b1 : B (st.1 + 1) = 108
        · by_cases b2 : B (st.1 + 2) = 108
          · simp [b0, b1, b2, wAll, wm]
          · simp [b0, b1, b2, wAll, wm]
        · simp [b0, b1, wAll, wm]
      · simp [b0, wAll, wm]
    · simp [c1, c2, wAll]
  · simp [c1]
theorem isLg_e {ρ : Sg} (hc : MB ρ B len) {st : ST} (g : Good B len st) (ht : MTk ρ B st.1 st.2.1 st.2.2.1) : s_X11_isLong ρ 98 108 111 99 107 0 = some (if wB B st wBlk = true then 1 else 0, ρ) := by
  obtain ⟨t4, t5, t6, _⟩ := ht
  have h96 := hc.2.1
  have hk := g.2.2.1
  have gel := g.2.1
  have gse := g.1
  have k1 : (tkM st.2.2.1 (st.2.1 - st.1) = 1) = (st.2.2.1 = 1) := by
    have : st.2.2.1 = 0 ∨ st.2.2.1 = 1 ∨ st.2.2.1 = 2 ∨ st.2.2.1 = 3 ∨ st.2.2.1 = 4 := by omega
    rcases this with e | e | e | e | e <;> rw [e] <;> by_cases c : st.2.1 - st.1 ≤ 4 <;> simp [tkM, c]
  have e3 : (nI (st.2.1 - st.1) = 5) = (st.2.1 - st.1 = 5) := ieq (b := 5) (by omega) (by omega)
  unfold s_X11_isLong s_X11_isLong_11 wB
  simp only [↓reduceIte, t4, t5, t6, pk_sub gse, k1, e3]
  by_cases c1 : st.2.2.1 = 1
  · by_cases c2 : st.2.1 - st.1 = 5
    · have q0 := (hc.2.2 st.1 (by omega)).1
      have q1 := (hc.2.2 (st.1 + 1) (by omega)).1
      have q2 := (hc.2.2 (st.1 + 2) (by omega)).1
      have q3 := (hc.2.2 (st.1 + 3) (by omega)).1
      have q4 := (hc.2.2 (st.1 + 4) (by omega)).1
      simp (disch := omega) only [c1, c2, ↓reduceIte, NK, inb_n, cl_nI, q0, q1, q2, q3, q4]
      by_cases b0 : B st.1 = 98
      · by_cases b1 : B (st.1 + 1) = 108
        · by_cases b2 : B (st.1 + 2) = 111
          · by_cases b3 : B (st.1 + 3) = 99
            · by_cases b4 : B (st.1 + 4) = 107
              · simp [b0, b1, b2, b3, b4, wBlk, wm]
              · simp [b0, b1, b2, b3, b4, wBlk, wm]
            · simp [b0, b1, b2, b3, wBlk, wm]
          · simp [b0, b1, b2, wBlk, wm]
        · simp [b0, b1, wBlk, wm]
      · simp [b0, wBlk, wm]
    · simp [c1, c2, wBlk]
  · simp [c1]
def FK0 (ρ κ : Sg) : Prop := (∀ c, c ≠ 150 → κ c = ρ c) ∧ ∀ j, j < 24 ∨ 28 < j → κ 150 j = ρ 150 j
theorem FN.k {τ ρ : Sg} (h : FN τ ρ) : FK0 τ ρ := ⟨h.1, fun j a => h.2 j (by omega) (by omega) (by omega) (by omega) (by omega)⟩
theorem FK0.t {σ τ ρ : Sg} (h : FK0 σ τ) (k : FK0 τ ρ) : FK0 σ ρ := ⟨fun c a => (k.1 c a).trans (h.1 c a), fun j a => (k.2 j a).trans (h.2 j a)⟩
theorem MB_k {τ ρ : Sg} (h : MB τ B len) (f : FK0 τ ρ) : MB ρ B len :=
  ⟨by rw [f.2 23 (by omega)]; exact h.1, h.2.1, fun i hi => by rw [f.1 167 (by omega)]; exact h.2.2 i hi⟩
/-- the model's key, and where it stands behind it: the text's head but its last step -/
def pKy (B : Nat → Int32) (len : Nat) : Bool × Nat × ST := if wB B (st0 B len) wAll = true then (true, 8, st0 B len) else if wB B (st0 B len) wBlk = true then (if (adv B len (st0 B len)).2.2.1 = 2 ∧ (adv B len (st0 B len)).2.1 - (adv B len (st0 B len)).1 = 1 ∧ B (adv B len (st0 B len)).1 ≤ 55 then (true, (B (adv B len (st0 B len)).1 - 48).toNatClampNeg, adv B len (st0 B len)) else (false, 0, adv B len (st0 B len))) else (false, 0, st0 B len)
theorem pKy_h : pHd B len = ((pKy B len).1, (pKy B len).2.1, if (pKy B len).1 = true then adv B len (pKy B len).2.2 else (pKy B len).2.2) := by
  unfold pHd pKy
  split
  · rfl
  · split
    · split <;> rfl
    · rfl
theorem m_key {ρ : Sg} (hc : MB ρ B len) (ht : MTk ρ B (st0 B len).1 (st0 B len).2.1 (st0 B len).2.2.1) : Gv (s_X11_key ρ) (fun r κ => ((pKy B len).1 = true → r = nI (pKy B len).2.1 ∧ (pKy B len).2.1 ≤ 8 ∧ MTk κ B (pKy B len).2.2.1 (pKy B len).2.2.2.1 (pKy B len).2.2.2.2.1 ∧ Good B len (pKy B len).2.2 ∧ ((pKy B len).2.2.2.2.1 = 2 → (pKy B len).2.2.2.1 - (pKy B len).2.2.1 ≤ 4)) ∧ ((pKy B len).1 = false → r = -1 ∧ κ 150 24 = nI (pKy B len).2.2.1) ∧ FK0 ρ κ) := by
  have g0 : Good B len (st0 B len) := st0_g
  unfold s_X11_key
  rw [isWA_e hc g0 ht, bn_some, isLg_e hc g0 ht]
  by_cases c : wB B (st0 B len) wAll = true
  · have eH : pKy B len = (true, 8, st0 B len) := by unfold pKy; rw [if_pos c]
    rw [eH, if_pos c, if_neg (show ¬ (1 : Int32) = 0 by decide)]
    have hw := wB_e.mp c
    exact gv_i ⟨fun _ => ⟨rfl, Nat.le_refl 8, ht, g0, fun e => by have e' : (st0 B len).2.2.1 = 2 := e; have := hw.1; omega⟩, fun h => absurd h (by simp), fun _ _ => rfl, fun _ _ => rfl⟩
  · rw [if_neg c, if_pos rfl, bn_some]
    by_cases c2 : wB B (st0 B len) wBlk = true
    · rw [if_pos c2, if_neg (show ¬ (1 : Int32) = 0 by decide)]
      have eH : pKy B len = if (adv B len (st0 B len)).2.2.1 = 2 ∧ (adv B len (st0 B len)).2.1 - (adv B len (st0 B len)).1 = 1 ∧ B (adv B len (st0 B len)).1 ≤ 55 then (true, (B (adv B len (st0 B len)).1 - 48).toNatClampNeg, adv B len (st0 B len)) else (false, 0, adv B len (st0 B len)) := by unfold pKy; rw [if_neg c, if_pos c2]
      rw [eH]
      have hw := wB_e.mp c2
      have hsl := g0.2.2.2.1 (by have := hw.1; omega)
      refine gv_v (m_next hc ht g0.2.1 g0.2.2.1 (fun _ => by omega) (fun e => by have := hw.1; omega)) ?_
      intro _ τ1 ⟨t1, f1⟩
      have g1 : Good B len (adv B len (st0 B len)) := adv_g' g0
      have t1 : MTk τ1 B (adv B len (st0 B len)).1 (adv B len (st0 B len)).2.1 (adv B len (st0 B len)).2.2.1 := t1
      generalize adv B len (st0 B len) = w at *
      obtain ⟨a4, a5, a6, a7, a8, a9⟩ := id t1
      have h96 := hc.2.1
      have hk := g1.2.2.1
      have gel := g1.2.1
      have gse := g1.1
      have k2 : (tkM w.2.2.1 (w.2.1 - w.1) = 2) = (w.2.2.1 = 2 ∧ w.2.1 - w.1 ≤ 4) := by
        have : w.2.2.1 = 0 ∨ w.2.2.1 = 1 ∨ w.2.2.1 = 2 ∨ w.2.2.1 = 3 ∨ w.2.2.1 = 4 := by omega
        rcases this with e | e | e | e | e <;> rw [e] <;> by_cases c : w.2.1 - w.1 ≤ 4 <;> simp [tkM, c]
      have e1 : (nI (w.2.1 - w.1) = 1) = (w.2.1 - w.1 = 1) := ieq (b := 1) (by omega) (by omega)
      have nw : ∀ (p : ¬ (w.2.2.1 = 2 ∧ w.2.1 - w.1 = 1 ∧ B w.1 ≤ 55)), (if w.2.2.1 = 2 ∧ w.2.1 - w.1 = 1 ∧ B w.1 ≤ 55 then (true, (B w.1 - 48).toNatClampNeg, w) else (false, 0, w)) = ((false, 0, w) : Bool × Nat × ST) := fun p => if_neg p
      rw [a4, a5, a6, pk_sub gse]
      simp only [k2, e1]
      by_cases q2 : w.2.2.1 = 2
      · by_cases q1 : w.2.1 - w.1 = 1
        · have hs := g1.2.2.2.1 (by omega)
          obtain ⟨d, hd, ed⟩ := dig_n (g1.2.2.2.2.2.2 q2 w.1 (by omega) hs.2)
          have en : τ1 150 27 = nI d := by
            rw [a9 q2 (by omega), q1]
            show 0 * 10 + (B (w.1 + 0) - 48) = _
            rw [Nat.add_zero, ed]; simp
          have e8 : ((8 : Int32) ≤ nI d) = (8 ≤ d) := propext (nI_leI (a := 8) (by omega) (by omega))
          rw [if_pos ⟨q2, by omega⟩, if_pos q1, en]
          simp only [e8]
          have h55 := hd_55 g1 q2 hd ed
          by_cases q8 : d < 8
          · rw [if_neg (show ¬ 8 ≤ d by omega), if_pos ⟨q2, q1, by rw [h55]; exact q8⟩, ed]
            refine gv_i ⟨fun _ => ⟨?_, ?_, t1, g1, fun _ => by show w.2.1 - w.1 ≤ 4; omega⟩, fun h => absurd h (by simp), f1.k⟩
            · show nI d = nI (nI d).toNatClampNeg
              rw [cl_nI (by omega)]
            · show (nI d).toNatClampNeg ≤ 8
              rw [cl_nI (by omega)]; omega
          · rw [if_pos (show 8 ≤ d by omega), nw (fun p => q8 (by rw [← h55]; exact p.2.2))]
            exact gv_i ⟨fun h => absurd h (by simp), fun _ => ⟨rfl, a4⟩, f1.k⟩
        · rw [nw (fun p => q1 p.2.1)]
          by_cases q4 : w.2.1 - w.1 ≤ 4
          · rw [if_pos ⟨q2, q4⟩, if_neg q1]
            exact gv_i ⟨fun h => absurd h (by simp), fun _ => ⟨rfl, a4⟩, f1.k⟩
          · rw [if_neg (fun p => q4 p.2)]
            exact gv_i ⟨fun h => absurd h (by simp), fun _ => ⟨rfl, a4⟩, f1.k⟩
      · rw [nw (fun p => q2 p.1), if_neg (fun p => q2 p.1)]
        exact gv_i ⟨fun h => absurd h (by simp), fun _ => ⟨rfl, a4⟩, f1.k⟩
    · have eH : pKy B len = (false, 0, st0 B len) := by unfold pKy; rw [if_neg c, if_neg c2]
      rw [eH, if_neg c2, if_pos rfl]
      exact gv_i ⟨fun h => absurd h (by simp), fun _ => ⟨rfl, ht.1⟩, fun _ _ => rfl, fun _ _ => rfl⟩
end hd
