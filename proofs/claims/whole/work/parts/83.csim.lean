def enc (t : Nat × Int32) : Int32 := if t.1 = 0 then t.2 else -t.2
def CI (B : Nat → Int32) (len key : Nat) (τ : Sg) (st : ST) : Prop := CB τ B len ∧ CTk τ B st.1 st.2.1 st.2.2.1 ∧ τ 116 0 = nI key ∧ τ 116 1 = nI st.2.2.2.2 ∧ τ 116 2 = nI st.2.2.2.1.length ∧ ∀ i t, st.2.2.2.1[i]? = some t → τ 117 i = enc t
def CF (B : Nat → Int32) (len key : Nat) (τ : Sg) (s : Nat) : Prop := CB τ B len ∧ τ 116 0 = nI key ∧ τ 114 3 = nI s ∧ ∃ z, z ≤ 96 ∧ τ 116 2 = nI z
def FR (τ ρ : Sg) : Prop := (∀ c, c ≠ 114 → c ≠ 116 → c ≠ 117 → ρ c = τ c) ∧ ∀ j, j ≠ 3 → j ≠ 4 → j ≠ 5 → ρ 114 j = τ 114 j
def PC (B : Nat → Int32) (len key : Nat) (q : PR) (τ : Sg) (r : Int32) (ρ : Sg) : Prop := ((q.1 = true ∧ r = 1 ∧ CI B len key ρ q.2) ∨ (q.1 = false ∧ r = 0 ∧ CF B len key ρ q.2.1)) ∧ FR τ ρ
def CSim (B : Nat → Int32) (len key : Nat) (G : Sg → RO) (Q : ST → PR) : Prop := ∀ τ st, CI B len key τ st → Good B len st → Gv (G τ) (PC B len key (Q st) τ)
theorem FR.r (τ : Sg) : FR τ τ := ⟨fun _ _ _ _ => rfl, fun _ _ _ _ => rfl⟩
theorem FR.t {σ τ ρ : Sg} (h : FR σ τ) (k : FR τ ρ) : FR σ ρ := ⟨fun c a b d => (k.1 c a b d).trans (h.1 c a b d), fun j a b d => (k.2 j a b d).trans (h.2 j a b d)⟩
theorem FA.fr {τ ρ : Sg} (h : FA τ ρ) : FR τ ρ := ⟨fun c a _ _ => h.1 c a, h.2⟩
theorem CB_f {τ ρ : Sg} {B : Nat → Int32} {len : Nat} (h : CB τ B len) (f : FR τ ρ) : CB ρ B len :=
  ⟨by rw [f.2 1 (by omega) (by omega) (by omega)]; exact h.1, h.2.1, fun i hi => by rw [f.1 115 (by omega) (by omega) (by omega)]; exact h.2.2 i hi⟩
section csim
variable {B : Nat → Int32} {len key : Nat}
theorem PC_t {σ τ : Sg} {q : PR} {r : Int32} {ρ : Sg} (f : FR σ τ) (h : PC B len key q τ r ρ) : PC B len key q σ r ρ := ⟨h.1, f.t h.2⟩
theorem tk_c {k s : Nat} (hk : k ≤ 4) (h : k = 3 → sm 255 (B s)) {c : Int32} (hc : 0 ≤ c) : (tkC B k s = c) = (k = 3 ∧ B s = c) := by
  have n1 : ∀ d : Int32, d < 0 → d ≠ c := fun d hd e => by
    subst e; exact absurd hd (lt_le.mpr hc)
  have : k = 0 ∨ k = 1 ∨ k = 2 ∨ k = 3 ∨ k = 4 := by omega
  rcases this with rfl | rfl | rfl | rfl | rfl
  · simp only [tkC, ↓reduceIte, n1 (-1) (by decide), show ¬ 0 = 3 by omega, false_and]
  · simp only [tkC, ↓reduceIte, show ¬ 1 = 0 by omega, n1 (-2) (by decide), show ¬ 1 = 3 by omega, false_and]
  · simp only [tkC, ↓reduceIte, show ¬ 2 = 0 by omega, show ¬ 2 = 1 by omega, n1 (-3) (by decide), show ¬ 2 = 3 by omega, false_and]
  · simp only [tkC, ↓reduceIte, show ¬ 3 = 0 by omega, show ¬ 3 = 1 by omega, show ¬ 3 = 2 by omega, show ¬ 3 = 4 by omega, true_and]
  · simp only [tkC, ↓reduceIte, show ¬ 4 = 0 by omega, show ¬ 4 = 1 by omega, show ¬ 4 = 2 by omega, n1 (-4) (by decide), show ¬ 4 = 3 by omega, false_and]
theorem CI_t {τ : Sg} {st : ST} (h : CI B len key τ st) (g : Good B len st) {c : Int32} (hc : 0 ≤ c) : (τ 114 5 = c) = (st.2.2.1 = 3 ∧ B st.1 = c) := by
  rw [h.2.1.2.2]
  exact tk_c g.2.2.1 (fun e => (h.1.2.2 _ (g.2.2.2.1 (by omega)).1).2) hc
theorem CI_f {τ : Sg} {st : ST} (h : CI B len key τ st) (hl : st.2.2.2.1.length ≤ 96) : CF B len key τ st.1 := ⟨h.1, h.2.2.1, h.2.1.1, st.2.2.2.1.length, hl, h.2.2.2.2.1⟩
theorem c_adv {τ : Sg} {st : ST} (h : CI B len key τ st) (g : Good B len st) : Gv (s_X3_advance τ) (fun _ ρ => CI B len key ρ (adv B len st) ∧ FR τ ρ) := by
  refine gv_w (x3_advance h.1 h.2.1 g.2.1 g.2.2.1 (fun e => (g.2.2.2.1 (by omega)).1)) ?_
  intro _ ρ ⟨t, f⟩
  refine ⟨⟨CB_f h.1 f.fr, t, ?_, ?_, ?_, ?_⟩, f.fr⟩
  · rw [f.1 116 (by omega)]; exact h.2.2.1
  · rw [f.1 116 (by omega)]; exact h.2.2.2.1
  · rw [f.1 116 (by omega)]; exact h.2.2.2.2.1
  · intro i u hu; rw [f.1 117 (by omega)]; exact h.2.2.2.2.2 i u hu
theorem rt116 : rt 116 3 = 117 := rfl
theorem al117 : aln 0 117 = 96 := rfl
theorem x9_add {τ : Sg} {z : Nat} (h : τ 116 2 = nI z) (hz : z < 96) (x : Int32) : s_X9_add τ 116 x = some (0, up (up τ 117 z x) 116 2 (nI (z + 1))) := by
  unfold s_X9_add
  have c : ¬ (96 : Int32) ≤ nI z := nI_ge (b := 96) hz (by omega)
  have e : up τ 117 z x 116 2 = nI z := by rw [up_d (by omega), h]
  simp (disch := omega) only [h, c, ↓reduceIte, rt116, al117, inb_n, cl_nI, lt_e, e, nI_1]
theorem add_ci {τ : Sg} {st : ST} (h : CI B len key τ st) {t : Nat × Int32} {x : Int32} (hx : x = enc t) : CI B len key (up (up τ 117 st.2.2.2.1.length x) 116 2 (nI (st.2.2.2.1.length + 1))) (emt st t) ∧ FR τ (up (up τ 117 st.2.2.2.1.length x) 116 2 (nI (st.2.2.2.1.length + 1))) := by
  have f : FR τ (up (up τ 117 st.2.2.2.1.length x) 116 2 (nI (st.2.2.2.1.length + 1))) := ⟨fun c h1 h2 h3 => by rw [up_d h2, up_d h3], fun j _ _ _ => by rw [up_d (by omega), up_d (by omega)]⟩
  refine ⟨⟨CB_f h.1 f, ⟨?_, ?_, ?_⟩, ?_, ?_, ?_, ?_⟩, f⟩
  · rw [up_d (by omega), up_d (by omega)]; exact h.2.1.1
  · rw [up_d (by omega), up_d (by omega)]; exact h.2.1.2.1
  · rw [up_d (by omega), up_d (by omega)]; exact h.2.1.2.2
  · rw [up_f, ua_n (by omega), up_d (by omega)]; exact h.2.2.1
  · rw [up_f, ua_n (by omega), up_d (by omega)]; exact h.2.2.2.1
  · rw [up_f, ua_s]; simp [emt]
  · intro i u hu
    rw [up_d (by omega), up_f]
    have hu : (st.2.2.2.1 ++ [t])[i]? = some u := hu
    by_cases c : i < st.2.2.2.1.length
    · rw [List.getElem?_append_left c] at hu
      rw [ua_n (by omega)]; exact h.2.2.2.2.2 i u hu
    · rw [List.getElem?_append_right (by omega)] at hu
      by_cases c2 : i = st.2.2.2.1.length
      · subst c2
        simp at hu
        rw [ua_s, hx, hu]
      · rw [List.getElem?_eq_none (by simp; omega)] at hu; cases hu
theorem c_sign {τ : Sg} {st : ST} (h : CI B len key τ st) (hl : st.2.2.2.1.length < 96) (c : Int32) : Gv (s_X9_addSign τ 116 c) (fun _ ρ => CI B len key ρ (emt st (2, c)) ∧ FR τ ρ) := by
  unfold s_X9_addSign
  rw [x9_add h.2.2.2.2.1 hl, bv_some]
  exact gv_i (add_ci h rfl)
theorem c_signf {τ : Sg} {s : Nat} (h : CF B len key τ s) (c : Int32) : Gv (s_X9_addSign τ 116 c) (fun _ ρ => CF B len key ρ s ∧ FR τ ρ) := by
  obtain ⟨h1, h2, h3, z, hz, h4⟩ := h
  unfold s_X9_addSign
  by_cases c96 : z < 96
  · rw [x9_add h4 c96, bv_some]
    have f : ∀ x, FR τ (up (up τ 117 z x) 116 2 (nI (z + 1))) := fun x => ⟨fun c h1 h2 h3 => by rw [up_d h2, up_d h3], fun j _ _ _ => by rw [up_d (by omega), up_d (by omega)]⟩
    refine gv_i ⟨⟨CB_f h1 (f _), ?_, ?_, z + 1, by omega, ?_⟩, f _⟩
    · rw [up_f, ua_n (by omega), up_d (by omega)]; exact h2
    · rw [up_d (by omega), up_d (by omega)]; exact h3
    · rw [up_f, ua_s]
  · have e : z = 96 := by omega
    subst e
    unfold s_X9_add
    rw [h4, if_pos (by decide), bv_some]
    exact gv_i ⟨⟨h1, h2, h3, 96, by omega, h4⟩, FR.r τ⟩
theorem Gl {st : ST} {τ : Sg} (h : CI B len key τ st) (g : Good B len st) : st.2.2.2.1.length ≤ 96 := by
  have := g.1; have := g.2.1; have := g.2.2.2.2.2.1; have := h.1.2.1; omega
theorem c_term_l {R : Sg → Int32 → Int32 → RO} {x1 x2 : Int32} {Q : ST → PR} (hg : PG B len key Q) (hR : CSim B len key (fun τ => R τ x1 x2) Q) : ∀ f i m τ st, i + f = 96 → f + 1 < m → CI B len key τ st → Good B len st → Gv (s_X3_readTerm_10 R m τ x1 x2 1 (nI i)) (PC B len key (pLoop B len Q S1 f st) τ) := by
  intro f
  induction f with
  | zero =>
    intro i m τ st hi hm h g
    obtain ⟨m', rfl⟩ : ∃ m', m = m' + 1 := ⟨m - 1, by omega⟩
    have c : (96 : Int32) ≤ nI i := nI_le (a := 96) (by omega) (by omega)
    simp only [s_X3_readTerm_10, c, ↓reduceIte, or_true]
    exact gv_i ⟨.inl ⟨rfl, rfl, h⟩, FR.r τ⟩
  | succ f ih =>
    intro i m τ st hi hm h g
    obtain ⟨m', rfl⟩ : ∃ m', m = m' + 1 := ⟨m - 1, by omega⟩
    have c : ¬ (96 : Int32) ≤ nI i := nI_ge (b := 96) (by omega) (by omega)
    simp only [s_X3_readTerm_10, c, ↓reduceIte, show ¬ (1 : Int32) = 0 by decide, or_true, CI_t h g (show (0 : Int32) ≤ 42 by decide), CI_t h g (show (0 : Int32) ≤ 47 by decide)]
    unfold pLoop
    have key : st.2.2.1 = 3 ∧ S1 (B st.1) = true → Gv (s_X3_readTerm_39 R (s_X3_readTerm_10 R m') τ x1 x2 (nI i)) (PC B len key (if (Q (adv B len st)).1 = true then pLoop B len Q S1 f (emt (Q (adv B len st)).2 (2, B st.1)) else (false, (Q (adv B len st)).2)) τ) := by
      intro hk
      have etk : τ 114 5 = B st.1 := by rw [h.2.1.2.2]; unfold tkC; simp [hk.1]
      unfold s_X3_readTerm_39
      rw [etk, lt_e]
      refine gv_v (c_adv h g) ?_
      intro _ τ1 ⟨h1, f1⟩
      have g1 : Good B len (adv B len st) := adv_g st.2.2.2.1 st.2.2.2.2 g.2.1 (by have := g.1; have := g.2.2.2.2.2.1; omega)
      have as := adv_s (B := B) (st := st) g.2.1
      refine gv_n (hR τ1 (adv B len st) h1 g1) ?_
      intro r τ2 ⟨hp, f2⟩
      have f12 := f1.t f2
      rcases hp with ⟨q1, q2, q3⟩ | ⟨q1, q2, q3⟩
      · subst q2
        rw [if_pos q1]
        obtain ⟨e1, e2, e3, e4⟩ := hg (adv B len st) g1 q1
        have e3' : (Q (adv B len st)).2.2.2.2.1.length + (adv B len st).1 ≤ st.2.2.2.1.length + (Q (adv B len st)).2.1 := e3
        have hs := g.2.2.2.1 (by omega)
        have g6 := g.2.2.2.2.2.1
        have hl := h.1.2.1
        have a1 := e1.1
        have a2 := e1.2.1
        refine gv_v (c_sign q3 (by omega) (B st.1)) ?_
        intro _ τ3 ⟨h3, f3⟩
        rw [nI_1]
        refine gv_w (ih (i + 1) m' τ3 _ (by omega) (by omega) h3 ⟨e1.1, e1.2.1, e1.2.2.1, e1.2.2.2.1, e1.2.2.2.2.1, ?_, e1.2.2.2.2.2.2⟩) (fun r ρ hr => PC_t (f12.t f3) hr)
        have el : (emt (Q (adv B len st)).2 (2, B st.1)).2.2.2.1.length = (Q (adv B len st)).2.2.2.2.1.length + 1 := by simp [emt]
        rw [el]; show _ ≤ (Q (adv B len st)).2.1; omega
      · subst q2
        rw [if_neg (by rw [q1]; decide)]
        refine gv_v (c_signf q3 (B st.1)) ?_
        intro _ τ3 ⟨h3, f3⟩
        rw [nI_1]
        obtain ⟨m2, rfl⟩ : ∃ m2, m' = m2 + 1 := ⟨m' - 1, by omega⟩
        have e0 : s_X3_readTerm_10 R (m2 + 1) τ3 x1 x2 0 (nI (i + 1)) = some (0, τ3) := by
          simp only [s_X3_readTerm_10, ↓reduceIte, true_or, ite_self]
        rw [e0]
        exact gv_i ⟨.inr ⟨rfl, rfl, h3⟩, f12.t f3⟩
    by_cases ck : st.2.2.1 = 3 ∧ S1 (B st.1) = true
    · rw [if_pos ck]
      have : (st.2.2.1 = 3 ∧ B st.1 = 42) ∨ (st.2.2.1 = 3 ∧ B st.1 = 47) := by
        have h2 := ck.2
        simp only [S1, Bool.or_eq_true, beq_iff_eq] at h2
        rcases h2 with h2 | h2
        · exact .inl ⟨ck.1, h2⟩
        · exact .inr ⟨ck.1, h2⟩
      rcases this with c1 | c1
      · rw [if_pos c1]; exact key ck
      · by_cases c0 : st.2.2.1 = 3 ∧ B st.1 = 42
        · rw [if_pos c0]; exact key ck
        · rw [if_neg c0, if_pos c1]; exact key ck
    · rw [if_neg ck]
      have n1 : ¬ (st.2.2.1 = 3 ∧ B st.1 = 42) := fun e => ck ⟨e.1, by rw [e.2]; rfl⟩
      have n2 : ¬ (st.2.2.1 = 3 ∧ B st.1 = 47) := fun e => ck ⟨e.1, by rw [e.2]; rfl⟩
      rw [if_neg n1, if_neg n2]
      exact gv_i ⟨.inl ⟨rfl, rfl, h⟩, FR.r τ⟩
theorem c_term {R : Sg → Int32 → Int32 → RO} {x1 x2 : Int32} {Q : ST → PR} (hg : PG B len key Q) (hR : CSim B len key (fun τ => R τ x1 x2) Q) : CSim B len key (fun τ => s_X3_readTerm R τ x1 x2) (pTerm B len Q) := by
  intro τ st h g
  show Gv (s_X3_readTerm R τ x1 x2) (PC B len key (pBin B len (Q) S1 st) τ)
  unfold s_X3_readTerm pBin
  refine gv_n (hR τ st h g) ?_
  intro r τ1 ⟨hp, f1⟩
  rcases hp with ⟨q1, q2, q3⟩ | ⟨q1, q2, q3⟩
  · subst q2
    rw [if_pos q1]
    exact gv_w (c_term_l hg hR 96 0 FU τ1 _ (by omega) (by decide) q3 (hg st g q1).1) (fun r ρ hr => PC_t f1 hr)
  · subst q2
    rw [if_neg (by rw [q1]; decide)]
    have e0 : s_X3_readTerm_10 R FU τ1 x1 x2 0 0 = some (0, τ1) := by
      rw [FU_s]; simp only [s_X3_readTerm_10, ↓reduceIte, true_or, ite_self]
    rw [e0]
    exact gv_i ⟨.inr ⟨rfl, rfl, q3⟩, f1⟩
theorem c_sum_l {R : Sg → Int32 → Int32 → RO} {x1 x2 : Int32} {Q : ST → PR} (hg : PG B len key Q) (hR : CSim B len key (fun τ => s_X3_readTerm R τ x1 x2) Q) : ∀ f i m τ st, i + f = 96 → f + 1 < m → CI B len key τ st → Good B len st → Gv (s_X3_readSum_10 R m τ x1 x2 1 (nI i)) (PC B len key (pLoop B len Q S2 f st) τ) := by
  intro f
  induction f with
  | zero =>
    intro i m τ st hi hm h g
    obtain ⟨m', rfl⟩ : ∃ m', m = m' + 1 := ⟨m - 1, by omega⟩
    have c : (96 : Int32) ≤ nI i := nI_le (a := 96) (by omega) (by omega)
    simp only [s_X3_readSum_10, c, ↓reduceIte, or_true]
    exact gv_i ⟨.inl ⟨rfl, rfl, h⟩, FR.r τ⟩
  | succ f ih =>
    intro i m τ st hi hm h g
    obtain ⟨m', rfl⟩ : ∃ m', m = m' + 1 := ⟨m - 1, by omega⟩
    have c : ¬ (96 : Int32) ≤ nI i := nI_ge (b := 96) (by omega) (by omega)
    simp only [s_X3_readSum_10, c, ↓reduceIte, show ¬ (1 : Int32) = 0 by decide, or_true, CI_t h g (show (0 : Int32) ≤ 43 by decide), CI_t h g (show (0 : Int32) ≤ 45 by decide)]
    unfold pLoop
    have key : st.2.2.1 = 3 ∧ S2 (B st.1) = true → Gv (s_X3_readSum_39 R (s_X3_readSum_10 R m') τ x1 x2 (nI i)) (PC B len key (if (Q (adv B len st)).1 = true then pLoop B len Q S2 f (emt (Q (adv B len st)).2 (2, B st.1)) else (false, (Q (adv B len st)).2)) τ) := by
      intro hk
      have etk : τ 114 5 = B st.1 := by rw [h.2.1.2.2]; unfold tkC; simp [hk.1]
      unfold s_X3_readSum_39
      rw [etk, lt_e]
      refine gv_v (c_adv h g) ?_
      intro _ τ1 ⟨h1, f1⟩
      have g1 : Good B len (adv B len st) := adv_g st.2.2.2.1 st.2.2.2.2 g.2.1 (by have := g.1; have := g.2.2.2.2.2.1; omega)
      have as := adv_s (B := B) (st := st) g.2.1
      refine gv_n (hR τ1 (adv B len st) h1 g1) ?_
      intro r τ2 ⟨hp, f2⟩
      have f12 := f1.t f2
      rcases hp with ⟨q1, q2, q3⟩ | ⟨q1, q2, q3⟩
      · subst q2
        rw [if_pos q1]
        obtain ⟨e1, e2, e3, e4⟩ := hg (adv B len st) g1 q1
        have e3' : (Q (adv B len st)).2.2.2.2.1.length + (adv B len st).1 ≤ st.2.2.2.1.length + (Q (adv B len st)).2.1 := e3
        have hs := g.2.2.2.1 (by omega)
        have g6 := g.2.2.2.2.2.1
        have hl := h.1.2.1
        have a1 := e1.1
        have a2 := e1.2.1
        refine gv_v (c_sign q3 (by omega) (B st.1)) ?_
        intro _ τ3 ⟨h3, f3⟩
        rw [nI_1]
        refine gv_w (ih (i + 1) m' τ3 _ (by omega) (by omega) h3 ⟨e1.1, e1.2.1, e1.2.2.1, e1.2.2.2.1, e1.2.2.2.2.1, ?_, e1.2.2.2.2.2.2⟩) (fun r ρ hr => PC_t (f12.t f3) hr)
        have el : (emt (Q (adv B len st)).2 (2, B st.1)).2.2.2.1.length = (Q (adv B len st)).2.2.2.2.1.length + 1 := by simp [emt]
        rw [el]; show _ ≤ (Q (adv B len st)).2.1; omega
      · subst q2
        rw [if_neg (by rw [q1]; decide)]
        refine gv_v (c_signf q3 (B st.1)) ?_
        intro _ τ3 ⟨h3, f3⟩
        rw [nI_1]
        obtain ⟨m2, rfl⟩ : ∃ m2, m' = m2 + 1 := ⟨m' - 1, by omega⟩
        have e0 : s_X3_readSum_10 R (m2 + 1) τ3 x1 x2 0 (nI (i + 1)) = some (0, τ3) := by
          simp only [s_X3_readSum_10, ↓reduceIte, true_or, ite_self]
        rw [e0]
        exact gv_i ⟨.inr ⟨rfl, rfl, h3⟩, f12.t f3⟩
    by_cases ck : st.2.2.1 = 3 ∧ S2 (B st.1) = true
    · rw [if_pos ck]
      have : (st.2.2.1 = 3 ∧ B st.1 = 43) ∨ (st.2.2.1 = 3 ∧ B st.1 = 45) := by
        have h2 := ck.2
        simp only [S2, Bool.or_eq_true, beq_iff_eq] at h2
        rcases h2 with h2 | h2
        · exact .inl ⟨ck.1, h2⟩
        · exact .inr ⟨ck.1, h2⟩
      rcases this with c1 | c1
      · rw [if_pos c1]; exact key ck
      · by_cases c0 : st.2.2.1 = 3 ∧ B st.1 = 43
        · rw [if_pos c0]; exact key ck
        · rw [if_neg c0, if_pos c1]; exact key ck
    · rw [if_neg ck]
      have n1 : ¬ (st.2.2.1 = 3 ∧ B st.1 = 43) := fun e => ck ⟨e.1, by rw [e.2]; rfl⟩
      have n2 : ¬ (st.2.2.1 = 3 ∧ B st.1 = 45) := fun e => ck ⟨e.1, by rw [e.2]; rfl⟩
      rw [if_neg n1, if_neg n2]
      exact gv_i ⟨.inl ⟨rfl, rfl, h⟩, FR.r τ⟩
theorem c_sum {R : Sg → Int32 → Int32 → RO} {x1 x2 : Int32} {Q : ST → PR} (hg : PG B len key Q) (hR : CSim B len key (fun τ => R τ x1 x2) Q) : CSim B len key (fun τ => s_X3_readSum R τ x1 x2) (pSum B len Q) := by
  intro τ st h g
  show Gv (s_X3_readSum R τ x1 x2) (PC B len key (pBin B len (pTerm B len Q) S2 st) τ)
  unfold s_X3_readSum pBin
  refine gv_n ((c_term hg hR) τ st h g) ?_
  intro r τ1 ⟨hp, f1⟩
  rcases hp with ⟨q1, q2, q3⟩ | ⟨q1, q2, q3⟩
  · subst q2
    rw [if_pos q1]
    exact gv_w (c_sum_l (term_g hg) (c_term hg hR) 96 0 FU τ1 _ (by omega) (by decide) q3 ((term_g hg) st g q1).1) (fun r ρ hr => PC_t f1 hr)
  · subst q2
    rw [if_neg (by rw [q1]; decide)]
    have e0 : s_X3_readSum_10 R FU τ1 x1 x2 0 0 = some (0, τ1) := by
      rw [FU_s]; simp only [s_X3_readSum_10, ↓reduceIte, true_or, ite_self]
    rw [e0]
    exact gv_i ⟨.inr ⟨rfl, rfl, q3⟩, f1⟩
theorem c_test {R : Sg → Int32 → Int32 → RO} {x1 x2 : Int32} {Q : ST → PR} (hg : PG B len key Q) (hR : CSim B len key (fun τ => R τ x1 x2) Q) : CSim B len key (fun τ => s_X3_readTest R τ x1 x2) (pTest B len Q) := by
  intro τ st h g
  show Gv (s_X3_readTest R τ x1 x2) (PC B len key (pOnce B len (pSum B len Q) S3 st) τ)
  unfold s_X3_readTest pOnce
  refine gv_n (c_sum hg hR τ st h g) ?_
  intro r τ1 ⟨hp, f1⟩
  rcases hp with ⟨q1, q2, q3⟩ | ⟨q1, q2, q3⟩
  · subst q2
    rw [if_pos q1]
    have gq := (sum_g hg st g q1).1
    generalize pSum B len Q st = w at *
    simp only [↓reduceIte, show ¬ (1 : Int32) = 0 by decide, or_true, CI_t q3 gq (show (0 : Int32) ≤ 60 by decide), CI_t q3 gq (show (0 : Int32) ≤ 61 by decide), CI_t q3 gq (show (0 : Int32) ≤ 62 by decide)]
    unfold pLoop pLoop
    have key : w.2.2.2.1 = 3 ∧ S3 (B w.2.1) = true → Gv (s_X3_readTest_38 R τ1 x1 x2) (PC B len key (if (pSum B len Q (adv B len w.2)).1 = true then (true, emt (pSum B len Q (adv B len w.2)).2 (2, B w.2.1)) else (false, (pSum B len Q (adv B len w.2)).2)) τ) := by
      intro hk
      have etk : τ1 114 5 = B w.2.1 := by rw [q3.2.1.2.2]; unfold tkC; simp [hk.1]
      unfold s_X3_readTest_38
      rw [etk, lt_e]
      refine gv_v (c_adv q3 gq) ?_
      intro _ τ2 ⟨h2, f2⟩
      have g2 : Good B len (adv B len w.2) := adv_g (st := w.2) w.2.2.2.2.1 w.2.2.2.2.2 gq.2.1 (by have := gq.1; have := gq.2.2.2.2.2.1; omega)
      have as := adv_s (B := B) (st := w.2) gq.2.1
      refine gv_n (c_sum hg hR τ2 (adv B len w.2) h2 g2) ?_
      intro r τ3 ⟨hp, f3⟩
      have f13 := (f1.t f2).t f3
      rcases hp with ⟨u1, u2, u3⟩ | ⟨u1, u2, u3⟩
      · subst u2
        rw [if_pos u1]
        obtain ⟨e1, e2, e3, e4⟩ := sum_g hg (adv B len w.2) g2 u1
        have e3' : (pSum B len Q (adv B len w.2)).2.2.2.2.1.length + (adv B len w.2).1 ≤ w.2.2.2.2.1.length + (pSum B len Q (adv B len w.2)).2.1 := e3
        have hs := gq.2.2.2.1 (by omega)
        have g6 := gq.2.2.2.2.2.1
        have hl := h.1.2.1
        have a1 := e1.1
        have a2 := e1.2.1
        refine gv_v (c_sign u3 (by omega) (B w.2.1)) ?_
        intro _ τ4 ⟨h4, f4⟩
        simp only [or_true, ↓reduceIte]
        exact gv_i ⟨.inl ⟨rfl, rfl, h4⟩, f13.t f4⟩
      · subst u2
        rw [if_neg (by rw [u1]; decide)]
        refine gv_v (c_signf u3 (B w.2.1)) ?_
        intro _ τ4 ⟨h4, f4⟩
        simp only [true_or, ↓reduceIte]
        exact gv_i ⟨.inr ⟨rfl, rfl, h4⟩, f13.t f4⟩
    by_cases ck : w.2.2.2.1 = 3 ∧ S3 (B w.2.1) = true
    · rw [if_pos ck]
      have h2 := ck.2
      simp only [S3, Bool.or_eq_true, beq_iff_eq] at h2
      by_cases c0 : w.2.2.2.1 = 3 ∧ B w.2.1 = 60
      · rw [if_pos c0]; exact key ck
      · rw [if_neg c0]
        by_cases c1 : w.2.2.2.1 = 3 ∧ B w.2.1 = 61
        · rw [if_pos c1]; exact key ck
        · rw [if_neg c1]
          have c2 : w.2.2.2.1 = 3 ∧ B w.2.1 = 62 := by
            rcases h2 with (h2 | h2) | h2
            · exact absurd ⟨ck.1, h2⟩ c0
            · exact absurd ⟨ck.1, h2⟩ c1
            · exact ⟨ck.1, h2⟩
          rw [if_pos c2]; exact key ck
    · rw [if_neg ck]
      have n0 : ¬ (w.2.2.2.1 = 3 ∧ B w.2.1 = 60) := fun e => ck ⟨e.1, by rw [e.2]; rfl⟩
      have n1 : ¬ (w.2.2.2.1 = 3 ∧ B w.2.1 = 61) := fun e => ck ⟨e.1, by rw [e.2]; rfl⟩
      have n2 : ¬ (w.2.2.2.1 = 3 ∧ B w.2.1 = 62) := fun e => ck ⟨e.1, by rw [e.2]; rfl⟩
      rw [if_neg n0, if_neg n1, if_neg n2]
      exact gv_i ⟨.inl ⟨rfl, rfl, q3⟩, f1⟩
  · subst q2
    have nq : ¬ (pSum B len Q st).1 = true := by rw [q1]; decide
    simp only [nq, ↓reduceIte, true_or]
    exact gv_i ⟨.inr ⟨rfl, rfl, q3⟩, f1⟩
theorem c_and_l {R : Sg → Int32 → Int32 → RO} {x1 x2 : Int32} {Q : ST → PR} (hg : PG B len key Q) (hR : CSim B len key (fun τ => s_X3_readTest R τ x1 x2) Q) : ∀ f i m τ st, i + f = 96 → f + 1 < m → CI B len key τ st → Good B len st → Gv (s_X3_readAnd_10 R m τ x1 x2 1 (nI i)) (PC B len key (pLoop B len Q S4 f st) τ) := by
  intro f
  induction f with
  | zero =>
    intro i m τ st hi hm h g
    obtain ⟨m', rfl⟩ : ∃ m', m = m' + 1 := ⟨m - 1, by omega⟩
    have c : (96 : Int32) ≤ nI i := nI_le (a := 96) (by omega) (by omega)
    simp only [s_X3_readAnd_10, c, ↓reduceIte, or_true]
    exact gv_i ⟨.inl ⟨rfl, rfl, h⟩, FR.r τ⟩
  | succ f ih =>
    intro i m τ st hi hm h g
    obtain ⟨m', rfl⟩ : ∃ m', m = m' + 1 := ⟨m - 1, by omega⟩
    have c : ¬ (96 : Int32) ≤ nI i := nI_ge (b := 96) (by omega) (by omega)
    simp only [s_X3_readAnd_10, c, ↓reduceIte, show ¬ (1 : Int32) = 0 by decide, or_true, CI_t h g (show (0 : Int32) ≤ 38 by decide)]
    unfold pLoop
    have key : st.2.2.1 = 3 ∧ S4 (B st.1) = true → Gv (bv (s_X3_advance τ) fun s1 => bn (s_X3_readTest R s1 x1 x2) fun v3 s2 => bv (s_X9_addSign s2 116 38) fun s4 => s_X3_readAnd_10 R m' s4 x1 x2 v3 (nI i + 1)) (PC B len key (if (Q (adv B len st)).1 = true then pLoop B len Q S4 f (emt (Q (adv B len st)).2 (2, B st.1)) else (false, (Q (adv B len st)).2)) τ) := by
      intro hk
      have etk : B st.1 = 38 := by have := hk.2; simp only [S4, beq_iff_eq] at this; exact this
      rw [etk]
      refine gv_v (c_adv h g) ?_
      intro _ τ1 ⟨h1, f1⟩
      have g1 : Good B len (adv B len st) := adv_g st.2.2.2.1 st.2.2.2.2 g.2.1 (by have := g.1; have := g.2.2.2.2.2.1; omega)
      have as := adv_s (B := B) (st := st) g.2.1
      refine gv_n (hR τ1 (adv B len st) h1 g1) ?_
      intro r τ2 ⟨hp, f2⟩
      have f12 := f1.t f2
      rcases hp with ⟨q1, q2, q3⟩ | ⟨q1, q2, q3⟩
      · subst q2
        rw [if_pos q1]
        obtain ⟨e1, e2, e3, e4⟩ := hg (adv B len st) g1 q1
        have e3' : (Q (adv B len st)).2.2.2.2.1.length + (adv B len st).1 ≤ st.2.2.2.1.length + (Q (adv B len st)).2.1 := e3
        have hs := g.2.2.2.1 (by omega)
        have g6 := g.2.2.2.2.2.1
        have hl := h.1.2.1
        have a1 := e1.1
        have a2 := e1.2.1
        refine gv_v (c_sign q3 (by omega) 38) ?_
        intro _ τ3 ⟨h3, f3⟩
        rw [nI_1]
        refine gv_w (ih (i + 1) m' τ3 _ (by omega) (by omega) h3 ⟨e1.1, e1.2.1, e1.2.2.1, e1.2.2.2.1, e1.2.2.2.2.1, ?_, e1.2.2.2.2.2.2⟩) (fun r ρ hr => PC_t (f12.t f3) hr)
        have el : (emt (Q (adv B len st)).2 (2, 38)).2.2.2.1.length = (Q (adv B len st)).2.2.2.2.1.length + 1 := by simp [emt]
        rw [el]; show _ ≤ (Q (adv B len st)).2.1; omega
      · subst q2
        rw [if_neg (by rw [q1]; decide)]
        refine gv_v (c_signf q3 38) ?_
        intro _ τ3 ⟨h3, f3⟩
        rw [nI_1]
        obtain ⟨m2, rfl⟩ : ∃ m2, m' = m2 + 1 := ⟨m' - 1, by omega⟩
        have e0 : s_X3_readAnd_10 R (m2 + 1) τ3 x1 x2 0 (nI (i + 1)) = some (0, τ3) := by
          simp only [s_X3_readAnd_10, ↓reduceIte, true_or, ite_self]
        rw [e0]
        exact gv_i ⟨.inr ⟨rfl, rfl, h3⟩, f12.t f3⟩
    by_cases ck : st.2.2.1 = 3 ∧ S4 (B st.1) = true
    · rw [if_pos ck]
      have c1 : st.2.2.1 = 3 ∧ B st.1 = 38 := ⟨ck.1, by have := ck.2; simp only [S4, beq_iff_eq] at this; exact this⟩
      rw [if_pos c1]; exact key ck
    · rw [if_neg ck]
      have n1 : ¬ (st.2.2.1 = 3 ∧ B st.1 = 38) := fun e => ck ⟨e.1, by rw [e.2]; rfl⟩
      rw [if_neg n1]
      exact gv_i ⟨.inl ⟨rfl, rfl, h⟩, FR.r τ⟩
theorem c_and {R : Sg → Int32 → Int32 → RO} {x1 x2 : Int32} {Q : ST → PR} (hg : PG B len key Q) (hR : CSim B len key (fun τ => R τ x1 x2) Q) : CSim B len key (fun τ => s_X3_readAnd R τ x1 x2) (pAnd B len Q) := by
  intro τ st h g
  show Gv (s_X3_readAnd R τ x1 x2) (PC B len key (pBin B len (pTest B len Q) S4 st) τ)
  unfold s_X3_readAnd pBin
  refine gv_n ((c_test hg hR) τ st h g) ?_
  intro r τ1 ⟨hp, f1⟩
  rcases hp with ⟨q1, q2, q3⟩ | ⟨q1, q2, q3⟩
  · subst q2
    rw [if_pos q1]
    exact gv_w (c_and_l (test_g hg) (c_test hg hR) 96 0 FU τ1 _ (by omega) (by decide) q3 ((test_g hg) st g q1).1) (fun r ρ hr => PC_t f1 hr)
  · subst q2
    rw [if_neg (by rw [q1]; decide)]
    have e0 : s_X3_readAnd_10 R FU τ1 x1 x2 0 0 = some (0, τ1) := by
      rw [FU_s]; simp only [s_X3_readAnd_10, ↓reduceIte, true_or, ite_self]
    rw [e0]
    exact gv_i ⟨.inr ⟨rfl, rfl, q3⟩, f1⟩
theorem c_or_l {R : Sg → Int32 → Int32 → RO} {x1 x2 : Int32} {Q : ST → PR} (hg : PG B len key Q) (hR : CSim B len key (fun τ => s_X3_readAnd R τ x1 x2) Q) : ∀ f i m τ st, i + f = 96 → f + 1 < m → CI B len key τ st → Good B len st → Gv (s_X3_readOr_10 R m τ x1 x2 1 (nI i)) (PC B len key (pLoop B len Q S5 f st) τ) := by
  intro f
  induction f with
  | zero =>
    intro i m τ st hi hm h g
    obtain ⟨m', rfl⟩ : ∃ m', m = m' + 1 := ⟨m - 1, by omega⟩
    have c : (96 : Int32) ≤ nI i := nI_le (a := 96) (by omega) (by omega)
    simp only [s_X3_readOr_10, c, ↓reduceIte, or_true]
    exact gv_i ⟨.inl ⟨rfl, rfl, h⟩, FR.r τ⟩
  | succ f ih =>
    intro i m τ st hi hm h g
    obtain ⟨m', rfl⟩ : ∃ m', m = m' + 1 := ⟨m - 1, by omega⟩
    have c : ¬ (96 : Int32) ≤ nI i := nI_ge (b := 96) (by omega) (by omega)
    simp only [s_X3_readOr_10, c, ↓reduceIte, show ¬ (1 : Int32) = 0 by decide, or_true, CI_t h g (show (0 : Int32) ≤ 124 by decide)]
    unfold pLoop
    have key : st.2.2.1 = 3 ∧ S5 (B st.1) = true → Gv (bv (s_X3_advance τ) fun s1 => bn (s_X3_readAnd R s1 x1 x2) fun v3 s2 => bv (s_X9_addSign s2 116 124) fun s4 => s_X3_readOr_10 R m' s4 x1 x2 v3 (nI i + 1)) (PC B len key (if (Q (adv B len st)).1 = true then pLoop B len Q S5 f (emt (Q (adv B len st)).2 (2, B st.1)) else (false, (Q (adv B len st)).2)) τ) := by
      intro hk
      have etk : B st.1 = 124 := by have := hk.2; simp only [S5, beq_iff_eq] at this; exact this
      rw [etk]
      refine gv_v (c_adv h g) ?_
      intro _ τ1 ⟨h1, f1⟩
      have g1 : Good B len (adv B len st) := adv_g st.2.2.2.1 st.2.2.2.2 g.2.1 (by have := g.1; have := g.2.2.2.2.2.1; omega)
      have as := adv_s (B := B) (st := st) g.2.1
      refine gv_n (hR τ1 (adv B len st) h1 g1) ?_
      intro r τ2 ⟨hp, f2⟩
      have f12 := f1.t f2
      rcases hp with ⟨q1, q2, q3⟩ | ⟨q1, q2, q3⟩
      · subst q2
        rw [if_pos q1]
        obtain ⟨e1, e2, e3, e4⟩ := hg (adv B len st) g1 q1
        have e3' : (Q (adv B len st)).2.2.2.2.1.length + (adv B len st).1 ≤ st.2.2.2.1.length + (Q (adv B len st)).2.1 := e3
        have hs := g.2.2.2.1 (by omega)
        have g6 := g.2.2.2.2.2.1
        have hl := h.1.2.1
        have a1 := e1.1
        have a2 := e1.2.1
        refine gv_v (c_sign q3 (by omega) 124) ?_
        intro _ τ3 ⟨h3, f3⟩
        rw [nI_1]
        refine gv_w (ih (i + 1) m' τ3 _ (by omega) (by omega) h3 ⟨e1.1, e1.2.1, e1.2.2.1, e1.2.2.2.1, e1.2.2.2.2.1, ?_, e1.2.2.2.2.2.2⟩) (fun r ρ hr => PC_t (f12.t f3) hr)
        have el : (emt (Q (adv B len st)).2 (2, 124)).2.2.2.1.length = (Q (adv B len st)).2.2.2.2.1.length + 1 := by simp [emt]
        rw [el]; show _ ≤ (Q (adv B len st)).2.1; omega
      · subst q2
        rw [if_neg (by rw [q1]; decide)]
        refine gv_v (c_signf q3 124) ?_
        intro _ τ3 ⟨h3, f3⟩
        rw [nI_1]
        obtain ⟨m2, rfl⟩ : ∃ m2, m' = m2 + 1 := ⟨m' - 1, by omega⟩
        have e0 : s_X3_readOr_10 R (m2 + 1) τ3 x1 x2 0 (nI (i + 1)) = some (0, τ3) := by
          simp only [s_X3_readOr_10, ↓reduceIte, true_or, ite_self]
        rw [e0]
        exact gv_i ⟨.inr ⟨rfl, rfl, h3⟩, f12.t f3⟩
    by_cases ck : st.2.2.1 = 3 ∧ S5 (B st.1) = true
    · rw [if_pos ck]
      have c1 : st.2.2.1 = 3 ∧ B st.1 = 124 := ⟨ck.1, by have := ck.2; simp only [S5, beq_iff_eq] at this; exact this⟩
      rw [if_pos c1]; exact key ck
    · rw [if_neg ck]
      have n1 : ¬ (st.2.2.1 = 3 ∧ B st.1 = 124) := fun e => ck ⟨e.1, by rw [e.2]; rfl⟩
      rw [if_neg n1]
      exact gv_i ⟨.inl ⟨rfl, rfl, h⟩, FR.r τ⟩
theorem c_or {R : Sg → Int32 → Int32 → RO} {x1 x2 : Int32} {Q : ST → PR} (hg : PG B len key Q) (hR : CSim B len key (fun τ => R τ x1 x2) Q) : CSim B len key (fun τ => s_X3_readOr R τ x1 x2) (pOr B len Q) := by
  intro τ st h g
  show Gv (s_X3_readOr R τ x1 x2) (PC B len key (pBin B len (pAnd B len Q) S5 st) τ)
  unfold s_X3_readOr pBin
  refine gv_n ((c_and hg hR) τ st h g) ?_
  intro r τ1 ⟨hp, f1⟩
  rcases hp with ⟨q1, q2, q3⟩ | ⟨q1, q2, q3⟩
  · subst q2
    rw [if_pos q1]
    exact gv_w (c_or_l (and_g hg) (c_and hg hR) 96 0 FU τ1 _ (by omega) (by decide) q3 ((and_g hg) st g q1).1) (fun r ρ hr => PC_t f1 hr)
  · subst q2
    rw [if_neg (by rw [q1]; decide)]
    have e0 : s_X3_readOr_10 R FU τ1 x1 x2 0 0 = some (0, τ1) := by
      rw [FU_s]; simp only [s_X3_readOr_10, ↓reduceIte, true_or, ite_self]
    rw [e0]
    exact gv_i ⟨.inr ⟨rfl, rfl, q3⟩, f1⟩
end csim
