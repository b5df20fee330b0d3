theorem x0_take (σ : Sg) {d e : Nat} (h : d ≠ e) : Gv (s_X0_takeFrom σ d e) (fun _ τ => (∀ k, k < 10 → τ d k = σ e k) ∧ ∀ c, c ≠ d → τ c = σ c) := by
  unfold s_X0_takeFrom
  have h' : e ≠ d := fun x => h x.symm
  simp only [lt_e, up_d h']
  refine gv_i ⟨?_, ?_⟩
  · intro k hk
    have : k = 0 ∨ k = 1 ∨ k = 2 ∨ k = 3 ∨ k = 4 ∨ k = 5 ∨ k = 6 ∨ k = 7 ∨ k = 8 ∨ k = 9 := by omega
    rcases this with rfl | rfl | rfl | rfl | rfl | rfl | rfl | rfl | rfl | rfl <;> simp [up]
  · intro c hc
    rw [up_d hc, up_d hc, up_d hc, up_d hc, up_d hc, up_d hc, up_d hc, up_d hc, up_d hc, up_d hc]
theorem ck8 : (cpk 0 0 8 8 8 = true) = True := by decide
theorem ck5 : (cpk 0 0 5 5 5 = true) = True := by decide
theorem ck10 : (cpk 0 0 10 10 10 = true) = True := by decide
theorem k5c : (5 : Int32).toNatClampNeg = 5 := by decide
theorem k8c : (8 : Int32).toNatClampNeg = 8 := by decide
theorem k10c : (10 : Int32).toNatClampNeg = 10 := by decide
theorem FL_d {b c : Nat} (hb : FL b) (hc : FL c) (h : b ≠ c) : c + 18 ≤ b ∨ b + 18 ≤ c := by
  unfold FL at hb hc; omega
theorem RF_f {σ τ : Sg} {b c : Nat} {A : Nat → Int32} (hb : FL b) (hc : FL c) (hn : b ≠ c) (n8 : nB A ≤ 8) (h : RF σ c A) (f : FB b σ τ) : RF τ c A :=
  RF_c h n8 (fun d h1 h2 _ => f d (by have := FL_d hb hc hn; omega))
theorem x1_take {σ : Sg} {b c : Nat} {A : Nat → Int32} (hb : FL b) (hc : FL c) (hn : b ≠ c) (hw : WF A) (h : RF σ c A) : Gv (s_X1_takeFrom σ b c) (fun _ τ => RF τ b A ∧ FB b σ τ) := by
  have n8 := hw.n8
  have n10 := hw.nn10
  have fd := FL_d hb hc hn
  unfold s_X1_takeFrom
  simp only [lt_e, h.1.n, hw.n]
  refine gv_loop0 (fun m i τ => s_X1_takeFrom_10 m τ b c (nI i)) (nB A) (fun i τ => τ b 1 = nI (nB A) ∧ (∀ j, j < i → BR τ (b + 10 + j) A (20 + 6 * j)) ∧ FB b σ τ) (by omega) ⟨by rw [up_f, ua_s], fun j hj => absurd hj (by omega), FB_u (by omega) (by omega)⟩ ?_ ?_
  · intro m i τ hi ⟨r1, r2, r3⟩
    have hT := RF_f hb hc hn n8 h r3
    obtain ⟨r, τ', e, q1, q2⟩ := x0_take τ (d := b + 10 + i) (e := c + 10 + i) (by omega)
    refine ⟨τ', ?_, ?_, ?_, ?_⟩
    · simp only [s_X1_takeFrom_10]
      simp (disch := omega) only [r1, le_F, ↓reduceIte, FK hb, FK hc, inb_n, cl_nI, rtb hb, rtb hc, e, bv_some, nI_1]
    · rw [q2 b (by omega)]; exact r1
    · intro j hj
      by_cases q : j = i
      · subst q
        have := hT.1.br hi
        exact ⟨fun k hk => by rw [q1 k (by omega)]; exact this.1 k hk, by rw [q1 6 (by omega)]; exact this.2.1, by rw [q1 7 (by omega)]; exact this.2.2⟩
      · exact BR_c (r2 j (by omega)) (fun k _ => by rw [q2 _ (by omega)])
    · exact r3.t (fun d hd => q2 d (by omega))
  · intro m τ ⟨r1, r2, r3⟩
    have hT := RF_f hb hc hn n8 h r3
    simp only [s_X1_takeFrom_10]
    simp (disch := omega) only [r1, le_T, ↓reduceIte, FK hb, FK hc, ck8, ck5, ck10, k0c, k8c, k5c, k10c, lt_e]
    refine gv_v (set_B (σ := σ) (B := A) hb hw ?_ ?_) (fun _ ρ k => gv_i k)
    · refine ⟨⟨?_, ?_, ?_⟩, ?_, ?_, ?_, ?_⟩
      · rw [up_f, ua_n (by omega), up_f, ua_n (by omega), cpy_d (by omega), cpy_d (by omega), cpy_d (by omega), cpy_d (by omega), cpy_d (by omega), r1, hw.n]
      · rw [up_f, ua_n (by omega), up_f, ua_s, cpy_d (by omega), cpy_d (by omega), cpy_d (by omega), cpy_d (by omega), cpy_d (by omega)]
        exact hT.1.nets
      · rw [up_f, ua_s, up_d (by omega), cpy_d (by omega), cpy_d (by omega), cpy_d (by omega), cpy_d (by omega), cpy_d (by omega)]
        exact hT.1.z
      · intro i hi
        refine BR_c (r2 i hi) (fun k _ => ?_)
        rw [up_d (by omega), up_d (by omega), cpy_d (by omega), cpy_d (by omega), cpy_d (by omega), cpy_d (by omega), cpy_d (by omega)]
      · intro i hi
        constructor
        · rw [up_d (by omega), up_d (by omega), cpy_d (by omega), cpy_d (by omega), cpy_d (by omega), cpy_d (by omega), cpy_f, ub0 (by omega)]
          exact hT.1.one hi
        · rw [up_d (by omega), up_d (by omega), cpy_d (by omega), cpy_d (by omega), cpy_d (by omega), cpy_f, ub0 (by omega), cpy_d (by omega)]
          exact hT.1.oth hi
      · intro k hk
        rw [up_d (by omega), up_d (by omega), cpy_d (by omega), cpy_d (by omega), cpy_f, ub0 (by omega), cpy_d (by omega), cpy_d (by omega)]
        exact hT.1.rul hk
      · intro j hj
        constructor
        · rw [up_d (by omega), up_d (by omega), cpy_d (by omega), cpy_f, ub0 (by omega), cpy_d (by omega), cpy_d (by omega), cpy_d (by omega)]
          exact hT.1.set hj
        · rw [up_d (by omega), up_d (by omega), cpy_f, ub0 (by omega), cpy_d (by omega), cpy_d (by omega), cpy_d (by omega), cpy_d (by omega)]
          exact hT.1.wgt hj
    · refine r3.t ?_
      intro d hd
      rw [up_d (by omega), up_d (by omega), cpy_d (by omega), cpy_d (by omega), cpy_d (by omega), cpy_d (by omega), cpy_d (by omega)]
/- a walk -/
def walkA (A : Nat → Int32) (heat : Int32) (n : Nat) : Nat → Int32 := itr (fun _ B => stepA B heat) n 0 A
theorem walk_s (A : Nat → Int32) (heat : Int32) (n : Nat) : walkA A heat (n + 1) = stepA (walkA A heat n) heat := itr_0 _ _ _
theorem walk_w {A : Nat → Int32} (hw : WF A) (hn : 0 < nB A) (heat : Int32) : ∀ n, WF (walkA A heat n) ∧ nB (walkA A heat n) = nB A := by
  intro n
  induction n with
  | zero => exact ⟨hw, rfl⟩
  | succ n ih =>
    rw [walk_s]
    have := WF_step ih.1 (by omega) heat
    exact ⟨this.1, this.2.trans ih.2⟩
theorem x10_walk62 {σ : Sg} {A : Nat → Int32} (hw : WF A) (hn : 0 < nB A) (h : RF σ 2 A) (heat : Int32) {n : Nat} (h200 : n ≤ 200) : Gv (s_X10_walk_62 FU σ (nI n) heat (priceA A) 0) (fun r τ => r = priceA (walkA A heat n) ∧ RF τ 2 (walkA A heat n) ∧ FB 2 σ τ) := by
  refine gv_loop0 (fun m i (a : Int32 × Sg) => s_X10_walk_62 m a.2 (nI n) heat a.1 (nI i)) n (fun i a => a.1 = priceA (walkA A heat i) ∧ RF a.2 2 (walkA A heat i) ∧ FB 2 σ a.2) (a := (priceA A, σ)) (by omega) ⟨rfl, h, FB.r 2 σ⟩ ?_ ?_
  · intro m i ⟨x, τ⟩ hi ⟨r1, r2, r3⟩
    have r1 : x = priceA (walkA A heat i) := r1
    have r2 : RF τ 2 (walkA A heat i) := r2
    subst r1
    obtain ⟨w1, w2⟩ := walk_w hw hn heat i
    obtain ⟨r, τ', e, q1, q2, q3⟩ := x1_step (.inl rfl) w1 r2 (by omega) heat
    refine ⟨(r, τ'), ?_, ?_, ?_, r3.t q3⟩
    · show s_X10_walk_62 (m + 1) τ (nI n) heat (priceA (walkA A heat i)) (nI i) = _
      simp only [s_X10_walk_62]
      simp (disch := omega) only [le_F, ↓reduceIte, e, bn_some, nI_1]
    · rw [walk_s]; exact q1
    · rw [walk_s]; exact q2
  · intro m ⟨x, τ⟩ ⟨r1, r2, r3⟩
    show Gv (s_X10_walk_62 (m + 1) τ (nI n) heat x (nI n)) _
    simp only [s_X10_walk_62]
    simp (disch := omega) only [le_T, ↓reduceIte]
    exact gv_i ⟨r1, r2, r3⟩
theorem m_walk41 {σ : Sg} {A : Nat → Int32} (hw : WF A) (hn : 0 < nB A) (hA : σ 151 = A) (heat : Int32) {n : Nat} (h200 : n ≤ 200) : Gv (s_X11_walk_41 FU σ (nI n) heat 0) (fun r τ => r = priceA (walkA A heat n) ∧ τ 151 = walkA A heat n ∧ τ 150 5 = 0 ∧ (∀ c, c ≠ 150 → c ≠ 151 → c ≠ 163 → c ≠ 164 → c ≠ 165 → c ≠ 166 → c ≠ 168 → c ≠ 169 → τ c = σ c) ∧ ∀ j, j ≠ 5 → j ≠ 17 → j ≠ 18 → j ≠ 20 → j ≠ 21 → τ 150 j = σ 150 j) := by
  refine gv_loop0 (fun m i τ => s_X11_walk_41 m τ (nI n) heat (nI i)) n (fun i τ => τ 151 = walkA A heat i ∧ FT σ τ) (by omega) ⟨hA, FT.r σ⟩ ?_ ?_
  · intro m i τ hi ⟨r1, r2⟩
    obtain ⟨w1, w2⟩ := walk_w hw hn heat i
    obtain ⟨r, τ', e, q1, q2⟩ := m_step w1 r1 (by omega) heat
    refine ⟨τ', ?_, ?_, r2.t q2⟩
    · simp only [s_X11_walk_41]
      simp (disch := omega) only [le_F, ↓reduceIte, e, bv_some, nI_1]
    · rw [walk_s]; exact q1
  · intro m τ ⟨r1, r2⟩
    obtain ⟨w1, w2⟩ := walk_w hw hn heat n
    simp only [s_X11_walk_41]
    simp (disch := omega) only [le_T, ↓reduceIte, lt_e]
    refine gv_n (m_price w1 (σ := up τ 150 5 0) (by rw [up_d (by omega)]; exact r1)) ?_
    intro r ρ ⟨e, f, p⟩
    have f := f.fs
    refine gv_i ⟨e, ?_, ?_, ?_, ?_⟩
    · rw [f.s, up_d (by omega)]; exact r1
    · rw [f.2 5 (by omega) (by omega) (by omega) (by omega), up_f, ua_s]
    · intro c h1 h2 h3 h4 h5 h6 h7 h8
      rw [f.1 c h1 h3 h4 h5 h6 h7 h8, up_d h1]; exact r2.1 c h1 h2 h3 h4 h5 h6 h7 h8
    · intro j h1 h2 h3 h4 h5
      rw [f.2 j h2 h3 h4 h5, up_f, ua_n h1]; exact r2.2 j h2 h3 h4 h5
