theorem tI0 : (nI 0).toInt = 0 := by decide
theorem tI1 : (nI 1).toInt = 1 := by decide
theorem tI2 : (nI 2).toInt = 2 := by decide
theorem tI3 : (nI 3).toInt = 3 := by decide
theorem tI4 : (nI 4).toInt = 4 := by decide
theorem x10_swap (σ : Sg) {c p q : Nat} (hc : aln 0 c = 8) (hp : p < 8) (hq : q < 8) : s_X10_swap σ c (nI p) (nI q) = some (0, up (up σ c p (σ c q)) c q (σ c p)) := by
  unfold s_X10_swap
  simp (disch := omega) only [hc, inb_n, cl_nI, ↓reduceIte, lt_e]
theorem x0_drawAs (σ : Sg) (c : Nat) (x : Int32) (h : VB (σ c 0) (σ c 1) (σ c 2) x) : s_X0_drawAs σ c x = some (0, up (up (up σ c 5 x) c 6 (wdI (σ c 0) (σ c 1) (σ c 2) x)) c 7 (htI (σ c 0) (σ c 1) (σ c 2) x)) := by
  unfold s_X0_drawAs
  have f : ∀ k, k < 3 → up σ c 5 x c k = σ c k := fun k hk => by rw [up_f, ua_n (by omega)]
  have g : ∀ v k, k < 3 → up (up σ c 5 x) c 6 v c k = σ c k := fun v k hk => by rw [up_f, ua_n (by omega), up_f, ua_n (by omega)]
  rw [lt_e, x0_wideIn _ c x (by rw [f 0 (by omega), f 1 (by omega), f 2 (by omega)]; exact h), bn_some, lt_e, x0_highIn _ c x (by rw [g _ 0 (by omega), g _ 1 (by omega), g _ 2 (by omega)]; exact h), bn_some, lt_e]
  rw [f 0 (by omega), f 1 (by omega), f 2 (by omega), g _ 0 (by omega), g _ 1 (by omega), g _ 2 (by omega)]
section mc
variable {σ : Sg} {b : Nat} {A B : Nat → Int32}
theorem RU_r {τ : Sg} (h : RU σ b A) (hw : WF A) (hB : ∀ j, j < 70 ∨ 86 ≤ j → B j = A j) (e : ∀ c, b ≤ c → c < b + 18 → c ≠ b + 2 → c ≠ b + 3 → τ c = σ c) (e2 : ∀ i, i < nB A → τ (b + 2) i = B (70 + i) ∧ τ (b + 3) i = B (78 + i)) : RU τ b B := by
  have n8 := hw.n8
  have n10 := hw.nn10
  have en : nB B = nB A := by unfold nB; rw [hB 0 (by omega)]
  have em : nN B = nN A := by unfold nN; rw [hB 1 (by omega)]
  refine ⟨⟨?_, ?_, ?_⟩, ?_, ?_, ?_, ?_⟩
  · rw [e b (by omega) (by omega) (by omega) (by omega), hB 0 (by omega)]; exact h.n
  · rw [e b (by omega) (by omega) (by omega) (by omega), hB 1 (by omega)]; exact h.nets
  · rw [e b (by omega) (by omega) (by omega) (by omega), hB 4 (by omega)]; exact h.z
  · intro i hi
    rw [en] at hi
    have := h.br hi
    unfold BR at this ⊢
    rw [e (b + 10 + i) (by omega) (by omega) (by omega) (by omega), hB (20 + 6 * i) (by omega), hB (20 + 6 * i + 1) (by omega), hB (20 + 6 * i + 2) (by omega), hB (20 + 6 * i + 5) (by omega)]
    exact ⟨fun k hk => by rw [hB (20 + 6 * i + k) (by omega)]; exact this.1 k hk, this.2⟩
  · intro i hi; rw [en] at hi; exact e2 i hi
  · intro k hk; rw [e (b + 7) (by omega) (by omega) (by omega) (by omega), hB (5 + k) (by omega)]; exact h.rul hk
  · intro j hj
    rw [em] at hj
    rw [e (b + 8) (by omega) (by omega) (by omega) (by omega), e (b + 9) (by omega) (by omega) (by omega) (by omega), hB (90 + 2 * j) (by omega), hB (90 + 2 * j + 1) (by omega)]
    exact h.2.2.2.2 j hj
theorem RU_b {τ : Sg} {p : Nat} (h : RU σ b A) (hw : WF A) (hp : p < nB A) (hB : ∀ j, j < 20 + 6 * p ∨ 26 + 6 * p ≤ j → B j = A j) (e : ∀ c, b ≤ c → c < b + 18 → c ≠ b + 10 + p → τ c = σ c) (e2 : BR τ (b + 10 + p) B (20 + 6 * p)) : RU τ b B := by
  have n8 := hw.n8
  have n10 := hw.nn10
  have en : nB B = nB A := by unfold nB; rw [hB 0 (by omega)]
  have em : nN B = nN A := by unfold nN; rw [hB 1 (by omega)]
  refine ⟨⟨?_, ?_, ?_⟩, ?_, ?_, ?_, ?_⟩
  · rw [e b (by omega) (by omega) (by omega), hB 0 (by omega)]; exact h.n
  · rw [e b (by omega) (by omega) (by omega), hB 1 (by omega)]; exact h.nets
  · rw [e b (by omega) (by omega) (by omega), hB 4 (by omega)]; exact h.z
  · intro i hi
    rw [en] at hi
    by_cases q : i = p
    · subst q; exact e2
    · have := h.br hi
      unfold BR at this ⊢
      rw [e (b + 10 + i) (by omega) (by omega) (by omega), hB (20 + 6 * i) (by omega), hB (20 + 6 * i + 1) (by omega), hB (20 + 6 * i + 2) (by omega), hB (20 + 6 * i + 5) (by omega)]
      exact ⟨fun k hk => by rw [hB (20 + 6 * i + k) (by omega)]; exact this.1 k hk, this.2⟩
  · intro i hi
    rw [en] at hi
    rw [e (b + 2) (by omega) (by omega) (by omega), e (b + 3) (by omega) (by omega) (by omega), hB (70 + i) (by omega), hB (78 + i) (by omega)]
    exact h.2.2.1 i hi
  · intro k hk; rw [e (b + 7) (by omega) (by omega) (by omega), hB (5 + k) (by omega)]; exact h.rul hk
  · intro j hj
    rw [em] at hj
    rw [e (b + 8) (by omega) (by omega) (by omega), e (b + 9) (by omega) (by omega) (by omega), hB (90 + 2 * j) (by omega), hB (90 + 2 * j + 1) (by omega)]
    exact h.2.2.2.2 j hj
/-- what a settling leaves -/
def FB (b : Nat) (σ τ : Sg) : Prop := ∀ c, c < b ∨ b + 18 ≤ c → τ c = σ c
theorem FB.r (b : Nat) (σ : Sg) : FB b σ σ := fun _ _ => rfl
theorem FB.t {σ τ ρ : Sg} (h : FB b σ τ) (k : FB b τ ρ) : FB b σ ρ := fun c hc => (k c hc).trans (h c hc)
theorem FB_u {σ : Sg} {c k : Nat} {v : Int32} (h : b ≤ c) (h2 : c < b + 18) : FB b σ (up σ c k v) := fun d hd => up_d (by omega)
theorem set_B {τ : Sg} (hb : FL b) (hw : WF B) (h : RU τ b B) (f : FB b σ τ) : Gv (s_X1_settle τ b) (fun _ ρ => RF ρ b B ∧ FB b σ ρ) :=
  gv_w (settle_e hb hw h) (fun _ _ q => ⟨q.1, f.t q.2⟩)
theorem x1_draw (hb : FL b) (hw : WF A) (h : RU σ b A) {p : Nat} (hp : p < nB A) {v : Int32} (hv : VB (A (20 + 6 * p)) (A (20 + 6 * p + 1)) (A (20 + 6 * p + 2)) v) : Gv (s_X0_drawAs σ (b + 10 + p) v) (fun _ τ => RU τ b (ua A (20 + 6 * p + 5) v) ∧ FB b σ τ) := by
  have n8 := hw.n8
  have e0 : σ (b + 10 + p) 0 = A (20 + 6 * p) := h.f hp (k := 0) (by omega)
  have e1 : σ (b + 10 + p) 1 = A (20 + 6 * p + 1) := h.f hp (k := 1) (by omega)
  have e2 : σ (b + 10 + p) 2 = A (20 + 6 * p + 2) := h.f hp (k := 2) (by omega)
  rw [x0_drawAs σ (b + 10 + p) v (by rw [e0, e1, e2]; exact hv), e0, e1, e2]
  refine gv_i ⟨RU_b h hw hp (fun j hj => ua_n (by omega)) (fun c h1 h2 h3 => by rw [up_d h3, up_d h3, up_d h3]) ?_, ?_⟩
  · refine ⟨fun k hk => ?_, ?_, ?_⟩
    · rw [up_f, ua_n (by omega), up_f, ua_n (by omega), up_f]
      by_cases q : k = 5
      · subst q; rw [ua_s, ua_s]
      · rw [ua_n q, ua_n (by omega)]; exact h.f hp hk
    · rw [up_f, ua_n (by omega), up_f, ua_s, ua_s, ua_n (by omega), ua_n (by omega), ua_n (by omega)]
    · rw [up_f, ua_s, ua_s, ua_n (by omega), ua_n (by omega), ua_n (by omega)]
  · intro c hc
    rw [up_d (by omega), up_d (by omega), up_d (by omega)]
theorem x1_doMove (hb : FL b) (hw : WF A) (h : RF σ b A) {m p q : Nat} {x : Int32} (hm : m < 5) (hp : p < nB A) (hq : m ≤ 2 → q < nB A ∧ x = nI q) : Gv (s_X1_doMove σ b (nI m) (nI p) x) (fun _ τ => RF τ b (mvA A m p q) ∧ FB b σ τ) := by
  have n8 := hw.n8
  have hwm : WF (mvA A m p q) := WF_mv hw hp (fun h => (hq h).1)
  unfold s_X1_doMove
  have : m = 0 ∨ m = 1 ∨ m = 2 ∨ m = 3 ∨ m = 4 := by omega
  rcases this with rfl | rfl | rfl | rfl | rfl
  · obtain ⟨hq', rfl⟩ := hq (by omega)
    clear hq
    have hq := hq'
    have eB : mvA A 0 p q = sw A 70 p q := by simp [mvA]
    rw [eB] at hwm ⊢
    simp only [tI0, ↓reduceIte, FK hb]
    rw [x10_swap σ (FK hb).2.2.1 (by omega) (by omega), bv_some]
    refine gv_v (set_B (σ := σ) hb hwm (RU_r h.1 hw (fun j hj => sw_o (by omega) (by omega)) (fun c h1 h2 h3 h4 => by rw [up_d h3, up_d h3]) ?_) (fun c hc => by rw [up_d (by omega), up_d (by omega)])) (fun _ τ k => gv_i k)
    intro i hi
    constructor
    · rw [up_f, up_f, sw_tr]
      unfold tr
      by_cases c1 : i = q
      · subst c1; rw [ua_s, if_pos rfl, h.1.one hp]
      · rw [ua_n c1, if_neg c1]
        by_cases c2 : i = p
        · subst c2; rw [ua_s, if_pos rfl, h.1.one hq]
        · rw [ua_n c2, if_neg c2, h.1.one hi]
    · rw [up_d (by omega), up_d (by omega), sw_o (by omega) (by omega), h.1.oth hi]
  · obtain ⟨hq', rfl⟩ := hq (by omega)
    clear hq
    have hq := hq'
    have eB : mvA A 1 p q = sw A 78 p q := by simp [mvA]
    rw [eB] at hwm ⊢
    simp only [tI1, show ¬ (1 : Int) = 0 by decide, ↓reduceIte, FK hb]
    rw [x10_swap σ (FK hb).2.2.2.1 (by omega) (by omega), bv_some]
    refine gv_v (set_B (σ := σ) hb hwm (RU_r h.1 hw (fun j hj => sw_o (by omega) (by omega)) (fun c h1 h2 h3 h4 => by rw [up_d h4, up_d h4]) ?_) (fun c hc => by rw [up_d (by omega), up_d (by omega)])) (fun _ τ k => gv_i k)
    intro i hi
    constructor
    · rw [up_d (by omega), up_d (by omega), sw_o (by omega) (by omega), h.1.one hi]
    · rw [up_f, up_f, sw_tr]
      unfold tr
      by_cases c1 : i = q
      · subst c1; rw [ua_s, if_pos rfl, h.1.oth hp]
      · rw [ua_n c1, if_neg c1]
        by_cases c2 : i = p
        · subst c2; rw [ua_s, if_pos rfl, h.1.oth hq]
        · rw [ua_n c2, if_neg c2, h.1.oth hi]
  · obtain ⟨hq', rfl⟩ := hq (by omega)
    clear hq
    have hq := hq'
    have eB : mvA A 2 p q = sw (sw A 70 (p1 A p) (p1 A q)) 78 (p2 A p) (p2 A q) := by simp [mvA]
    rw [eB] at hwm ⊢
    have a1 := hw.pl1 hp
    have a2 := hw.pl1 hq
    have a3 := hw.pl2 hp
    have a4 := hw.pl2 hq
    simp (disch := omega) only [tI2, show ¬ (2 : Int) = 0 by decide, show ¬ (2 : Int) = 1 by decide, ↓reduceIte, FK hb, inb_n, cl_nI, h.p1 hp, h.p1 hq]
    rw [x10_swap σ (FK hb).2.2.1 (by omega) (by omega), bv_some]
    have g1 : ∀ u v w z, up (up σ (b + 2) u v) (b + 2) w z (b + 5) = σ (b + 5) := fun u v w z => by rw [up_d (by omega), up_d (by omega)]
    simp only [g1, h.p2 hp, h.p2 hq]
    rw [x10_swap _ (FK hb).2.2.2.1 (by omega) (by omega), bv_some]
    refine gv_v (set_B (σ := σ) hb hwm (RU_r h.1 hw (fun j hj => by rw [sw_o (by omega) (by omega), sw_o (by omega) (by omega)]) (fun c h1 h2 h3 h4 => by rw [up_d h4, up_d h4, up_d h3, up_d h3]) ?_) (fun c hc => by rw [up_d (by omega), up_d (by omega), up_d (by omega), up_d (by omega)])) (fun _ τ k => gv_i k)
    intro i hi
    constructor
    · rw [up_d (by omega), up_d (by omega), up_f, up_f, sw_o (by omega) (by omega), sw_tr]
      unfold tr
      by_cases c1 : i = p1 A q
      · subst c1; rw [ua_s, if_pos rfl, h.1.one a1]
      · rw [ua_n c1, if_neg c1]
        by_cases c2 : i = p1 A p
        · subst c2; rw [ua_s, if_pos rfl, h.1.one a2]
        · rw [ua_n c2, if_neg c2, h.1.one hi]
    · have g2 : ∀ u v w z, up (up σ (b + 2) u v) (b + 2) w z (b + 3) = σ (b + 3) := fun u v w z => by rw [up_d (by omega), up_d (by omega)]
      rw [up_f, up_f, sw_tr, g2]
      have g3 : ∀ j, j < nB A → sw A 70 (p1 A p) (p1 A q) (78 + j) = A (78 + j) := fun j hj => sw_o (by omega) (by omega)
      rw [g3 _ (tr_lt a3 a4 hi)]
      unfold tr
      by_cases c1 : i = p2 A q
      · subst c1; rw [ua_s, if_pos rfl, h.1.oth a3]
      · rw [ua_n c1, if_neg c1]
        by_cases c2 : i = p2 A p
        · subst c2; rw [ua_s, if_pos rfl, h.1.oth a4]
        · rw [ua_n c2, if_neg c2, h.1.oth hi]
  · have eB : mvA A 3 p q = ua A (20 + 6 * p + 5) (nxS A p) := by simp [mvA]
    rw [eB] at hwm ⊢
    obtain ⟨s, n, hs, hn, e1, e2, e3, e4⟩ := nxS_e hw hp
    have f0 : σ (b + 10 + p) 0 = A (20 + 6 * p) := h.1.f hp (k := 0) (by omega)
    have f2 : σ (b + 10 + p) 2 = A (20 + 6 * p + 2) := h.1.f hp (k := 2) (by omega)
    have f5 : σ (b + 10 + p) 5 = A (20 + 6 * p + 5) := h.1.f hp (k := 5) (by omega)
    have vn : VB (A (20 + 6 * p)) (A (20 + 6 * p + 1)) (A (20 + 6 * p + 2)) (nxS A p) := by
      rw [e3]; refine e4 _ ?_; split <;> omega
    have key : Gv (s_X0_drawNext σ (b + 10 + p)) (fun _ τ => RU τ b (ua A (20 + 6 * p + 5) (nxS A p)) ∧ FB b σ τ) := by
      unfold s_X0_drawNext
      rw [x0_shapes, bn_some, f0, f2, f5]
      have dr := x1_draw hb hw h.1 hp vn
      by_cases c : shpI (A (20 + 6 * p)) (A (20 + 6 * p + 2)) ≤ A (20 + 6 * p + 5) + 1
      · rw [if_pos c]
        have e : nxS A p = 0 := by unfold nxS; rw [if_pos c]
        rw [e] at dr ⊢
        exact gv_v dr (fun _ τ k => gv_i k)
      · rw [if_neg c]
        have e : nxS A p = A (20 + 6 * p + 5) + 1 := by unfold nxS; rw [if_neg c]
        rw [e] at dr ⊢
        exact gv_v dr (fun _ τ k => gv_i k)
    simp (disch := omega) only [tI3, show ¬ (3 : Int) = 0 by decide, show ¬ (3 : Int) = 1 by decide, show ¬ (3 : Int) = 2 by decide, ↓reduceIte, FK hb, inb_n, cl_nI, rtb hb]
    exact gv_v key (fun _ τ k => gv_v (set_B (σ := σ) hb hwm k.1 k.2) (fun _ ρ k => gv_i k))
  · have eB : mvA A 4 p q = ua A (20 + 6 * p + 4) (1 - ly A p) := by simp [mvA]
    rw [eB] at hwm ⊢
    simp (disch := omega) only [tI4, show ¬ (4 : Int) = 0 by decide, show ¬ (4 : Int) = 1 by decide, show ¬ (4 : Int) = 2 by decide, show ¬ (4 : Int) = 3 by decide, ↓reduceIte, FK hb, inb_n, cl_nI, rtb hb, lt_e, h.1.lyv hp]
    refine gv_v (set_B (σ := σ) hb hwm (RU_b h.1 hw hp (fun j hj => ua_n (by omega)) (fun c h1 h2 h3 => up_d h3) ?_) (fun c hc => up_d (by omega))) (fun _ ρ k => gv_i k)
    have := h.1.br hp
    refine ⟨fun k hk => ?_, ?_, ?_⟩
    · rw [up_f]
      by_cases c : k = 4
      · subst c; rw [ua_s, ua_s]
      · rw [ua_n c, ua_n (by omega)]; exact this.1 k hk
    · rw [up_f, ua_n (by omega), ua_n (by omega), ua_n (by omega), ua_n (by omega), ua_n (by omega)]; exact this.2.1
    · rw [up_f, ua_n (by omega), ua_n (by omega), ua_n (by omega), ua_n (by omega), ua_n (by omega)]; exact this.2.2
theorem x1_undoMove (hb : FL b) (hw : WF A) (h : RF σ b A) {m p q : Nat} {x : Int32} (hm : m < 5) (hp : p < nB A) (hq : m ≤ 2 → q < nB A ∧ x = nI q) : Gv (s_X1_undoMove σ b (nI m) (nI p) x) (fun _ τ => RF τ b (unA A m p q) ∧ WF (unA A m p q) ∧ FB b σ τ) := by
  have n8 := hw.n8
  unfold s_X1_undoMove
  have e3 : (nI m = 3) = (m = 3) := propext (nI_eq (b := 3) (by omega) (by omega))
  simp only [e3]
  by_cases c : m = 3
  · have eB : unA A m p q = ua A (20 + 6 * p + 5) (pvS A p) := by simp [unA, c]
    rw [eB]
    simp (disch := omega) only [c, ↓reduceIte, FK hb, inb_n, cl_nI, rtb hb]
    obtain ⟨s1, s2, s3, s4, s, hs, es⟩ := shc_e (hw.v hp)
    have f0 : σ (b + 10 + p) 0 = A (20 + 6 * p) := h.1.f hp (k := 0) (by omega)
    have f2 : σ (b + 10 + p) 2 = A (20 + 6 * p + 2) := h.1.f hp (k := 2) (by omega)
    have f5 : σ (b + 10 + p) 5 = A (20 + 6 * p + 5) := h.1.f hp (k := 5) (by omega)
    have vn : VB (A (20 + 6 * p)) (A (20 + 6 * p + 1)) (A (20 + 6 * p + 2)) (pvS A p) := by
      unfold pvS
      rw [s1, es]
      by_cases c0 : s = 0
      · subst c0; rw [if_pos (by decide), predI (by omega)]; exact s4 _ (by omega)
      · rw [if_neg (nI_nle (by omega) (by omega)), predI (by omega)]; exact s4 _ (by omega)
    have hwm := WF_sh hw hp vn
    have key : Gv (s_X0_drawPrevious σ (b + 10 + p)) (fun _ τ => RU τ b (ua A (20 + 6 * p + 5) (pvS A p)) ∧ FB b σ τ) := by
      unfold s_X0_drawPrevious
      have dr := x1_draw hb hw h.1 hp vn
      rw [x0_shapes, bn_some, f0, f2, f5]
      by_cases c : A (20 + 6 * p + 5) ≤ 0
      · rw [if_pos c]
        have e : pvS A p = shpI (A (20 + 6 * p)) (A (20 + 6 * p + 2)) - 1 := by unfold pvS; rw [if_pos c]
        rw [e] at dr ⊢
        exact gv_v dr (fun _ τ k => gv_i k)
      · rw [if_neg c]
        have e : pvS A p = A (20 + 6 * p + 5) - 1 := by unfold pvS; rw [if_neg c]
        rw [e] at dr ⊢
        exact gv_v dr (fun _ τ k => gv_i k)
    exact gv_v key (fun _ τ k => gv_v (set_B (σ := σ) hb hwm k.1 k.2) (fun _ ρ k => gv_i ⟨k.1, hwm, k.2⟩))
  · have eB : unA A m p q = mvA A m p q := by simp [unA, c]
    rw [eB]
    simp only [c, ↓reduceIte]
    exact gv_v (x1_doMove hb hw h hm hp hq) (fun _ τ k => gv_i ⟨k.1, WF_mv hw hp (fun h => (hq h).1), k.2⟩)
end mc
