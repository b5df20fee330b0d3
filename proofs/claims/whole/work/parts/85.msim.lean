def MIr (B : Nat → Int32) (len T o n : Nat) (ρ : Sg) (st : ST) : Prop := MB ρ B len ∧ MTk ρ B st.1 st.2.1 st.2.2.1 ∧ ρ 150 29 = nI o ∧ ρ 150 30 = nI n ∧ ρ 150 31 = nI st.2.2.2.1.length ∧ ρ 150 32 = nI T ∧ ρ 150 33 = nI st.2.2.2.2 ∧ ∀ i t, st.2.2.2.1[i]? = some t → ρ 151 (T + 2 * i) = nI t.1 ∧ ρ 151 (T + 2 * i + 1) = t.2
def FM (T : Nat) (ρ κ : Sg) : Prop := (∀ c, c ≠ 150 → c ≠ 151 → κ c = ρ c) ∧ (∀ j, j < 24 ∨ 33 < j → κ 150 j = ρ 150 j) ∧ (∀ j, j < T ∨ T + 192 ≤ j → κ 151 j = ρ 151 j)
def PMo (B : Nat → Int32) (len T o n : Nat) (q : PR) (ρ : Sg) (r : Int32) (κ : Sg) : Prop := ((q.1 = true ∧ r = 1 ∧ MIr B len T o n κ q.2) ∨ (q.1 = false ∧ r = 0 ∧ κ 150 24 = nI q.2.1)) ∧ FM T ρ κ
def MSim (B : Nat → Int32) (len T o n : Nat) (G : Sg → RO) (Q : ST → PR) : Prop := ∀ ρ st, MIr B len T o n ρ st → Good B len st → Gv (G ρ) (PMo B len T o n (Q st) ρ)
theorem FM.r (T : Nat) (τ : Sg) : FM T τ τ := ⟨fun _ _ _ => rfl, fun _ _ => rfl, fun _ _ => rfl⟩
theorem FM.t {T : Nat} {σ τ ρ : Sg} (h : FM T σ τ) (k : FM T τ ρ) : FM T σ ρ := ⟨fun c a b => (k.1 c a b).trans (h.1 c a b), fun j a => (k.2.1 j a).trans (h.2.1 j a), fun j a => (k.2.2 j a).trans (h.2.2 j a)⟩
theorem FN.fm {T : Nat} {τ ρ : Sg} (h : FN τ ρ) : FM T τ ρ := ⟨fun c a _ => h.1 c a, fun j a => h.2 j (by omega) (by omega) (by omega) (by omega) (by omega), fun j _ => by rw [h.1 151 (by omega)]⟩
theorem MB_f {T : Nat} {τ ρ : Sg} {B : Nat → Int32} {len : Nat} (h : MB τ B len) (f : FM T τ ρ) : MB ρ B len :=
  ⟨by rw [f.2.1 23 (by omega)]; exact h.1, h.2.1, fun i hi => by rw [f.1 167 (by omega) (by omega)]; exact h.2.2 i hi⟩
section msim
variable {B : Nat → Int32} {len T o n : Nat}
theorem PM_t {σ τ : Sg} {q : PR} {r : Int32} {ρ : Sg} (f : FM T σ τ) (h : PMo B len T o n q τ r ρ) : PMo B len T o n q σ r ρ := ⟨h.1, f.t h.2⟩
theorem MI_s {ρ : Sg} {st : ST} (h : MIr B len T o n ρ st) (g : Good B len st) (c : Int32) : s_X11_isSign ρ c = some (if st.2.2.1 = 3 ∧ B st.1 = c then 1 else 0, ρ) := by
  unfold s_X11_isSign
  obtain ⟨h1, ⟨_, _, t6, _, t3, _⟩, _⟩ := h
  have hk := g.2.2.1
  have e3 : (tkM st.2.2.1 (st.2.1 - st.1) = 3) = (st.2.2.1 = 3) := by
    have : st.2.2.1 = 0 ∨ st.2.2.1 = 1 ∨ st.2.2.1 = 2 ∨ st.2.2.1 = 3 ∨ st.2.2.1 = 4 := by omega
    rcases this with e | e | e | e | e <;> rw [e] <;> simp [tkM]
    split <;> simp
  rw [t6]
  simp only [e3]
  by_cases ck : st.2.2.1 = 3
  · rw [t3 ck]
    by_cases cc : B st.1 = c <;> simp [ck, cc]
  · simp [ck]
theorem m_adv {ρ : Sg} {st : ST} (h : MIr B len T o n ρ st) (he : st.2.1 ≤ len) (hk : st.2.2.1 ≤ 4) (h0 : st.2.2.1 = 1 ∨ st.2.2.1 = 2 → 0 < st.2.1) (h2 : st.2.2.1 = 2 → st.2.1 - st.1 ≤ 4) : Gv (s_X11_next ρ) (fun _ κ => MIr B len T o n κ (adv B len st) ∧ FM T ρ κ) := by
  refine gv_w (m_next h.1 h.2.1 he hk h0 h2) ?_
  intro _ κ ⟨t, f⟩
  refine ⟨⟨MB_f h.1 (f.fm (T := T)), t, ?_, ?_, ?_, ?_, ?_, ?_⟩, f.fm⟩
  · rw [f.2 29 (by omega) (by omega) (by omega) (by omega) (by omega)]; exact h.2.2.1
  · rw [f.2 30 (by omega) (by omega) (by omega) (by omega) (by omega)]; exact h.2.2.2.1
  · rw [f.2 31 (by omega) (by omega) (by omega) (by omega) (by omega)]; exact h.2.2.2.2.1
  · rw [f.2 32 (by omega) (by omega) (by omega) (by omega) (by omega)]; exact h.2.2.2.2.2.1
  · rw [f.2 33 (by omega) (by omega) (by omega) (by omega) (by omega)]; exact h.2.2.2.2.2.2.1
  · intro i u hu; rw [f.1 151 (by omega)]; exact h.2.2.2.2.2.2.2 i u hu
theorem m_adv3 {ρ : Sg} {st : ST} (h : MIr B len T o n ρ st) (g : Good B len st) (h2 : st.2.2.1 = 3) : Gv (s_X11_next ρ) (fun _ κ => MIr B len T o n κ (adv B len st) ∧ FM T ρ κ) :=
  m_adv h g.2.1 g.2.2.1 (fun e => by omega) (fun e => by omega)
theorem m_stepw {ρ : Sg} {st : ST} (h : MIr B len T o n ρ st) (hT : T + 192 ≤ 2350) (hl : st.2.2.2.1.length < 96) (w : Nat) (v : Int32) : Gv (s_X11_step ρ (nI w) v) (fun _ κ => MIr B len T o n κ (emt st (w, v)) ∧ FM T ρ κ) := by
  unfold s_X11_step
  obtain ⟨h1, h2, h3, h4, h5, h6, h7, h8⟩ := h
  have e1 : ∀ a, up ρ 151 (T + 2 * st.2.2.2.1.length) a 150 = ρ 150 := fun a => up_d (by omega)
  have e2 : ∀ a b, up (up ρ 151 (T + 2 * st.2.2.2.1.length) a) 151 (T + 2 * st.2.2.2.1.length + 1) b 150 = ρ 150 := fun a b => by rw [up_d (by omega), up_d (by omega)]
  simp (disch := omega) only [h5, h6, NK, nI_add, inb_n, cl_nI, ↓reduceIte, lt_e, e1, e2]
  have f : FM T ρ (up (up (up ρ 151 (T + 2 * st.2.2.2.1.length) (nI w)) 151 (T + 2 * st.2.2.2.1.length + 1) v) 150 31 (nI (st.2.2.2.1.length + 1))) := by
    refine ⟨fun c a b => by rw [up_d a, up_d b, up_d b], fun j a => by rw [up_f, ua_n (by omega), up_d (by omega), up_d (by omega)], fun j a => ?_⟩
    rw [up_d (by omega), up_f, ua_n (by omega), up_f, ua_n (by omega)]
  have s150 : ∀ j, j ≠ 31 → up (up (up ρ 151 (T + 2 * st.2.2.2.1.length) (nI w)) 151 (T + 2 * st.2.2.2.1.length + 1) v) 150 31 (nI (st.2.2.2.1.length + 1)) 150 j = ρ 150 j := fun j hj => by rw [up_f, ua_n hj, e2]
  refine gv_i ⟨⟨MB_f h1 f, ?_, ?_, ?_, ?_, ?_, ?_, ?_⟩, f⟩
  · obtain ⟨a1, a2, a3, a4, a5, a6⟩ := h2
    refine ⟨?_, ?_, ?_, fun e => ?_, fun e => ?_, fun e e2 => ?_⟩
    · rw [s150 _ (by omega)]; exact a1
    · rw [s150 _ (by omega)]; exact a2
    · rw [s150 _ (by omega)]; exact a3
    · rw [s150 _ (by omega)]; exact a4 e
    · rw [s150 _ (by omega)]; exact a5 e
    · rw [s150 _ (by omega)]; exact a6 e e2
  · rw [s150 _ (by omega)]; exact h3
  · rw [s150 _ (by omega)]; exact h4
  · rw [up_f, ua_s]; simp [emt]
  · rw [s150 _ (by omega)]; exact h6
  · rw [s150 _ (by omega)]; exact h7
  · intro i u hu
    have hu : (st.2.2.2.1 ++ [(w, v)])[i]? = some u := hu
    rw [up_d (by omega), up_f, up_f]
    by_cases c : i < st.2.2.2.1.length
    · rw [List.getElem?_append_left c] at hu
      rw [ua_n (by omega), ua_n (by omega), ua_n (by omega), ua_n (by omega)]; exact h8 i u hu
    · rw [List.getElem?_append_right (by omega)] at hu
      by_cases c2 : i = st.2.2.2.1.length
      · subst c2
        simp at hu
        subst hu
        rw [ua_n (by omega), ua_s, ua_s]
        exact ⟨rfl, rfl⟩
      · rw [List.getElem?_eq_none (by simp; omega)] at hu; cases hu
theorem m_term_l {key : Nat} {R : Sg → Int32 → RO} {x1 : Int32} {Q : ST → PR} (hT : T + 192 ≤ 2350) (hg : PG B len key Q) (hR : MSim B len T o n (fun ρ => R ρ x1) Q) : ∀ f m ρ st, 96 ≤ st.1 + f → f < m → MIr B len T o n ρ st → Good B len st → Gv (s_X11_term_10 R m ρ x1) (PMo B len T o n (pLoop B len Q S1 f st) ρ) := by
  intro f
  induction f with
  | zero =>
    intro m ρ st hi hm h g
    obtain ⟨m', rfl⟩ : ∃ m', m = m' + 1 := ⟨m - 1, by omega⟩
    have k0 : st.2.2.1 = 0 := g.2.2.2.2.1 (by have := h.1.2.1; omega)
    simp only [s_X11_term_10, MI_s h g 42, MI_s h g 47, bn_some, k0, show ¬ 0 = 3 by omega, false_and, ↓reduceIte]
    exact gv_i ⟨.inl ⟨rfl, rfl, h⟩, FM.r T ρ⟩
  | succ f ih =>
    intro m ρ st hi hm h g
    obtain ⟨m', rfl⟩ : ∃ m', m = m' + 1 := ⟨m - 1, by omega⟩
    simp only [s_X11_term_10, MI_s h g 42, MI_s h g 47, bn_some]
    unfold pLoop
    have key : st.2.2.1 = 3 ∧ S1 (B st.1) = true → Gv (s_X11_term_28 R (s_X11_term_10 R m') ρ x1) (PMo B len T o n (if (Q (adv B len st)).1 = true then pLoop B len Q S1 f (emt (Q (adv B len st)).2 (2, B st.1)) else (false, (Q (adv B len st)).2)) ρ) := by
      intro hk
      have etk : ρ 150 28 = B st.1 := h.2.1.2.2.2.2.1 hk.1
      unfold s_X11_term_28
      rw [etk, lt_e]
      refine gv_v (m_adv3 h g hk.1) ?_
      intro _ τ1 ⟨h1, f1⟩
      have g1 : Good B len (adv B len st) := adv_g st.2.2.2.1 st.2.2.2.2 g.2.1 (by have := g.1; have := g.2.2.2.2.2.1; omega)
      have as := adv_s (B := B) (st := st) g.2.1
      refine gv_n (hR τ1 (adv B len st) h1 g1) ?_
      intro r τ2 ⟨hp, f2⟩
      have f12 := f1.t f2
      rcases hp with ⟨q1, q2, q3⟩ | ⟨q1, q2, q3⟩
      · subst q2
        rw [if_pos q1, if_neg (show ¬ (1 : Int32) = 0 by decide)]
        obtain ⟨e1, e2, e3, e4⟩ := hg (adv B len st) g1 q1
        have e3' : (Q (adv B len st)).2.2.2.2.1.length + (adv B len st).1 ≤ st.2.2.2.1.length + (Q (adv B len st)).2.1 := e3
        have hs := g.2.2.2.1 (by omega)
        have g6 := g.2.2.2.2.2.1
        have hl := h.1.2.1
        have a1 := e1.1
        have a2 := e1.2.1
        refine gv_v (m_stepw q3 hT (by omega) 2 (B st.1)) ?_
        intro _ τ3 ⟨h3, f3⟩
        refine gv_w (ih m' τ3 _ ?_ (by omega) h3 ⟨e1.1, e1.2.1, e1.2.2.1, e1.2.2.2.1, e1.2.2.2.2.1, ?_, e1.2.2.2.2.2.2⟩) (fun r ρ hr => PM_t (f12.t f3) hr)
        · show 96 ≤ (Q (adv B len st)).2.1 + f; omega
        · have el : (emt (Q (adv B len st)).2 (2, (B st.1))).2.2.2.1.length = (Q (adv B len st)).2.2.2.2.1.length + 1 := by simp [emt]
          rw [el]; show _ ≤ (Q (adv B len st)).2.1; omega
      · subst q2
        rw [if_neg (show ¬ (Q (adv B len st)).1 = true by rw [q1]; decide), if_pos rfl]
        exact gv_i ⟨.inr ⟨rfl, rfl, q3⟩, f12⟩
    by_cases ck : st.2.2.1 = 3 ∧ S1 (B st.1) = true
    · rw [if_pos ck]
      have h2 := ck.2
      simp only [S1, Bool.or_eq_true, beq_iff_eq] at h2
      by_cases c0 : st.2.2.1 = 3 ∧ B st.1 = 42
      · simp only [c0, and_self, ↓reduceIte, show ¬ (1 : Int32) = 0 by decide]
        have := key ck
        simp only [c0] at this
        exact this
      · have c1 : st.2.2.1 = 3 ∧ B st.1 = 47 := by
          rcases h2 with h2 | h2
          · exact absurd ⟨ck.1, h2⟩ c0
          · exact ⟨ck.1, h2⟩
        have z := key ck
        simp only [c1, and_self, ↓reduceIte, show ¬ (1 : Int32) = 0 by decide, show ¬ (47 : Int32) = 42 by decide, and_false] at z ⊢
        exact z
    · rw [if_neg ck]
      have n1 : ¬ (st.2.2.1 = 3 ∧ B st.1 = 42) := fun e => ck ⟨e.1, by rw [e.2]; rfl⟩
      have n2 : ¬ (st.2.2.1 = 3 ∧ B st.1 = 47) := fun e => ck ⟨e.1, by rw [e.2]; rfl⟩
      simp only [n1, n2, ↓reduceIte]
      exact gv_i ⟨.inl ⟨rfl, rfl, h⟩, FM.r T ρ⟩
theorem m_term {key : Nat} {R : Sg → Int32 → RO} {x1 : Int32} {Q : ST → PR} (hT : T + 192 ≤ 2350) (hg : PG B len key Q) (hR : MSim B len T o n (fun ρ => R ρ x1) Q) : MSim B len T o n (fun ρ => s_X11_term R ρ x1) (pTerm B len Q) := by
  intro ρ st h g
  show Gv (s_X11_term R ρ x1) (PMo B len T o n (pBin B len (Q) S1 st) ρ)
  unfold s_X11_term pBin
  refine gv_n (hR ρ st h g) ?_
  intro r τ1 ⟨hp, f1⟩
  rcases hp with ⟨q1, q2, q3⟩ | ⟨q1, q2, q3⟩
  · subst q2
    rw [if_pos q1, if_neg (show ¬ (1 : Int32) = 0 by decide)]
    exact gv_w (m_term_l hT hg hR 96 FU τ1 _ (by omega) (by decide) q3 (hg st g q1).1) (fun r ρ hr => PM_t f1 hr)
  · subst q2
    rw [if_neg (show ¬ _ = true by rw [q1]; decide), if_pos rfl]
    exact gv_i ⟨.inr ⟨rfl, rfl, q3⟩, f1⟩
theorem m_sum_l {key : Nat} {R : Sg → Int32 → RO} {x1 : Int32} {Q : ST → PR} (hT : T + 192 ≤ 2350) (hg : PG B len key Q) (hR : MSim B len T o n (fun ρ => s_X11_term R ρ x1) Q) : ∀ f m ρ st, 96 ≤ st.1 + f → f < m → MIr B len T o n ρ st → Good B len st → Gv (s_X11_sum_10 R m ρ x1) (PMo B len T o n (pLoop B len Q S2 f st) ρ) := by
  intro f
  induction f with
  | zero =>
    intro m ρ st hi hm h g
    obtain ⟨m', rfl⟩ : ∃ m', m = m' + 1 := ⟨m - 1, by omega⟩
    have k0 : st.2.2.1 = 0 := g.2.2.2.2.1 (by have := h.1.2.1; omega)
    simp only [s_X11_sum_10, MI_s h g 43, MI_s h g 45, bn_some, k0, show ¬ 0 = 3 by omega, false_and, ↓reduceIte]
    exact gv_i ⟨.inl ⟨rfl, rfl, h⟩, FM.r T ρ⟩
  | succ f ih =>
    intro m ρ st hi hm h g
    obtain ⟨m', rfl⟩ : ∃ m', m = m' + 1 := ⟨m - 1, by omega⟩
    simp only [s_X11_sum_10, MI_s h g 43, MI_s h g 45, bn_some]
    unfold pLoop
    have key : st.2.2.1 = 3 ∧ S2 (B st.1) = true → Gv (s_X11_sum_28 R (s_X11_sum_10 R m') ρ x1) (PMo B len T o n (if (Q (adv B len st)).1 = true then pLoop B len Q S2 f (emt (Q (adv B len st)).2 (2, B st.1)) else (false, (Q (adv B len st)).2)) ρ) := by
      intro hk
      have etk : ρ 150 28 = B st.1 := h.2.1.2.2.2.2.1 hk.1
      unfold s_X11_sum_28
      rw [etk, lt_e]
      refine gv_v (m_adv3 h g hk.1) ?_
      intro _ τ1 ⟨h1, f1⟩
      have g1 : Good B len (adv B len st) := adv_g st.2.2.2.1 st.2.2.2.2 g.2.1 (by have := g.1; have := g.2.2.2.2.2.1; omega)
      have as := adv_s (B := B) (st := st) g.2.1
      refine gv_n (hR τ1 (adv B len st) h1 g1) ?_
      intro r τ2 ⟨hp, f2⟩
      have f12 := f1.t f2
      rcases hp with ⟨q1, q2, q3⟩ | ⟨q1, q2, q3⟩
      · subst q2
        rw [if_pos q1, if_neg (show ¬ (1 : Int32) = 0 by decide)]
        obtain ⟨e1, e2, e3, e4⟩ := hg (adv B len st) g1 q1
        have e3' : (Q (adv B len st)).2.2.2.2.1.length + (adv B len st).1 ≤ st.2.2.2.1.length + (Q (adv B len st)).2.1 := e3
        have hs := g.2.2.2.1 (by omega)
        have g6 := g.2.2.2.2.2.1
        have hl := h.1.2.1
        have a1 := e1.1
        have a2 := e1.2.1
        refine gv_v (m_stepw q3 hT (by omega) 2 (B st.1)) ?_
        intro _ τ3 ⟨h3, f3⟩
        refine gv_w (ih m' τ3 _ ?_ (by omega) h3 ⟨e1.1, e1.2.1, e1.2.2.1, e1.2.2.2.1, e1.2.2.2.2.1, ?_, e1.2.2.2.2.2.2⟩) (fun r ρ hr => PM_t (f12.t f3) hr)
        · show 96 ≤ (Q (adv B len st)).2.1 + f; omega
        · have el : (emt (Q (adv B len st)).2 (2, (B st.1))).2.2.2.1.length = (Q (adv B len st)).2.2.2.2.1.length + 1 := by simp [emt]
          rw [el]; show _ ≤ (Q (adv B len st)).2.1; omega
      · subst q2
        rw [if_neg (show ¬ (Q (adv B len st)).1 = true by rw [q1]; decide), if_pos rfl]
        exact gv_i ⟨.inr ⟨rfl, rfl, q3⟩, f12⟩
    by_cases ck : st.2.2.1 = 3 ∧ S2 (B st.1) = true
    · rw [if_pos ck]
      have h2 := ck.2
      simp only [S2, Bool.or_eq_true, beq_iff_eq] at h2
      by_cases c0 : st.2.2.1 = 3 ∧ B st.1 = 43
      · simp only [c0, and_self, ↓reduceIte, show ¬ (1 : Int32) = 0 by decide]
        have := key ck
        simp only [c0] at this
        exact this
      · have c1 : st.2.2.1 = 3 ∧ B st.1 = 45 := by
          rcases h2 with h2 | h2
          · exact absurd ⟨ck.1, h2⟩ c0
          · exact ⟨ck.1, h2⟩
        have z := key ck
        simp only [c1, and_self, ↓reduceIte, show ¬ (1 : Int32) = 0 by decide, show ¬ (45 : Int32) = 43 by decide, and_false] at z ⊢
        exact z
    · rw [if_neg ck]
      have n1 : ¬ (st.2.2.1 = 3 ∧ B st.1 = 43) := fun e => ck ⟨e.1, by rw [e.2]; rfl⟩
      have n2 : ¬ (st.2.2.1 = 3 ∧ B st.1 = 45) := fun e => ck ⟨e.1, by rw [e.2]; rfl⟩
      simp only [n1, n2, ↓reduceIte]
      exact gv_i ⟨.inl ⟨rfl, rfl, h⟩, FM.r T ρ⟩
theorem m_sum {key : Nat} {R : Sg → Int32 → RO} {x1 : Int32} {Q : ST → PR} (hT : T + 192 ≤ 2350) (hg : PG B len key Q) (hR : MSim B len T o n (fun ρ => R ρ x1) Q) : MSim B len T o n (fun ρ => s_X11_sum R ρ x1) (pSum B len Q) := by
  intro ρ st h g
  show Gv (s_X11_sum R ρ x1) (PMo B len T o n (pBin B len (pTerm B len Q) S2 st) ρ)
  unfold s_X11_sum pBin
  refine gv_n ((m_term hT hg hR) ρ st h g) ?_
  intro r τ1 ⟨hp, f1⟩
  rcases hp with ⟨q1, q2, q3⟩ | ⟨q1, q2, q3⟩
  · subst q2
    rw [if_pos q1, if_neg (show ¬ (1 : Int32) = 0 by decide)]
    exact gv_w (m_sum_l hT (term_g hg) (m_term hT hg hR) 96 FU τ1 _ (by omega) (by decide) q3 ((term_g hg) st g q1).1) (fun r ρ hr => PM_t f1 hr)
  · subst q2
    rw [if_neg (show ¬ _ = true by rw [q1]; decide), if_pos rfl]
    exact gv_i ⟨.inr ⟨rfl, rfl, q3⟩, f1⟩
theorem m_test {key : Nat} {R : Sg → Int32 → RO} {x1 : Int32} {Q : ST → PR} (hT : T + 192 ≤ 2350) (hg : PG B len key Q) (hR : MSim B len T o n (fun ρ => R ρ x1) Q) : MSim B len T o n (fun ρ => s_X11_test R ρ x1) (pTest B len Q) := by
  intro ρ st h g
  show Gv (s_X11_test R ρ x1) (PMo B len T o n (pOnce B len (pSum B len Q) S3 st) ρ)
  unfold s_X11_test pOnce
  refine gv_n (m_sum hT hg hR ρ st h g) ?_
  intro r τ1 ⟨hp, f1⟩
  rcases hp with ⟨q1, q2, q3⟩ | ⟨q1, q2, q3⟩
  · subst q2
    rw [if_pos q1, if_neg (show ¬ (1 : Int32) = 0 by decide)]
    have gq := (sum_g hg st g q1).1
    generalize pSum B len Q st = w at *
    simp only [MI_s q3 gq, bn_some]
    unfold pLoop pLoop
    have key : w.2.2.2.1 = 3 ∧ S3 (B w.2.1) = true → Gv (s_X11_test_37 R τ1 x1) (PMo B len T o n (if (pSum B len Q (adv B len w.2)).1 = true then (true, emt (pSum B len Q (adv B len w.2)).2 (2, B w.2.1)) else (false, (pSum B len Q (adv B len w.2)).2)) ρ) := by
      intro hk
      have etk : τ1 150 28 = B w.2.1 := q3.2.1.2.2.2.2.1 hk.1
      unfold s_X11_test_37
      rw [etk, lt_e]
      refine gv_v (m_adv3 q3 gq hk.1) ?_
      intro _ τ2 ⟨h2, f2⟩
      have g2 : Good B len (adv B len w.2) := adv_g (st := w.2) w.2.2.2.2.1 w.2.2.2.2.2 gq.2.1 (by have := gq.1; have := gq.2.2.2.2.2.1; omega)
      have as := adv_s (B := B) (st := w.2) gq.2.1
      refine gv_n (m_sum hT hg hR τ2 (adv B len w.2) h2 g2) ?_
      intro r τ3 ⟨hp, f3⟩
      have f13 := (f1.t f2).t f3
      rcases hp with ⟨u1, u2, u3⟩ | ⟨u1, u2, u3⟩
      · subst u2
        rw [if_pos u1, if_neg (show ¬ (1 : Int32) = 0 by decide)]
        obtain ⟨e1, e2, e3, e4⟩ := sum_g hg (adv B len w.2) g2 u1
        have e3' : (pSum B len Q (adv B len w.2)).2.2.2.2.1.length + (adv B len w.2).1 ≤ w.2.2.2.2.1.length + (pSum B len Q (adv B len w.2)).2.1 := e3
        have hs := gq.2.2.2.1 (by omega)
        have g6 := gq.2.2.2.2.2.1
        have hl := h.1.2.1
        have a1 := e1.1
        have a2 := e1.2.1
        refine gv_v (m_stepw u3 hT (by omega) 2 (B w.2.1)) ?_
        intro _ τ4 ⟨h4, f4⟩
        exact gv_i ⟨.inl ⟨rfl, rfl, h4⟩, f13.t f4⟩
      · subst u2
        rw [if_neg (show ¬ _ = true by rw [u1]; decide), if_pos rfl]
        exact gv_i ⟨.inr ⟨rfl, rfl, u3⟩, f13⟩
    by_cases ck : w.2.2.2.1 = 3 ∧ S3 (B w.2.1) = true
    · rw [if_pos ck]
      have h2 := ck.2
      simp only [S3, Bool.or_eq_true, beq_iff_eq] at h2
      have z := key ck
      by_cases c0 : B w.2.1 = 60
      · simp only [ck.1, c0, and_self, ↓reduceIte, show ¬ (1 : Int32) = 0 by decide] at z ⊢
        exact z
      · by_cases c1 : B w.2.1 = 61
        · simp only [ck.1, c1, and_self, ↓reduceIte, show ¬ (1 : Int32) = 0 by decide, show ¬ (61 : Int32) = 60 by decide, and_false] at z ⊢
          exact z
        · have c2 : B w.2.1 = 62 := by
            rcases h2 with (h2 | h2) | h2
            · exact absurd h2 c0
            · exact absurd h2 c1
            · exact h2
          simp only [ck.1, c2, and_self, ↓reduceIte, show ¬ (1 : Int32) = 0 by decide, show ¬ (62 : Int32) = 60 by decide, show ¬ (62 : Int32) = 61 by decide, and_false] at z ⊢
          exact z
    · rw [if_neg ck]
      have n0 : ¬ (w.2.2.2.1 = 3 ∧ B w.2.1 = 60) := fun e => ck ⟨e.1, by rw [e.2]; rfl⟩
      have n1 : ¬ (w.2.2.2.1 = 3 ∧ B w.2.1 = 61) := fun e => ck ⟨e.1, by rw [e.2]; rfl⟩
      have n2 : ¬ (w.2.2.2.1 = 3 ∧ B w.2.1 = 62) := fun e => ck ⟨e.1, by rw [e.2]; rfl⟩
      simp only [n0, n1, n2, ↓reduceIte]
      exact gv_i ⟨.inl ⟨rfl, rfl, q3⟩, f1⟩
  · subst q2
    rw [if_neg (show ¬ _ = true by rw [q1]; decide), if_pos rfl]
    exact gv_i ⟨.inr ⟨rfl, rfl, q3⟩, f1⟩
theorem m_both_l {key : Nat} {R : Sg → Int32 → RO} {x1 : Int32} {Q : ST → PR} (hT : T + 192 ≤ 2350) (hg : PG B len key Q) (hR : MSim B len T o n (fun ρ => s_X11_test R ρ x1) Q) : ∀ f m ρ st, 96 ≤ st.1 + f → f < m → MIr B len T o n ρ st → Good B len st → Gv (s_X11_both_10 R m ρ x1) (PMo B len T o n (pLoop B len Q S4 f st) ρ) := by
  intro f
  induction f with
  | zero =>
    intro m ρ st hi hm h g
    obtain ⟨m', rfl⟩ : ∃ m', m = m' + 1 := ⟨m - 1, by omega⟩
    have k0 : st.2.2.1 = 0 := g.2.2.2.2.1 (by have := h.1.2.1; omega)
    simp only [s_X11_both_10, MI_s h g 38, bn_some, k0, show ¬ 0 = 3 by omega, false_and, ↓reduceIte]
    exact gv_i ⟨.inl ⟨rfl, rfl, h⟩, FM.r T ρ⟩
  | succ f ih =>
    intro m ρ st hi hm h g
    obtain ⟨m', rfl⟩ : ∃ m', m = m' + 1 := ⟨m - 1, by omega⟩
    simp only [s_X11_both_10, MI_s h g 38, bn_some]
    unfold pLoop
    have key : st.2.2.1 = 3 ∧ S4 (B st.1) = true → Gv (bv (s_X11_next ρ) fun s3 => bn (s_X11_test R s3 x1) fun v5 s4 => if v5 = 0 then some (0, s4) else bv (s_X11_step s4 2 38) fun s6 => s_X11_both_10 R m' s6 x1) (PMo B len T o n (if (Q (adv B len st)).1 = true then pLoop B len Q S4 f (emt (Q (adv B len st)).2 (2, B st.1)) else (false, (Q (adv B len st)).2)) ρ) := by
      intro hk
      have etk : B st.1 = 38 := by have := hk.2; simp only [S4, beq_iff_eq] at this; exact this
      rw [etk]
      refine gv_v (m_adv3 h g hk.1) ?_
      intro _ τ1 ⟨h1, f1⟩
      have g1 : Good B len (adv B len st) := adv_g st.2.2.2.1 st.2.2.2.2 g.2.1 (by have := g.1; have := g.2.2.2.2.2.1; omega)
      have as := adv_s (B := B) (st := st) g.2.1
      refine gv_n (hR τ1 (adv B len st) h1 g1) ?_
      intro r τ2 ⟨hp, f2⟩
      have f12 := f1.t f2
      rcases hp with ⟨q1, q2, q3⟩ | ⟨q1, q2, q3⟩
      · subst q2
        rw [if_pos q1, if_neg (show ¬ (1 : Int32) = 0 by decide)]
        obtain ⟨e1, e2, e3, e4⟩ := hg (adv B len st) g1 q1
        have e3' : (Q (adv B len st)).2.2.2.2.1.length + (adv B len st).1 ≤ st.2.2.2.1.length + (Q (adv B len st)).2.1 := e3
        have hs := g.2.2.2.1 (by omega)
        have g6 := g.2.2.2.2.2.1
        have hl := h.1.2.1
        have a1 := e1.1
        have a2 := e1.2.1
        refine gv_v (m_stepw q3 hT (by omega) 2 38) ?_
        intro _ τ3 ⟨h3, f3⟩
        refine gv_w (ih m' τ3 _ ?_ (by omega) h3 ⟨e1.1, e1.2.1, e1.2.2.1, e1.2.2.2.1, e1.2.2.2.2.1, ?_, e1.2.2.2.2.2.2⟩) (fun r ρ hr => PM_t (f12.t f3) hr)
        · show 96 ≤ (Q (adv B len st)).2.1 + f; omega
        · have el : (emt (Q (adv B len st)).2 (2, 38)).2.2.2.1.length = (Q (adv B len st)).2.2.2.2.1.length + 1 := by simp [emt]
          rw [el]; show _ ≤ (Q (adv B len st)).2.1; omega
      · subst q2
        rw [if_neg (show ¬ (Q (adv B len st)).1 = true by rw [q1]; decide), if_pos rfl]
        exact gv_i ⟨.inr ⟨rfl, rfl, q3⟩, f12⟩
    by_cases ck : st.2.2.1 = 3 ∧ S4 (B st.1) = true
    · rw [if_pos ck]
      have c0 : st.2.2.1 = 3 ∧ B st.1 = 38 := ⟨ck.1, by have := ck.2; simp only [S4, beq_iff_eq] at this; exact this⟩
      have z := key ck
      simp only [c0, and_self, ↓reduceIte, show ¬ (1 : Int32) = 0 by decide] at z ⊢
      exact z
    · rw [if_neg ck]
      have n1 : ¬ (st.2.2.1 = 3 ∧ B st.1 = 38) := fun e => ck ⟨e.1, by rw [e.2]; rfl⟩
      simp only [n1, ↓reduceIte]
      exact gv_i ⟨.inl ⟨rfl, rfl, h⟩, FM.r T ρ⟩
theorem m_both {key : Nat} {R : Sg → Int32 → RO} {x1 : Int32} {Q : ST → PR} (hT : T + 192 ≤ 2350) (hg : PG B len key Q) (hR : MSim B len T o n (fun ρ => R ρ x1) Q) : MSim B len T o n (fun ρ => s_X11_both R ρ x1) (pAnd B len Q) := by
  intro ρ st h g
  show Gv (s_X11_both R ρ x1) (PMo B len T o n (pBin B len (pTest B len Q) S4 st) ρ)
  unfold s_X11_both pBin
  refine gv_n ((m_test hT hg hR) ρ st h g) ?_
  intro r τ1 ⟨hp, f1⟩
  rcases hp with ⟨q1, q2, q3⟩ | ⟨q1, q2, q3⟩
  · subst q2
    rw [if_pos q1, if_neg (show ¬ (1 : Int32) = 0 by decide)]
    exact gv_w (m_both_l hT (test_g hg) (m_test hT hg hR) 96 FU τ1 _ (by omega) (by decide) q3 ((test_g hg) st g q1).1) (fun r ρ hr => PM_t f1 hr)
  · subst q2
    rw [if_neg (show ¬ _ = true by rw [q1]; decide), if_pos rfl]
    exact gv_i ⟨.inr ⟨rfl, rfl, q3⟩, f1⟩
theorem m_either_l {key : Nat} {R : Sg → Int32 → RO} {x1 : Int32} {Q : ST → PR} (hT : T + 192 ≤ 2350) (hg : PG B len key Q) (hR : MSim B len T o n (fun ρ => s_X11_both R ρ x1) Q) : ∀ f m ρ st, 96 ≤ st.1 + f → f < m → MIr B len T o n ρ st → Good B len st → Gv (s_X11_either_10 R m ρ x1) (PMo B len T o n (pLoop B len Q S5 f st) ρ) := by
  intro f
  induction f with
  | zero =>
    intro m ρ st hi hm h g
    obtain ⟨m', rfl⟩ : ∃ m', m = m' + 1 := ⟨m - 1, by omega⟩
    have k0 : st.2.2.1 = 0 := g.2.2.2.2.1 (by have := h.1.2.1; omega)
    simp only [s_X11_either_10, MI_s h g 124, bn_some, k0, show ¬ 0 = 3 by omega, false_and, ↓reduceIte]
    exact gv_i ⟨.inl ⟨rfl, rfl, h⟩, FM.r T ρ⟩
  | succ f ih =>
    intro m ρ st hi hm h g
    obtain ⟨m', rfl⟩ : ∃ m', m = m' + 1 := ⟨m - 1, by omega⟩
    simp only [s_X11_either_10, MI_s h g 124, bn_some]
    unfold pLoop
    have key : st.2.2.1 = 3 ∧ S5 (B st.1) = true → Gv (bv (s_X11_next ρ) fun s3 => bn (s_X11_both R s3 x1) fun v5 s4 => if v5 = 0 then some (0, s4) else bv (s_X11_step s4 2 124) fun s6 => s_X11_either_10 R m' s6 x1) (PMo B len T o n (if (Q (adv B len st)).1 = true then pLoop B len Q S5 f (emt (Q (adv B len st)).2 (2, B st.1)) else (false, (Q (adv B len st)).2)) ρ) := by
      intro hk
      have etk : B st.1 = 124 := by have := hk.2; simp only [S5, beq_iff_eq] at this; exact this
      rw [etk]
      refine gv_v (m_adv3 h g hk.1) ?_
      intro _ τ1 ⟨h1, f1⟩
      have g1 : Good B len (adv B len st) := adv_g st.2.2.2.1 st.2.2.2.2 g.2.1 (by have := g.1; have := g.2.2.2.2.2.1; omega)
      have as := adv_s (B := B) (st := st) g.2.1
      refine gv_n (hR τ1 (adv B len st) h1 g1) ?_
      intro r τ2 ⟨hp, f2⟩
      have f12 := f1.t f2
      rcases hp with ⟨q1, q2, q3⟩ | ⟨q1, q2, q3⟩
      · subst q2
        rw [if_pos q1, if_neg (show ¬ (1 : Int32) = 0 by decide)]
        obtain ⟨e1, e2, e3, e4⟩ := hg (adv B len st) g1 q1
        have e3' : (Q (adv B len st)).2.2.2.2.1.length + (adv B len st).1 ≤ st.2.2.2.1.length + (Q (adv B len st)).2.1 := e3
        have hs := g.2.2.2.1 (by omega)
        have g6 := g.2.2.2.2.2.1
        have hl := h.1.2.1
        have a1 := e1.1
        have a2 := e1.2.1
        refine gv_v (m_stepw q3 hT (by omega) 2 124) ?_
        intro _ τ3 ⟨h3, f3⟩
        refine gv_w (ih m' τ3 _ ?_ (by omega) h3 ⟨e1.1, e1.2.1, e1.2.2.1, e1.2.2.2.1, e1.2.2.2.2.1, ?_, e1.2.2.2.2.2.2⟩) (fun r ρ hr => PM_t (f12.t f3) hr)
        · show 96 ≤ (Q (adv B len st)).2.1 + f; omega
        · have el : (emt (Q (adv B len st)).2 (2, 124)).2.2.2.1.length = (Q (adv B len st)).2.2.2.2.1.length + 1 := by simp [emt]
          rw [el]; show _ ≤ (Q (adv B len st)).2.1; omega
      · subst q2
        rw [if_neg (show ¬ (Q (adv B len st)).1 = true by rw [q1]; decide), if_pos rfl]
        exact gv_i ⟨.inr ⟨rfl, rfl, q3⟩, f12⟩
    by_cases ck : st.2.2.1 = 3 ∧ S5 (B st.1) = true
    · rw [if_pos ck]
      have c0 : st.2.2.1 = 3 ∧ B st.1 = 124 := ⟨ck.1, by have := ck.2; simp only [S5, beq_iff_eq] at this; exact this⟩
      have z := key ck
      simp only [c0, and_self, ↓reduceIte, show ¬ (1 : Int32) = 0 by decide] at z ⊢
      exact z
    · rw [if_neg ck]
      have n1 : ¬ (st.2.2.1 = 3 ∧ B st.1 = 124) := fun e => ck ⟨e.1, by rw [e.2]; rfl⟩
      simp only [n1, ↓reduceIte]
      exact gv_i ⟨.inl ⟨rfl, rfl, h⟩, FM.r T ρ⟩
theorem m_either {key : Nat} {R : Sg → Int32 → RO} {x1 : Int32} {Q : ST → PR} (hT : T + 192 ≤ 2350) (hg : PG B len key Q) (hR : MSim B len T o n (fun ρ => R ρ x1) Q) : MSim B len T o n (fun ρ => s_X11_either R ρ x1) (pOr B len Q) := by
  intro ρ st h g
  show Gv (s_X11_either R ρ x1) (PMo B len T o n (pBin B len (pAnd B len Q) S5 st) ρ)
  unfold s_X11_either pBin
  refine gv_n ((m_both hT hg hR) ρ st h g) ?_
  intro r τ1 ⟨hp, f1⟩
  rcases hp with ⟨q1, q2, q3⟩ | ⟨q1, q2, q3⟩
  · subst q2
    rw [if_pos q1, if_neg (show ¬ (1 : Int32) = 0 by decide)]
    exact gv_w (m_either_l hT (and_g hg) (m_both hT hg hR) 96 FU τ1 _ (by omega) (by decide) q3 ((and_g hg) st g q1).1) (fun r ρ hr => PM_t f1 hr)
  · subst q2
    rw [if_neg (show ¬ _ = true by rw [q1]; decide), if_pos rfl]
    exact gv_i ⟨.inr ⟨rfl, rfl, q3⟩, f1⟩
end msim
