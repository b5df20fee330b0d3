theorem isName_e (σ : Sg) {key : Nat} (hk : key ≤ 8) (v : Int32) : s_X11_isName σ (nI key) v = some (if isNm key v = true then 1 else 0, σ) := by
  unfold s_X11_isName isNm
  have ek : (nI key = 8) = (key = 8) := ieq (b := 8) (by omega) (by omega)
  simp only [ek, Bool.or_eq_true, beq_iff_eq]
  by_cases c : key = 8
  · simp only [c, ↓reduceIte]
    by_cases c1 : v = 119
    · simp [c1]
    · by_cases c2 : v = 104
      · simp [c2]
      · by_cases c3 : v = 108
        · simp [c3]
        · by_cases c4 : v = 117 <;> simp [c1, c2, c3, c4]
  · simp only [c, ↓reduceIte]
    by_cases c1 : v = 120
    · simp [c1]
    · by_cases c2 : v = 121
      · simp [c2]
      · by_cases c3 : v = 119
        · simp [c3]
        · by_cases c4 : v = 104
          · simp [c4]
          · by_cases c5 : v = 112
            · simp [c5]
            · by_cases c6 : v = 116
              · simp [c6]
              · by_cases c7 : v = 103 <;> simp [c1, c2, c3, c4, c5, c6, c7]
section mpc
variable {B : Nat → Int32} {len T o n key : Nat}
theorem MI_c {ρ : Sg} {s e k c c' : Nat} {L : List (Nat × Int32)} (h : MIr B len T o n ρ (s, e, k, L, c)) : MIr B len T o n (up ρ 150 33 (nI c')) (s, e, k, L, c') ∧ FM T ρ (up ρ 150 33 (nI c')) := by
  obtain ⟨h1, h2, h3, h4, h5, h6, h7, h8⟩ := h
  have f : FM T ρ (up ρ 150 33 (nI c')) := ⟨fun d a _ => up_d a, fun j a => by rw [up_f, ua_n (by omega)], fun j _ => by rw [up_d (by omega)]⟩
  have s150 : ∀ j, j ≠ 33 → up ρ 150 33 (nI c') 150 j = ρ 150 j := fun j hj => by rw [up_f, ua_n hj]
  obtain ⟨a1, a2, a3, a4, a5, a6⟩ := h2
  refine ⟨⟨MB_f h1 f, ⟨?_, ?_, ?_, fun e => ?_, fun e => ?_, fun e e2 => ?_⟩, ?_, ?_, ?_, ?_, ?_, ?_⟩, f⟩
  · rw [s150 _ (by omega)]; exact a1
  · rw [s150 _ (by omega)]; exact a2
  · rw [s150 _ (by omega)]; exact a3
  · rw [s150 _ (by omega)]; exact a4 e
  · rw [s150 _ (by omega)]; exact a5 e
  · rw [s150 _ (by omega)]; exact a6 e e2
  · rw [s150 _ (by omega)]; exact h3
  · rw [s150 _ (by omega)]; exact h4
  · rw [s150 _ (by omega)]; exact h5
  · rw [s150 _ (by omega)]; exact h6
  · rw [up_f, ua_s]
  · intro i u hu; rw [up_d (by omega)]; exact h8 i u hu
theorem MI_o {ρ : Sg} {st : ST} (o' : Nat) (h : MIr B len T o n ρ st) : MIr B len T o' n (up ρ 150 29 (nI o')) st ∧ FM T ρ (up ρ 150 29 (nI o')) := by
  obtain ⟨h1, h2, h3, h4, h5, h6, h7, h8⟩ := h
  have f : FM T ρ (up ρ 150 29 (nI o')) := ⟨fun d a _ => up_d a, fun j a => by rw [up_f, ua_n (by omega)], fun j _ => by rw [up_d (by omega)]⟩
  have s150 : ∀ j, j ≠ 29 → up ρ 150 29 (nI o') 150 j = ρ 150 j := fun j hj => by rw [up_f, ua_n hj]
  obtain ⟨a1, a2, a3, a4, a5, a6⟩ := h2
  refine ⟨⟨MB_f h1 f, ⟨?_, ?_, ?_, fun e => ?_, fun e => ?_, fun e e2 => ?_⟩, ?_, ?_, ?_, ?_, ?_, ?_⟩, f⟩
  · rw [s150 _ (by omega)]; exact a1
  · rw [s150 _ (by omega)]; exact a2
  · rw [s150 _ (by omega)]; exact a3
  · rw [s150 _ (by omega)]; exact a4 e
  · rw [s150 _ (by omega)]; exact a5 e
  · rw [s150 _ (by omega)]; exact a6 e e2
  · rw [up_f, ua_s]
  · rw [s150 _ (by omega)]; exact h4
  · rw [s150 _ (by omega)]; exact h5
  · rw [s150 _ (by omega)]; exact h6
  · rw [s150 _ (by omega)]; exact h7
  · intro i u hu; rw [up_d (by omega)]; exact h8 i u hu
theorem MI_n {ρ : Sg} {st : ST} (n' : Nat) (h : MIr B len T o n ρ st) : MIr B len T o n' (up ρ 150 30 (nI n')) st ∧ FM T ρ (up ρ 150 30 (nI n')) := by
  obtain ⟨h1, h2, h3, h4, h5, h6, h7, h8⟩ := h
  have f : FM T ρ (up ρ 150 30 (nI n')) := ⟨fun d a _ => up_d a, fun j a => by rw [up_f, ua_n (by omega)], fun j _ => by rw [up_d (by omega)]⟩
  have s150 : ∀ j, j ≠ 30 → up ρ 150 30 (nI n') 150 j = ρ 150 j := fun j hj => by rw [up_f, ua_n hj]
  obtain ⟨a1, a2, a3, a4, a5, a6⟩ := h2
  refine ⟨⟨MB_f h1 f, ⟨?_, ?_, ?_, fun e => ?_, fun e => ?_, fun e e2 => ?_⟩, ?_, ?_, ?_, ?_, ?_, ?_⟩, f⟩
  · rw [s150 _ (by omega)]; exact a1
  · rw [s150 _ (by omega)]; exact a2
  · rw [s150 _ (by omega)]; exact a3
  · rw [s150 _ (by omega)]; exact a4 e
  · rw [s150 _ (by omega)]; exact a5 e
  · rw [s150 _ (by omega)]; exact a6 e e2
  · rw [s150 _ (by omega)]; exact h3
  · rw [up_f, ua_s]
  · rw [s150 _ (by omega)]; exact h5
  · rw [s150 _ (by omega)]; exact h6
  · rw [s150 _ (by omega)]; exact h7
  · intro i u hu; rw [up_d (by omega)]; exact h8 i u hu
/-- an operand is written, and the reader goes on -/
theorem m_opn {ρ : Sg} {st : ST} (hT : T + 192 ≤ 2350) (h : MIr B len T o n ρ st) (g : Good B len st) (hk : st.2.2.1 = 1 ∨ st.2.2.1 = 2) (h4 : st.2.2.1 = 2 → st.2.1 - st.1 ≤ 4) (w : Nat) (v : Int32) : Gv (bv (s_X11_step ρ (nI w) v) fun s1 => lt (up s1 150 33 (s1 150 33 + 1)) fun s2 => bv (s_X11_next s2) fun s3 => some (1, s3)) (fun r κ => r = 1 ∧ MIr B len T o n κ (adv B len (emo st (w, v))) ∧ FM T ρ κ) := by
  have hs := g.2.2.2.1 (by omega)
  have g6 := g.2.2.2.2.2.1
  have hl := h.1.2.1
  refine gv_v (m_stepw h hT (by omega) w v) ?_
  intro _ τ1 ⟨h1, f1⟩
  rw [lt_e, h1.2.2.2.2.2.2.1, nI_1]
  obtain ⟨h2, f2⟩ := MI_c (c' := st.2.2.2.2 + 1) h1
  refine gv_v (m_adv h2 g.2.1 g.2.2.1 (fun _ => by show 0 < st.2.1; omega) h4) ?_
  intro _ τ2 ⟨h3, f3⟩
  exact gv_i ⟨rfl, h3, (f1.t f2).t f3⟩
theorem m_piece {R : Sg → Int32 → RO} {Qn Qo : ST → PR} (hT : T + 192 ≤ 2350) (h8 : key ≤ 8) (ho8 : o ≤ 8) (hn8 : n ≤ 8) (gn : PG B len key Qn) (go : PG B len key Qo) (hn : n < 8 → MSim B len T o (n + 1) (fun ρ => R ρ (nI key)) Qn) (ho : o < 8 → MSim B len T (o + 1) n (fun ρ => R ρ (nI key)) Qo) : MSim B len T o n (fun ρ => s_X11_part0 R ρ (nI key)) (pPiece B len key Qn Qo o n) := by
  intro ρ st h g
  have hl := h.1.2.1
  have hk4 := g.2.2.1
  have gse := g.1
  have gel := g.2.1
  have t6 := h.2.1.2.2.1
  have k2 : (tkM st.2.2.1 (st.2.1 - st.1) = 2) = (st.2.2.1 = 2 ∧ st.2.1 - st.1 ≤ 4) := by
    have : st.2.2.1 = 0 ∨ st.2.2.1 = 1 ∨ st.2.2.1 = 2 ∨ st.2.2.1 = 3 ∨ st.2.2.1 = 4 := by omega
    rcases this with e | e | e | e | e <;> rw [e] <;> by_cases c : st.2.1 - st.1 ≤ 4 <;> simp [tkM, c]
  have k1 : (tkM st.2.2.1 (st.2.1 - st.1) = 1) = (st.2.2.1 = 1) := by
    have : st.2.2.1 = 0 ∨ st.2.2.1 = 1 ∨ st.2.2.1 = 2 ∨ st.2.2.1 = 3 ∨ st.2.2.1 = 4 := by omega
    rcases this with e | e | e | e | e <;> rw [e] <;> by_cases c : st.2.1 - st.1 ≤ 4 <;> simp [tkM, c]
  show Gv (s_X11_part0 R ρ (nI key)) (PMo B len T o n (pPiece B len key Qn Qo o n st) ρ)
  have fl : Gv (some ((0 : Int32), ρ)) (PMo B len T o n (false, st) ρ) := gv_i ⟨.inr ⟨rfl, rfl, h.2.1.1⟩, FM.r T ρ⟩
  have f145 : ¬ (st.2.2.1 = 3 ∧ B st.1 = 40) → Gv (s_X11_part0_145 R ρ (nI key)) (PMo B len T o n (false, st) ρ) := by
    intro c
    unfold s_X11_part0_145
    simp only [MI_s h g, bn_some, c, ↓reduceIte]
    exact fl
  have f84 : st.2.2.1 ≠ 3 → Gv (s_X11_part0_84 R ρ (nI key)) (PMo B len T o n (false, st) ρ) := by
    intro c
    unfold s_X11_part0_84
    simp only [MI_s h g, bn_some, c, false_and, ↓reduceIte]
    exact f145 (fun e => c e.1)
  unfold s_X11_part0 pPiece
  rw [t6]
  simp only [k2, k1]
  by_cases c2 : st.2.2.1 = 2
  · by_cases c4 : st.2.1 - st.1 ≤ 4
    · simp only [c2, c4, and_self, ↓reduceIte]
      rw [h.2.1.2.2.2.2.2 c2 c4]
      refine gv_w (m_opn hT h g (.inr c2) (fun _ => c4) 0 (nmA B st.1 (st.2.1 - st.1))) ?_
      intro r κ ⟨e, m, f⟩
      exact ⟨.inl ⟨rfl, e, m⟩, f⟩
    · simp only [c2, c4, and_false, ↓reduceIte, show ¬ 2 = 1 by omega]
      exact f84 (by omega)
  · simp only [c2, false_and, ↓reduceIte]
    by_cases c1 : st.2.2.1 = 1
    · simp only [c1, ↓reduceIte]
      rw [h.2.1.2.2.2.1 c1]
      by_cases cs : st.2.1 - st.1 = 1
      · simp only [cs, ↓reduceIte, true_and]
        by_cases c0 : B st.1 = 0
        · have nn : ¬ isNm key (B st.1) = true := by
            rw [c0]; unfold isNm; split <;> decide
          simp only [c0] at nn
          simp only [c0, ↓reduceIte, nn]
          exact f84 (by omega)
        · simp only [c0, ↓reduceIte, isName_e _ h8, bn_some]
          by_cases cn : isNm key (B st.1) = true
          · simp only [cn, ↓reduceIte, show ¬ (1 : Int32) = 0 by decide]
            have el : ρ 150 28 = B st.1 := by rw [h.2.1.2.2.2.1 c1, if_pos cs]
            rw [el]
            refine gv_w (m_opn hT h g (.inl c1) (fun e => by omega) 1 (B st.1)) ?_
            intro r κ ⟨e, m, f⟩
            exact ⟨.inl ⟨rfl, e, m⟩, f⟩
          · simp only [cn, ↓reduceIte]
            exact f84 (by omega)
      · simp only [cs, ↓reduceIte, false_and]
        exact f84 (by omega)
    · simp only [c1, ↓reduceIte]
      have g1 : Good B len (adv B len st) := adv_g st.2.2.2.1 st.2.2.2.2 g.2.1 (by have := g.1; have := g.2.2.2.2.2.1; omega)
      have as := adv_s (B := B) (st := st) g.2.1
      unfold s_X11_part0_84
      simp only [MI_s h g, bn_some]
      by_cases c33 : st.2.2.1 = 3 ∧ B st.1 = 33
      · rw [if_pos c33, if_pos c33, if_neg (show ¬ (1 : Int32) = 0 by decide)]
        rw [h.2.2.2.1]
        have e8 : ((8 : Int32) ≤ nI n) = (8 ≤ n) := propext (nI_leI (a := 8) (by omega) (by omega))
        simp only [e8]
        by_cases c8 : n < 8
        · rw [if_neg (by omega), if_pos c8, nI_1, lt_e]
          obtain ⟨h0, f0⟩ := MI_n (n + 1) h
          refine gv_v (m_adv3 h0 g c33.1) ?_
          intro _ τ1 ⟨h1, f1⟩
          refine gv_n (hn c8 τ1 (adv B len st) h1 g1) ?_
          intro r τ2 ⟨hp, f2⟩
          have f12 := (f0.t f1).t f2
          rcases hp with ⟨u1, u2, u3⟩ | ⟨u1, u2, u3⟩
          · subst u2
            rw [if_pos u1, if_neg (show ¬ (1 : Int32) = 0 by decide), lt_e, u3.2.2.2.1, show nI (n + 1) - 1 = nI n from nI_pred n]
            obtain ⟨e1, e2, e3, e4⟩ := gn (adv B len st) g1 u1
            have e3' : (Qn (adv B len st)).2.2.2.2.1.length + (adv B len st).1 ≤ st.2.2.2.1.length + (Qn (adv B len st)).2.1 := e3
            have hs := g.2.2.2.1 (by omega)
            have g6 := g.2.2.2.2.2.1
            have a1 := e1.1
            have a2 := e1.2.1
            obtain ⟨h3, f3⟩ := MI_n n u3
            refine gv_v (m_stepw h3 hT (by omega) 2 33) ?_
            intro _ τ4 ⟨h4, f4⟩
            exact gv_i ⟨.inl ⟨rfl, rfl, h4⟩, (f12.t f3).t f4⟩
          · subst u2
            rw [if_neg (show ¬ _ = true by rw [u1]; decide), if_pos rfl]
            exact gv_i ⟨.inr ⟨rfl, rfl, u3⟩, f12⟩
        · rw [if_pos (by omega), if_neg c8]
          exact f145 (fun e => by rw [c33.2] at e; exact absurd e.2 (by decide))
      · rw [if_neg c33, if_neg c33, if_pos rfl]
        unfold s_X11_part0_145
        simp only [MI_s h g, bn_some]
        by_cases c40 : st.2.2.1 = 3 ∧ B st.1 = 40
        · rw [if_pos c40, if_pos c40, if_neg (show ¬ (1 : Int32) = 0 by decide)]
          rw [h.2.2.1]
          have e8 : (nI o = 8) = (o = 8) := ieq (b := 8) (by omega) (by omega)
          simp only [e8]
          by_cases c8 : o < 8
          · rw [if_neg (by omega), if_pos c8, nI_1, lt_e]
            obtain ⟨h0, f0⟩ := MI_o (o + 1) h
            refine gv_v (m_adv3 h0 g c40.1) ?_
            intro _ τ1 ⟨h1, f1⟩
            refine gv_n (m_either hT go (ho c8) τ1 (adv B len st) h1 g1) ?_
            intro r τ2 ⟨hp, f2⟩
            have f12 := (f0.t f1).t f2
            have gq := or_g go (adv B len st) g1
            generalize pOr B len Qo (adv B len st) = w at *
            rcases hp with ⟨u1, u2, u3⟩ | ⟨u1, u2, u3⟩
            · subst u2
              obtain ⟨gw, _, _, _⟩ := gq u1
              simp only [show ¬ (1 : Int32) = 0 by decide, ↓reduceIte, MI_s u3 gw, bn_some, u1, true_and]
              by_cases c41 : w.2.2.2.1 = 3 ∧ B w.2.1 = 41
              · rw [if_pos c41, if_pos c41, if_neg (show ¬ (1 : Int32) = 0 by decide), lt_e, u3.2.2.1, show nI (o + 1) - 1 = nI o from nI_pred o]
                obtain ⟨h3, f3⟩ := MI_o o u3
                refine gv_v (m_adv3 h3 gw c41.1) ?_
                intro _ τ4 ⟨h4, f4⟩
                exact gv_i ⟨.inl ⟨rfl, rfl, h4⟩, (f12.t f3).t f4⟩
              · rw [if_neg c41, if_neg c41, if_pos rfl]
                exact gv_i ⟨.inr ⟨rfl, rfl, u3.2.1.1⟩, f12⟩
            · subst u2
              have nq : ¬ w.1 = true := by rw [u1]; decide
              simp only [↓reduceIte, nq, false_and]
              exact gv_i ⟨.inr ⟨rfl, rfl, u3⟩, f12⟩
          · rw [if_pos (by omega), if_neg c8]; exact fl
        · rw [if_neg c40, if_neg c40, if_pos rfl]; exact fl
theorem m_pc (hT : T + 192 ≤ 2350) (h8 : key ≤ 8) : ∀ f o n, o ≤ 8 → n ≤ 8 → 16 < f + o + n → MSim B len T o n (fun ρ => n_X11_part0 f ρ (nI key)) (pPc B len key f o n) := by
  intro f
  induction f with
  | zero => intro o n h1 h2 h3; omega
  | succ f ih =>
    intro o n h1 h2 h3
    exact m_piece hT h8 h1 h2 (pc_g f o (n + 1)) (pc_g f (o + 1) n) (fun h => ih o (n + 1) h1 (by omega) (by omega)) (fun h => ih (o + 1) n (by omega) h2 (by omega))
end mpc
