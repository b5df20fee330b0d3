theorem by952 : sByt 952 = [119, 104, 108, 117] := by decide
theorem by953 : sByt 953 = [120, 121, 119, 104, 112, 116, 103] := by decide
theorem by950 : sByt 950 = [97, 108, 108] := by decide
theorem by951 : sByt 951 = [98, 108, 111, 99, 107] := by decide
theorem ixo_m (x : Int32) (l : List Int32) : ∀ k, k + l.length < 1000 → ((0 ≤ ixo x l k) ↔ x ∈ l) := by
  induction l with
  | nil => intro k _; simp [ixo]
  | cons b l ih =>
    intro k hk
    have hk' : k + (l.length + 1) < 1000 := hk
    unfold ixo
    by_cases c : b = x
    · rw [if_pos c]
      simp only [c, List.mem_cons, true_or, iff_true]
      exact nI_pos' (by omega)
    · rw [if_neg c, ih (k + 1) (by omega)]
      have c' : ¬ x = b := fun e => c e.symm
      simp [c']
theorem chr_e {v : Int32} (h : sm 255 v) : (v.toUInt32 % 65536).toInt32 = v := by
  obtain ⟨t, ht, rfl⟩ := h
  rw [pk_char, pk_tn (by omega), Nat.mod_eq_of_lt (by omega)]
section cpc
variable {B : Nat → Int32} {len key : Nat}
theorem nm_e' {v : Int32} (hk : key ≤ 8) : (0 ≤ ixo v (if key = 8 then sByt 952 else sByt 953) 0) ↔ isNm key v = true := by
  unfold isNm
  by_cases c : key = 8
  · rw [if_pos c, if_pos c, by952, ixo_m _ _ _ (by simp)]
    simp [List.mem_cons, or_assoc]
  · rw [if_neg c, if_neg c, by953, ixo_m _ _ _ (by simp)]
    simp [List.mem_cons, or_assoc]
/-- an operand is written, and the reader goes on -/
theorem c_opn {τ : Sg} {st : ST} (h : CI B len key τ st) (g : Good B len st) (hk : st.2.2.1 ≠ 0) {t : Nat × Int32} {x : Int32} (hx : x = enc t) : Gv (bv (s_X9_add (up τ 116 1 (τ 116 1 + 1)) 116 x) fun s2 => some (0, s2)) (fun _ ρ => CI B len key ρ (emo st t) ∧ FR τ ρ) := by
  have hs := g.2.2.2.1 hk
  have g6 := g.2.2.2.2.2.1
  have hl := h.1.2.1
  have f0 : FR τ (up τ 116 1 (nI (st.2.2.2.2 + 1))) := ⟨fun c _ h2 _ => up_d h2, fun j _ _ _ => by rw [up_d (by omega)]⟩
  have h' : CI B len key (up τ 116 1 (nI (st.2.2.2.2 + 1))) (st.1, st.2.1, st.2.2.1, st.2.2.2.1, st.2.2.2.2 + 1) := by
    refine ⟨CB_f h.1 f0, ⟨?_, ?_, ?_⟩, ?_, ?_, ?_, ?_⟩
    · rw [up_d (by omega)]; exact h.2.1.1
    · rw [up_d (by omega)]; exact h.2.1.2.1
    · rw [up_d (by omega)]; exact h.2.1.2.2
    · rw [up_f, ua_n (by omega)]; exact h.2.2.1
    · rw [up_f, ua_s]
    · rw [up_f, ua_n (by omega)]; exact h.2.2.2.2.1
    · intro i u hu; rw [up_d (by omega)]; exact h.2.2.2.2.2 i u hu
  rw [h.2.2.2.1, nI_1, x9_add h'.2.2.2.2.1 (by show st.2.2.2.1.length < 96; omega), bv_some]
  obtain ⟨a, b⟩ := add_ci h' hx
  exact gv_i ⟨a, f0.t b⟩
theorem c_adv' {τ : Sg} {st : ST} (h : CI B len key τ st) (he : st.2.1 ≤ len) (hk : st.2.2.1 ≤ 4) (h3 : st.2.2.1 = 3 → st.1 < len) : Gv (s_X3_advance τ) (fun _ ρ => CI B len key ρ (adv B len st) ∧ FR τ ρ) := by
  refine gv_w (x3_advance h.1 h.2.1 he hk h3) ?_
  intro _ ρ ⟨t, f⟩
  refine ⟨⟨CB_f h.1 f.fr, t, ?_, ?_, ?_, ?_⟩, f.fr⟩
  · rw [f.1 116 (by omega)]; exact h.2.2.1
  · rw [f.1 116 (by omega)]; exact h.2.2.2.1
  · rw [f.1 116 (by omega)]; exact h.2.2.2.2.1
  · intro i u hu; rw [f.1 117 (by omega)]; exact h.2.2.2.2.2 i u hu
theorem c_num {τ : Sg} {st : ST} (h : CI B len key τ st) (g : Good B len st) (hk : st.2.2.1 = 2) : Gv (s_X3_readNumber τ) (PC B len key (if st.2.1 - st.1 ≤ 4 then (true, adv B len (emo st (0, nmA B st.1 (st.2.1 - st.1)))) else (false, st)) τ) := by
  have hs := g.2.2.2.1 (by omega)
  have hl := h.1.2.1
  have ge := g.2.1
  unfold s_X3_readNumber
  rw [h.2.1.1, h.2.1.2.1, pk_sub g.1]
  have e4 : (nI (st.2.1 - st.1) ≤ 4) = (st.2.1 - st.1 ≤ 4) := propext (nI_leI (b := 4) (by omega) (by omega))
  simp only [e4]
  by_cases c : st.2.1 - st.1 ≤ 4
  · rw [if_pos c, if_pos c, lt_e]
    have key := loop0 (fun m i v => s_X3_readNumber_22 m τ v (nI (st.1 + i))) (fun v => bv (s_X9_addNumber τ 116 v) fun s1 => bv (s_X3_advance s1) fun s2 => some (1, s2)) (fun i v => v * 10 + (B (st.1 + i) - 48)) (st.2.1 - st.1) 0 (by omega) ?_ ?_
    · refine gv_e key ?_
      show Gv (bv (s_X9_addNumber τ 116 (nmA B st.1 (st.2.1 - st.1))) _) _
      unfold s_X9_addNumber
      rw [lt_e]
      refine gv_v (c_opn (t := (0, nmA B st.1 (st.2.1 - st.1))) h g (by omega) rfl) ?_
      intro _ τ1 ⟨h1, f1⟩
      refine gv_v (c_adv' h1 g.2.1 g.2.2.1 (fun _ => hs.1)) ?_
      intro _ τ2 ⟨h2, f2⟩
      exact gv_i ⟨.inl ⟨rfl, rfl, h2⟩, f1.t f2⟩
    · intro m i v hi
      simp only [s_X3_readNumber_22]
      simp (disch := omega) only [h.2.1.2.1, le_F, ↓reduceIte, inb_n, cl_nI, lt_e, (h.1.2.2 (st.1 + i) (by omega)).1, nI_1]
      rfl
    · intro m v
      simp only [s_X3_readNumber_22]
      simp (disch := omega) only [h.2.1.2.1, le_T, ↓reduceIte]
  · rw [if_neg c, if_neg c]
    exact gv_i ⟨.inr ⟨rfl, rfl, CI_f h (Gl h g)⟩, FR.r τ⟩
theorem c_name {τ : Sg} {st : ST} (h : CI B len key τ st) (g : Good B len st) (hk : st.2.2.1 = 1) (h8 : key ≤ 8) : Gv (s_X3_readName τ) (PC B len key (if st.2.1 - st.1 = 1 ∧ isNm key (B st.1) = true then (true, adv B len (emo st (1, B st.1))) else (false, st)) τ) := by
  have hs := g.2.2.2.1 (by omega)
  have hl := h.1.2.1
  have ge := g.2.1
  have hB := (h.1.2.2 st.1 hs.1)
  have hc1 : ¬ (st.2.1 - st.1 = 1) → CF B len key τ st.1 := fun _ => CI_f h (Gl h g)
  have body : ∀ r0, sByt r0 = (if key = 8 then sByt 952 else sByt 953) → Gv (s_X3_readName_17 τ r0) (PC B len key (if st.2.1 - st.1 = 1 ∧ isNm key (B st.1) = true then (true, adv B len (emo st (1, B st.1))) else (false, st)) τ) := by
    intro r0 hr
    unfold s_X3_readName_17 s_J0_indexOf_0f7a4
    rw [h.2.1.1, h.2.1.2.1, pk_sub g.1]
    have e1 : (nI (st.2.1 - st.1) = 1) = (st.2.1 - st.1 = 1) := ieq (b := 1) (by omega) (by omega)
    simp (disch := omega) only [e1, inb_n, cl_nI, ↓reduceIte, bn_some, hB.1, chr_e hB.2, hr, h.2.1.1, nm_e' h8]
    by_cases c : st.2.1 - st.1 = 1
    · by_cases c2 : isNm key (B st.1) = true
      · simp only [c, c2, ↓reduceIte, and_self]
        unfold s_X9_addName
        rw [lt_e]
        refine gv_v (c_opn (t := (1, B st.1)) h g (by omega) (by simp [enc])) ?_
        intro _ τ1 ⟨h1, f1⟩
        refine gv_v (c_adv' h1 g.2.1 g.2.2.1 (fun _ => hs.1)) ?_
        intro _ τ2 ⟨h2, f2⟩
        exact gv_i ⟨.inl ⟨rfl, rfl, h2⟩, f1.t f2⟩
      · simp only [c, c2, ↓reduceIte, and_false]
        exact gv_i ⟨.inr ⟨rfl, rfl, CI_f h (Gl h g)⟩, FR.r τ⟩
    · simp only [c, ↓reduceIte, false_and]
      exact gv_i ⟨.inr ⟨rfl, rfl, CI_f h (Gl h g)⟩, FR.r τ⟩
  unfold s_X3_readName s_X9_isOfAll
  rw [h.2.2.1]
  have ek : (nI key = 8) = (key = 8) := ieq (b := 8) (by omega) (by omega)
  simp only [ek]
  by_cases c : key = 8
  · simp only [c, ↓reduceIte, bn_some, show ¬ (1 : Int32) = 0 by decide]
    have := body 952 (by rw [if_pos c])
    rw [c] at this
    exact this
  · simp only [c, ↓reduceIte, bn_some]
    exact body 953 (by rw [if_neg c])
theorem c_piece {R : Sg → Int32 → Int32 → RO} {Qn Qo : ST → PR} {o n : Nat} (h8 : key ≤ 8) (ho8 : o ≤ 8) (hn8 : n ≤ 8) (gn : PG B len key Qn) (go : PG B len key Qo) (hn : n < 8 → CSim B len key (fun τ => R τ (nI o) (nI (n + 1))) Qn) (ho : o < 8 → CSim B len key (fun τ => R τ (nI (o + 1)) (nI n)) Qo) : CSim B len key (fun τ => s_X3_readPiece R τ (nI o) (nI n)) (pPiece B len key Qn Qo o n) := by
  intro τ st h g
  have hl := h.1.2.1
  have sB : st.2.2.1 = 3 → sm 255 (B st.1) := fun e => (h.1.2.2 _ (g.2.2.2.1 (by omega)).1).2
  have t5 := h.2.1.2.2
  have k2 : (τ 114 5 = -3) = (st.2.2.1 = 2) := by rw [t5]; exact tk_3 g.2.2.1 sB
  have k1 : (τ 114 5 = -2) = (st.2.2.1 = 1) := by rw [t5]; exact tk_2 g.2.2.1 sB
  have k33 := CI_t h g (show (0 : Int32) ≤ 33 by decide)
  have k40 := CI_t h g (show (0 : Int32) ≤ 40 by decide)
  show Gv (s_X3_readPiece R τ (nI o) (nI n)) (PC B len key (pPiece B len key Qn Qo o n st) τ)
  unfold s_X3_readPiece pPiece
  simp only [ti_m3, ti_m2, ti_33, ti_40, k2, k1, k33, k40]
  have z01 : ∀ {q : PR} {τ0 : Sg} {r : Int32} {ρ : Sg}, PC B len key q τ0 r ρ → Gv (if r = 0 ∨ r = 1 then some (r, ρ) else none) (PC B len key q τ0) := by
    intro q τ0 r ρ hp
    have : r = 0 ∨ r = 1 := by
      rcases hp.1 with ⟨_, e, _⟩ | ⟨_, e, _⟩
      · exact .inr e
      · exact .inl e
    rw [if_pos this]; exact gv_i hp
  have z02 : ∀ {q : PR} {τ0 : Sg} {r : Int32} {ρ : Sg}, PC B len key q τ0 r ρ → Gv (if r = 0 then some (0, ρ) else some (1, ρ)) (PC B len key q τ0) := by
    intro q τ0 r ρ hp
    rcases hp.1 with ⟨_, e, _⟩ | ⟨_, e, _⟩
    · rw [e, if_neg (by decide)]; rw [e] at hp; exact gv_i hp
    · rw [e, if_pos rfl]; rw [e] at hp; exact gv_i hp
  have fl : Gv (some ((0 : Int32), τ)) (PC B len key (false, st) τ) := gv_i ⟨.inr ⟨rfl, rfl, CI_f h (Gl h g)⟩, FR.r τ⟩
  by_cases c2 : st.2.2.1 = 2
  · rw [if_pos c2, if_pos c2]
    exact gv_n (c_num h g c2) (fun r ρ hp => z01 hp)
  · rw [if_neg c2, if_neg c2]
    by_cases c1 : st.2.2.1 = 1
    · rw [if_pos c1, if_pos c1]
      exact gv_n (c_name h g c1 h8) (fun r ρ hp => z01 hp)
    · rw [if_neg c1, if_neg c1]
      have g1 : Good B len (adv B len st) := adv_g st.2.2.2.1 st.2.2.2.2 g.2.1 (by have := g.1; have := g.2.2.2.2.2.1; omega)
      have as := adv_s (B := B) (st := st) g.2.1
      by_cases c33 : st.2.2.1 = 3 ∧ B st.1 = 33
      · rw [if_pos c33, if_pos c33]
        have e8 : ((8 : Int32) ≤ nI n) = (8 ≤ n) := propext (nI_leI (a := 8) (by omega) (by omega))
        simp only [e8]
        by_cases c8 : n < 8
        · rw [if_neg (by omega), if_pos c8, nI_1]
          refine gv_n (P := PC B len key (if (Qn (adv B len st)).1 = true then (true, emt (Qn (adv B len st)).2 (2, 33)) else (false, (Qn (adv B len st)).2)) τ) ?_ (fun r ρ hp => z02 hp)
          unfold s_X3_readNot
          refine gv_v (c_adv h g) ?_
          intro _ τ1 ⟨h1, f1⟩
          refine gv_n (hn c8 τ1 (adv B len st) h1 g1) ?_
          intro r τ2 ⟨hp, f2⟩
          have f12 := f1.t f2
          rcases hp with ⟨u1, u2, u3⟩ | ⟨u1, u2, u3⟩
          · subst u2
            rw [if_pos u1]
            obtain ⟨e1, e2, e3, e4⟩ := gn (adv B len st) g1 u1
            have e3' : (Qn (adv B len st)).2.2.2.2.1.length + (adv B len st).1 ≤ st.2.2.2.1.length + (Qn (adv B len st)).2.1 := e3
            have hs := g.2.2.2.1 (by omega)
            have g6 := g.2.2.2.2.2.1
            have a1 := e1.1
            have a2 := e1.2.1
            refine gv_v (c_sign u3 (by omega) 33) ?_
            intro _ τ3 ⟨h3, f3⟩
            exact z01 ⟨.inl ⟨rfl, rfl, h3⟩, f12.t f3⟩
          · subst u2
            rw [if_neg (by rw [u1]; decide)]
            refine gv_v (c_signf u3 33) ?_
            intro _ τ3 ⟨h3, f3⟩
            exact z01 ⟨.inr ⟨rfl, rfl, h3⟩, f12.t f3⟩
        · rw [if_pos (by omega), if_neg c8]; exact fl
      · rw [if_neg c33, if_neg c33]
        by_cases c40 : st.2.2.1 = 3 ∧ B st.1 = 40
        · rw [if_pos c40, if_pos c40]
          have e8 : ((8 : Int32) ≤ nI o) = (8 ≤ o) := propext (nI_leI (a := 8) (by omega) (by omega))
          simp only [e8]
          by_cases c8 : o < 8
          · rw [if_neg (by omega), if_pos c8, nI_1]
            refine gv_n (P := PC B len key (if (pOr B len Qo (adv B len st)).1 = true ∧ (pOr B len Qo (adv B len st)).2.2.2.1 = 3 ∧ B (pOr B len Qo (adv B len st)).2.1 = 41 then (true, adv B len (pOr B len Qo (adv B len st)).2) else (false, (pOr B len Qo (adv B len st)).2)) τ) ?_ (fun r ρ hp => z02 hp)
            unfold s_X3_readOpen
            refine gv_v (c_adv h g) ?_
            intro _ τ1 ⟨h1, f1⟩
            refine gv_n (c_or go (ho c8) τ1 (adv B len st) h1 g1) ?_
            intro r τ2 ⟨hp, f2⟩
            have f12 := f1.t f2
            have gq := or_g go (adv B len st) g1
            generalize pOr B len Qo (adv B len st) = w at *
            rcases hp with ⟨u1, u2, u3⟩ | ⟨u1, u2, u3⟩
            · subst u2
              obtain ⟨gw, _, _, _⟩ := gq u1
              have k41 := CI_t u3 gw (show (0 : Int32) ≤ 41 by decide)
              simp only [show ¬ (1 : Int32) = 0 by decide, ↓reduceIte, k41, u1, true_and]
              by_cases c41 : w.2.2.2.1 = 3 ∧ B w.2.1 = 41
              · rw [if_pos c41, if_pos c41]
                refine gv_v (c_adv u3 gw) ?_
                intro _ τ3 ⟨h3, f3⟩
                exact gv_i ⟨.inl ⟨rfl, rfl, h3⟩, f12.t f3⟩
              · rw [if_neg c41, if_neg c41]
                exact gv_i ⟨.inr ⟨rfl, rfl, CI_f u3 (Gl u3 gw)⟩, f12⟩
            · subst u2
              have nq : ¬ w.1 = true := by rw [u1]; decide
              simp only [↓reduceIte, nq, false_and]
              exact gv_i ⟨.inr ⟨rfl, rfl, u3⟩, f12⟩
          · rw [if_pos (by omega), if_neg c8]; exact fl
        · rw [if_neg c40, if_neg c40]; exact fl
theorem c_pc (h8 : key ≤ 8) : ∀ f o n, o ≤ 8 → n ≤ 8 → 16 < f + o + n → CSim B len key (fun τ => n_X3_readPiece f τ (nI o) (nI n)) (pPc B len key f o n) := by
  intro f
  induction f with
  | zero => intro o n h1 h2 h3; omega
  | succ f ih =>
    intro o n h1 h2 h3
    exact c_piece h8 h1 h2 (pc_g f o (n + 1)) (pc_g f (o + 1) n) (fun h => ih o (n + 1) h1 (by omega) (by omega)) (fun h => ih (o + 1) n (by omega) h2 (by omega))
end cpc
