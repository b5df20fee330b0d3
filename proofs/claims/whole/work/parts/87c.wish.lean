section wsh
variable {B : Nat → Int32} {len : Nat}
theorem pKy_L : (pKy B len).2.2.2.2.2.1 = [] ∧ (pKy B len).2.2.2.2.2.2 = 0 := by
  unfold pKy
  split
  · exact ⟨rfl, rfl⟩
  · split
    · split <;> exact ⟨rfl, rfl⟩
    · exact ⟨rfl, rfl⟩
theorem pTx_ok (hl : len ≤ 96) (h : (pTx B len).1 = true) : TXok (pTx B len).2.1 (pTx B len).2.2.2.2.2.1 := by
  unfold pTx at h ⊢
  by_cases c : (pHd B len).1 = true
  · rw [if_pos c] at h ⊢
    obtain ⟨g, k8, hL⟩ := pHd_g c
    by_cases c2 : (pOr B len (pPc B len (pHd B len).2.1 20 0 0) (pHd B len).2.2).1 = true ∧ (pOr B len (pPc B len (pHd B len).2.1 20 0 0) (pHd B len).2.2).2.2.2.1 = 0
    · rw [if_pos c2] at h ⊢
      obtain ⟨g1, _, _, M, e1, e2, e3⟩ := or_g (pc_g (B := B) (len := len) (key := (pHd B len).2.1) 20 0 0) (pHd B len).2.2 g c2.1
      rw [hL, List.nil_append] at e1
      refine ⟨k8, ?_, ?_, ?_⟩
      · have a := g1.2.2.2.2.2.1
        have b := g1.1
        have d := g1.2.1
        show (pOr B len (pPc B len (pHd B len).2.1 20 0 0) (pHd B len).2.2).2.2.2.2.1.length ≤ 96
        omega
      · show dep (pOr B len (pPc B len (pHd B len).2.1 20 0 0) (pHd B len).2.2).2.2.2.2.1 0 = some 1
        rw [e1]; exact e2 0
      · show ∀ t, t ∈ (pOr B len (pPc B len (pHd B len).2.1 20 0 0) (pHd B len).2.2).2.2.2.2.1 → vtk (pHd B len).2.1 t
        rw [e1]; exact e3
    · rw [if_neg c2] at h; exact absurd h (by simp)
  · rw [if_neg c] at h; exact absurd h (by simp)
def FMp (T : Nat) (ρ κ : Sg) : Prop := (∀ c, c ≠ 150 → c ≠ 151 → κ c = ρ c) ∧ (∀ j, j < 23 ∨ 33 < j → κ 150 j = ρ 150 j) ∧ (∀ j, j < T ∨ T + 192 ≤ j → κ 151 j = ρ 151 j)
theorem m_parse60 {ρ : Sg} {T : Nat} (hT : T + 192 ≤ 2350) (hc : MB ρ B len) (h25 : ρ 150 25 = 0) (h29 : ρ 150 29 = 0) (h30 : ρ 150 30 = 0) (h31 : ρ 150 31 = 0) (h33 : ρ 150 33 = 0) : Gv (s_X11_parse_60 ρ 150 (nI T)) (fun r κ => (((pTx B len).1 = true ∧ r = nI (pTx B len).2.1 ∧ (∀ i t, (pTx B len).2.2.2.2.2.1[i]? = some t → κ 151 (T + 2 * i) = nI t.1 ∧ κ 151 (T + 2 * i + 1) = t.2) ∧ κ 150 31 = nI (pTx B len).2.2.2.2.2.1.length ∧ κ 150 33 = nI (pTx B len).2.2.2.2.2.2) ∨ ((pTx B len).1 = false ∧ r = -1 ∧ κ 150 24 = nI (pTx B len).2.2.1)) ∧ κ 150 23 = 0 ∧ FMp T ρ κ) := by
  unfold s_X11_parse_60
  rw [lt_e]
  have hc1 : MB (up ρ 150 32 (nI T)) B len := MB_u hc (by omega) _
  have f0 : FM T ρ (up ρ 150 32 (nI T)) := ⟨fun c a _ => up_d a, fun j a => by rw [up_f, ua_n (by omega)], fun j _ => by rw [up_d (by omega)]⟩
  refine gv_v (m_next0 hc1 (by rw [up_f, ua_n (by omega)]; exact h25)) ?_
  intro _ τ1 ⟨t1, f1⟩
  have f1k := f1.k
  refine gv_n (m_key (MB_k hc1 f1k) t1) ?_
  intro r τ2 ⟨k1, k2, f2⟩
  have f12 := f1k.t f2
  have fm2 : FM T ρ τ2 := f0.t ⟨fun c a _ => f12.1 c a, fun j a => f12.2 j (by omega), fun j _ => by rw [f12.1 151 (by omega)]⟩
  have fin : ∀ (v : Int32) (κ : Sg), FM T ρ κ → FMp T ρ (up κ 150 23 0) := fun v κ f => ⟨fun c a b => by rw [up_d a]; exact f.1 c a b, fun j a => by rw [up_f, ua_n (by omega)]; exact f.2.1 j (by omega), fun j a => by rw [up_d (by omega)]; exact f.2.2 j a⟩
  have hH := pKy_h (B := B) (len := len)
  have e150 : ∀ j, j < 24 ∨ 28 < j → j ≠ 32 → τ2 150 j = ρ 150 j := fun j a b => by rw [f12.2 j a, up_f, ua_n b]
  have hMB2 : MB τ2 B len := MB_k hc1 f12
  by_cases ck : (pKy B len).1 = true
  · obtain ⟨r1, r2, r3, r4, r5⟩ := k1 ck
    subst r1
    have hd1 : (pHd B len).1 = true := by rw [hH]; exact ck
    have hd2 : (pHd B len).2.1 = (pKy B len).2.1 := by rw [hH]
    have hd3 : (pHd B len).2.2 = adv B len (pKy B len).2.2 := by rw [hH]; exact if_pos ck
    have c0 : ¬ nI (pKy B len).2.1 < 0 := nI_pos (by omega)
    rw [if_neg c0]
    unfold s_X11_parse_81
    rw [if_neg (show ¬ (1 : Int32) = 0 by decide)]
    obtain ⟨l1, l2⟩ := pKy_L (B := B) (len := len)
    have hm : MIr B len T 0 0 τ2 (pKy B len).2.2 := by
      refine ⟨hMB2, r3, ?_, ?_, ?_, ?_, ?_, ?_⟩
      · rw [e150 29 (by omega) (by omega)]; exact h29
      · rw [e150 30 (by omega) (by omega)]; exact h30
      · rw [e150 31 (by omega) (by omega), l1]; exact h31
      · rw [f12.2 32 (by omega), up_f, ua_s]
      · rw [e150 33 (by omega) (by omega), l2]; exact h33
      · intro i t hi; rw [l1] at hi; simp at hi
    refine gv_v (m_adv hm r4.2.1 r4.2.2.1 (fun e => by have := (r4.2.2.2.1 (by omega)).2; omega) r5) ?_
    intro _ τ3 ⟨h3, f3⟩
    rw [← hd3] at h3
    obtain ⟨gh, k8, _⟩ := pHd_g hd1
    have gp : PG B len (pHd B len).2.1 (pPc B len (pHd B len).2.1 20 0 0) := pc_g 20 0 0
    rw [← hd2]
    refine gv_n (m_either hT gp (m_pc hT k8 20 0 0 (by omega) (by omega) (by omega)) τ3 (pHd B len).2.2 h3 gh) ?_
    intro r τ4 ⟨hp, f4⟩
    have gq := or_g gp (pHd B len).2.2 gh
    have fa := (fm2.t f3).t f4
    have eT : pTx B len = if (pOr B len (pPc B len (pHd B len).2.1 20 0 0) (pHd B len).2.2).1 = true ∧ (pOr B len (pPc B len (pHd B len).2.1 20 0 0) (pHd B len).2.2).2.2.2.1 = 0 then (true, (pHd B len).2.1, (pOr B len (pPc B len (pHd B len).2.1 20 0 0) (pHd B len).2.2).2) else (false, 0, (pOr B len (pPc B len (pHd B len).2.1 20 0 0) (pHd B len).2.2).2) := by unfold pTx; rw [if_pos hd1]
    rw [eT]
    generalize pOr B len (pPc B len (pHd B len).2.1 20 0 0) (pHd B len).2.2 = w at *
    unfold s_X11_parse_111
    rcases hp with ⟨u1, u2, u3⟩ | ⟨u1, u2, u3⟩
    · subst u2
      rw [if_neg (show ¬ (1 : Int32) = 0 by decide)]
      obtain ⟨gw, _, _, _⟩ := gq u1
      have hk4 := gw.2.2.1
      have k0 : (tkM w.2.2.2.1 (w.2.2.1 - w.2.1) = 0) = (w.2.2.2.1 = 0) := by
        have : w.2.2.2.1 = 0 ∨ w.2.2.2.1 = 1 ∨ w.2.2.2.1 = 2 ∨ w.2.2.2.1 = 3 ∨ w.2.2.2.1 = 4 := by omega
        rcases this with e | e | e | e | e <;> rw [e] <;> by_cases c : w.2.2.1 - w.2.1 ≤ 4 <;> simp [tkM, c]
      rw [u3.2.1.2.2.1]
      simp only [k0]
      by_cases c : w.2.2.2.1 = 0
      · rw [if_pos c, lt_e, if_neg (show ¬ (1 : Int32) = 0 by decide), if_pos ⟨u1, c⟩]
        refine gv_i ⟨.inl ⟨rfl, rfl, ?_, ?_, ?_⟩, by rw [up_f, ua_s], fin 0 τ4 fa⟩
        · intro i t hi
          rw [up_d (by omega)]
          exact u3.2.2.2.2.2.2.2 i t hi
        · rw [up_f, ua_n (by omega)]; exact u3.2.2.2.2.1
        · rw [up_f, ua_n (by omega)]; exact u3.2.2.2.2.2.2.1
      · rw [if_neg c, lt_e, if_pos trivial, if_neg (fun x => c x.2)]
        refine gv_i ⟨.inr ⟨rfl, rfl, ?_⟩, by rw [up_f, ua_s], fin 0 τ4 fa⟩
        rw [up_f, ua_n (by omega)]; exact u3.2.1.1
    · subst u2
      rw [if_pos rfl, lt_e, if_pos rfl, if_neg (fun x => by rw [u1] at x; exact absurd x.1 (by decide))]
      refine gv_i ⟨.inr ⟨rfl, rfl, ?_⟩, by rw [up_f, ua_s], fin 0 τ4 fa⟩
      rw [up_f, ua_n (by omega)]; exact u3
  · have ck' : (pKy B len).1 = false := by
      cases h : (pKy B len).1
      · rfl
      · exact absurd h ck
    obtain ⟨r1, r2⟩ := k2 ck'
    subst r1
    rw [if_pos (show (-1 : Int32) < 0 by decide)]
    unfold s_X11_parse_81 s_X11_parse_111
    rw [if_pos rfl, lt_e, if_pos rfl]
    have hd1 : ¬ (pHd B len).1 = true := by rw [hH]; exact ck
    have hd3 : (pHd B len).2.2 = (pKy B len).2.2 := by rw [hH]; exact if_neg ck
    have eT : pTx B len = (false, 0, (pKy B len).2.2) := by unfold pTx; rw [if_neg hd1, hd3]
    rw [eT]
    refine gv_i ⟨.inr ⟨rfl, rfl, ?_⟩, by rw [up_f, ua_s], fin 0 τ2 fm2⟩
    rw [up_f, ua_n (by omega)]; exact r2
def wishR (B : Nat → Int32) (len nT : Nat) : Int32 := if (pTx B len).1 = true then (if nT = 10 then -1000000003 else nI nT) else -100 - nI (pTx B len).2.2.1
def wOK (B : Nat → Int32) (len nT : Nat) : Prop := (pTx B len).1 = true ∧ nT < 10
theorem m_wish {ρ : Sg} {A : Nat → Int32} {nT : Nat} (hA : ρ 151 = A) (h2 : A 2 = nI nT) (hn : nT ≤ 10) (hc : MB ρ B len) : Gv (s_X11_wish ρ) (fun r κ => r = wishR B len nT ∧ κ 150 23 = 0 ∧ (∀ c, c ≠ 150 → c ≠ 151 → κ c = ρ c) ∧ (∀ j, j < 23 ∨ 33 < j → κ 150 j = ρ 150 j) ∧ (∀ j, (j < 140 + 200 * nT ∧ j ≠ 2) ∨ 2350 ≤ j → κ 151 j = A j) ∧ (wOK B len nT → κ 151 2 = nI (nT + 1) ∧ TXm (κ 151) nT (pTx B len).2.1 (pTx B len).2.2.2.2.2.2 (pTx B len).2.2.2.2.2.1) ∧ (¬ wOK B len nT → κ 151 2 = A 2)) := by
  have hl := hc.2.1
  unfold s_X11_wish
  obtain ⟨T, hTd⟩ : ∃ T, T = if nT = 10 then 2150 else 140 + 200 * nT + 4 := ⟨_, rfl⟩
  have hT : T + 192 ≤ 2350 ∧ 140 + 200 * nT ≤ T := by rw [hTd]; split <;> omega
  have hp : Gv (s_X11_parse ρ) (fun r κ => (((pTx B len).1 = true ∧ r = nI (pTx B len).2.1 ∧ (∀ i t, (pTx B len).2.2.2.2.2.1[i]? = some t → κ 151 (T + 2 * i) = nI t.1 ∧ κ 151 (T + 2 * i + 1) = t.2) ∧ κ 150 31 = nI (pTx B len).2.2.2.2.2.1.length ∧ κ 150 33 = nI (pTx B len).2.2.2.2.2.2) ∨ ((pTx B len).1 = false ∧ r = -1 ∧ κ 150 24 = nI (pTx B len).2.2.1)) ∧ κ 150 23 = 0 ∧ FMp T ρ κ) := by
    unfold s_X11_parse
    simp only [lt_e]
    generalize hρ : up (up (up (up (up (up ρ 150 25 0) 150 26 3) 150 29 0) 150 30 0) 150 31 0) 150 33 0 = ρ1
    have g1 : ∀ c, c ≠ 150 → ρ1 c = ρ c := fun c hc => by rw [← hρ, up_d hc, up_d hc, up_d hc, up_d hc, up_d hc, up_d hc]
    have g2 : ∀ j, j < 23 ∨ 33 < j → ρ1 150 j = ρ 150 j := fun j hj => by rw [← hρ, up_f, ua_n (by omega), up_f, ua_n (by omega), up_f, ua_n (by omega), up_f, ua_n (by omega), up_f, ua_n (by omega), up_f, ua_n (by omega)]
    have hc1 : MB ρ1 B len := by
      rw [← hρ]
      exact MB_u (MB_u (MB_u (MB_u (MB_u (MB_u hc (by omega) _) (by omega) _) (by omega) _) (by omega) _) (by omega) _) (by omega) _
    have e1 : ρ1 151 2 = nI nT := by rw [g1 151 (by omega), hA, h2]
    have key := m_parse60 hT.1 hc1 (by rw [← hρ]; simp [up]) (by rw [← hρ]; simp [up]) (by rw [← hρ]; simp [up]) (by rw [← hρ]; simp [up]) (by rw [← hρ]; simp [up])
    have key2 := gv_w key (Q := fun r κ => (((pTx B len).1 = true ∧ r = nI (pTx B len).2.1 ∧ (∀ i t, (pTx B len).2.2.2.2.2.1[i]? = some t → κ 151 (T + 2 * i) = nI t.1 ∧ κ 151 (T + 2 * i + 1) = t.2) ∧ κ 150 31 = nI (pTx B len).2.2.2.2.2.1.length ∧ κ 150 33 = nI (pTx B len).2.2.2.2.2.2) ∨ ((pTx B len).1 = false ∧ r = -1 ∧ κ 150 24 = nI (pTx B len).2.2.1)) ∧ κ 150 23 = 0 ∧ FMp T ρ κ) (fun r κ q => ⟨q.1, q.2.1, fun c a b => (q.2.2.1 c a b).trans (g1 c a), fun j a => (q.2.2.2.1 j a).trans (g2 j a), fun j a => by rw [q.2.2.2.2 j a, g1 151 (by omega)]⟩)
    rw [e1]
    by_cases c : nT = 10
    · have c10 : (10 : Int32) ≤ nI nT := nI_le (a := 10) (by omega) (by omega)
      rw [if_pos c10]
      rw [if_pos c] at hTd
      rw [hTd] at key2
      rw [hTd]
      exact key2
    · have c10 : ¬ (10 : Int32) ≤ nI nT := nI_ge (b := 10) (by omega) (by omega)
      rw [if_neg c10]
      unfold s_X11_textAt
      rw [if_neg c] at hTd
      simp only [bn_some, NK]
      rw [hTd] at key2
      rw [hTd]
      exact key2
  refine gv_n hp ?_
  intro r κ ⟨q, q23, f1, f2, f3⟩
  have kA : ∀ j, j < 140 + 200 * nT ∨ 2350 ≤ j → κ 151 j = A j := fun j hj => by rw [f3 j (by omega), hA]
  rcases q with ⟨u1, u2, u3, u4, u5⟩ | ⟨u1, u2, u3⟩
  · have ho := pTx_ok hl u1
    have k8 := ho.1
    have ll := ho.2.1
    subst u2
    have c0 : (0 : Int32) ≤ nI (pTx B len).2.1 := nI_pos' (by omega)
    rw [if_pos c0]
    have e1 : κ 151 2 = nI nT := by rw [kA 2 (by omega), h2]
    have e10 : (nI nT = 10) = (nT = 10) := ieq (b := 10) (by omega) (by omega)
    rw [e1]
    simp only [e10]
    by_cases c : nT = 10
    · rw [if_pos c]
      refine gv_i ⟨?_, q23, f1, f2, fun j hj => kA j (by omega), fun x => absurd x.2 (by omega), fun _ => by rw [e1, h2]⟩
      unfold wishR; rw [if_pos u1, if_pos c]
    · rw [if_neg c]
      rw [if_neg c] at hTd
      unfold s_X11_textAt
      have a0 : ∀ x, up κ 151 (140 + 200 * nT) x 150 = κ 150 := fun x => up_d (by omega)
      have a1 : ∀ x y, up (up κ 151 (140 + 200 * nT) x) 151 (140 + 200 * nT + 1) y 150 = κ 150 := fun x y => by rw [up_d (by omega), up_d (by omega)]
      have a2 : ∀ x y z, up (up (up κ 151 (140 + 200 * nT) x) 151 (140 + 200 * nT + 1) y) 151 (140 + 200 * nT + 2) z 151 2 = nI nT := fun x y z => by rw [up_f, ua_n (by omega), up_f, ua_n (by omega), up_f, ua_n (by omega), e1]
      have a3 : ∀ x, up (up (up (up κ 151 (140 + 200 * nT) (nI (pTx B len).2.1)) 151 (140 + 200 * nT + 1) (nI (pTx B len).2.2.2.2.2.2)) 151 (140 + 200 * nT + 2) (nI (pTx B len).2.2.2.2.2.1.length)) 151 2 x 151 2 = x := fun x => by rw [up_f, ua_s]
      simp (disch := omega) only [bn_some, NK, Int32.add_zero, inb_n, cl_nI, ↓reduceIte, lt_e, a0, a1, u4, u5, a2, a3]
      refine gv_i ⟨?_, ?_, ?_, ?_, ?_, fun _ => ⟨?_, ?_⟩, fun x => absurd ⟨u1, by omega⟩ x⟩
      · unfold wishR; rw [if_pos u1, if_neg c]; exact nI_pred nT
      · rw [up_d (by omega), up_d (by omega), up_d (by omega), up_d (by omega)]; exact q23
      · intro d h1 h2; rw [up_d h2, up_d h2, up_d h2, up_d h2]; exact f1 d h1 h2
      · intro j hj; rw [up_d (by omega), up_d (by omega), up_d (by omega), up_d (by omega)]; exact f2 j hj
      · intro j hj
        rw [up_f, ua_n (by omega), up_f, ua_n (by omega), up_f, ua_n (by omega), up_f, ua_n (by omega)]
        exact kA j (by omega)
      · rw [up_f, ua_s]
      · have s1 : ∀ j, j ≠ 2 → j ≠ 140 + 200 * nT → j ≠ 140 + 200 * nT + 1 → j ≠ 140 + 200 * nT + 2 → up (up (up (up κ 151 (140 + 200 * nT) (nI (pTx B len).2.1)) 151 (140 + 200 * nT + 1) (nI (pTx B len).2.2.2.2.2.2)) 151 (140 + 200 * nT + 2) (nI (pTx B len).2.2.2.2.2.1.length)) 151 2 (nI (nT + 1)) 151 j = κ 151 j := fun j h1 h2 h3 h4 => by rw [up_f, ua_n h1, up_f, ua_n h4, up_f, ua_n h3, up_f, ua_n h2]
        refine ⟨?_, ?_, ?_, ?_⟩
        · rw [up_f, ua_n (by omega), up_f, ua_n (by omega), up_f, ua_n (by omega), up_f, ua_s]
        · rw [up_f, ua_n (by omega), up_f, ua_n (by omega), up_f, ua_s]
        · rw [up_f, ua_n (by omega), up_f, ua_s]
        · intro i t hi
          rw [s1 _ (by omega) (by omega) (by omega) (by omega), s1 _ (by omega) (by omega) (by omega) (by omega), ← hTd]
          exact u3 i t hi
  · subst u2
    rw [if_neg (show ¬ (0 : Int32) ≤ -1 by decide), u3]
    refine gv_i ⟨?_, q23, f1, f2, fun j hj => kA j (by omega), fun x => absurd x.1 (by rw [u1]; decide), fun _ => kA 2 (by omega)⟩
    unfold wishR; rw [if_neg (by rw [u1]; decide)]
/- the program's -/
def WCc (w : Nat) : Prop := rt w 3 = w + 1 ∧ aln 0 (w + 1) = 96
theorem ck96 : (cpk 0 0 96 96 96 = true) = True := by decide
theorem k96c : (96 : Int32).toNatClampNeg = 96 := by decide
theorem x9_take {σ : Sg} {w v : Nat} (hw : WCc w) (hv : WCc v) (h1 : w ≠ v) (h2 : w ≠ v + 1) (h3 : w + 1 ≠ v) : Gv (s_X9_takeFrom σ w v) (fun _ τ => (∀ k, k < 3 → τ w k = σ v k) ∧ (∀ i, i < 96 → τ (w + 1) i = σ (v + 1) i) ∧ ∀ c, c ≠ w → c ≠ w + 1 → τ c = σ c) := by
  unfold s_X9_takeFrom
  have h1' : v ≠ w := fun e => h1 e.symm
  simp only [lt_e, up_d h1', hw.1, hv.1, hw.2, hv.2, ck96, ↓reduceIte, k0c, k96c]
  refine gv_i ⟨?_, ?_, ?_⟩
  · intro k hk
    have : k = 0 ∨ k = 1 ∨ k = 2 := by omega
    rw [cpy_d (by omega)]
    rcases this with rfl | rfl | rfl <;> simp [up]
  · intro i hi
    rw [cpy_f, ub0 hi, up_d (by omega), up_d (by omega), up_d (by omega)]
  · intro c a b
    rw [cpy_d b, up_d a, up_d a, up_d a]
theorem wc_l : ∀ i, i < 10 → rt (25 + 2 * i) 3 = 25 + 2 * i + 1 ∧ aln 0 (25 + 2 * i + 1) = 96 := by decide
theorem wc_i : ∀ i, i < 10 → rt (69 + 2 * i) 3 = 69 + 2 * i + 1 ∧ aln 0 (69 + 2 * i + 1) = 96 := by decide
theorem wr_l : ∀ i, i < 10 → rt 20 i = 25 + 2 * i := by decide
theorem wr_i : ∀ i, i < 10 → rt 64 i = 69 + 2 * i := by decide
theorem x10_wish {σ : Sg} {nT : Nat} (h2 : σ 1 2 = nI nT) (hn : nT ≤ 10) (hc : CB σ B len) : Gv (s_X10_wish σ) (fun r τ => r = wishR B len nT ∧ τ 114 1 = 0 ∧ (∀ c, c ≠ 1 → c ≠ 114 → c ≠ 116 → c ≠ 117 → (wOK B len nT → c ≠ 25 + 2 * nT ∧ c ≠ 25 + 2 * nT + 1) → τ c = σ c) ∧ (∀ j, j ≠ 2 → τ 1 j = σ 1 j) ∧ (wOK B len nT → τ 1 2 = nI (nT + 1) ∧ TXc τ (25 + 2 * nT) (pTx B len).2.1 (pTx B len).2.2.2.2.2.2 (pTx B len).2.2.2.2.2.1) ∧ (¬ wOK B len nT → τ 1 2 = σ 1 2)) := by
  unfold s_X10_wish
  refine gv_n (x3_text hc) ?_
  intro r τ ⟨hp, f⟩
  rw [lt_e]
  have e12 : up τ 114 1 0 1 = σ 1 := by rw [up_d (by omega)]; exact f.1 1 (by omega) (by omega) (by omega)
  have ff : ∀ c, c ≠ 114 → c ≠ 116 → c ≠ 117 → up τ 114 1 0 c = σ c := fun c a b d => by rw [up_d a]; exact f.1 c a b d
  rcases hp with ⟨u1, u2, u3⟩ | ⟨u1, u2, u3⟩
  · subst u2
    rw [if_neg (show ¬ (1 : Int32) = 0 by decide), e12, h2]
    by_cases c : nT = 10
    · rw [if_neg (show ¬ nI nT < 10 from nI_nlt (b := 10) (by omega) (by omega))]
      refine gv_i ⟨?_, by rw [up_f, ua_s], fun d _ a b e _ => ff d a b e, fun j _ => by rw [e12], fun x => absurd x.2 (by omega), fun _ => by rw [e12, h2]⟩
      unfold wishR; rw [if_pos u1, if_pos c]
    · have hlt : nT < 10 := by omega
      rw [if_pos (show nI nT < 10 from nI_lt (b := 10) hlt (by omega))]
      unfold s_X7_addWish
      have e11 : rt 1 1 = 20 := rfl
      have e20 : aln 0 20 = 10 := rfl
      simp (disch := omega) only [e12, h2, e11, e20, inb_n, cl_nI, ↓reduceIte, wr_l nT hlt]
      refine gv_n (P := fun r κ => r = nI nT ∧ ∃ τ1, κ = up τ1 1 2 (nI (nT + 1)) ∧ (∀ k, k < 3 → τ1 (25 + 2 * nT) k = up τ 114 1 0 116 k) ∧ (∀ i, i < 96 → τ1 (25 + 2 * nT + 1) i = up τ 114 1 0 117 i) ∧ ∀ c, c ≠ 25 + 2 * nT → c ≠ 25 + 2 * nT + 1 → τ1 c = up τ 114 1 0 c) (gv_v (x9_take (σ := up τ 114 1 0) (w := 25 + 2 * nT) (v := 116) (wc_l nT hlt) ⟨rt116, al117⟩ (by omega) (by omega) (by omega)) ?_) ?_
      · intro _ τ1 ⟨q1, q2, q3⟩
        have e2 : τ1 1 2 = nI nT := by rw [q3 1 (by omega) (by omega), e12, h2]
        rw [lt_e, e2, nI_1]
        refine gv_i ⟨?_, τ1, rfl, q1, q2, q3⟩
        rw [up_f, ua_s]; exact nI_pred nT
      · intro r κ ⟨hr, τ1, hκ, q1, q2, q3⟩
        subst hκ
        have ho := pTx_ok hc.2.1 u1
        have ll := ho.2.1
        refine gv_i ⟨?_, ?_, ?_, ?_, fun _ => ⟨?_, ?_⟩, fun x => absurd ⟨u1, hlt⟩ x⟩
        · rw [hr]; unfold wishR; rw [if_pos u1, if_neg c]
        · rw [up_d (by omega), q3 114 (by omega) (by omega), up_f, ua_s]
        · intro d a1 a2 a3 a4 a5
          obtain ⟨b1, b2⟩ := a5 ⟨u1, hlt⟩
          rw [up_d a1, q3 d b1 b2]; exact ff d a2 a3 a4
        · intro j hj; rw [up_f, ua_n hj, q3 1 (by omega) (by omega), e12]
        · rw [up_f, ua_s]
        · obtain ⟨_, _, c0, c1, c2, c3⟩ := u3
          have w116 : up τ 114 1 0 116 = τ 116 := up_d (by omega)
          have w117 : up τ 114 1 0 117 = τ 117 := up_d (by omega)
          refine ⟨?_, ?_, ?_, ?_⟩
          · rw [up_d (by omega), q1 0 (by omega), w116]; exact c0
          · rw [up_d (by omega), q1 1 (by omega), w116]; exact c1
          · rw [up_d (by omega), q1 2 (by omega), w116]; exact c2
          · intro i t hi
            have : i < (pTx B len).2.2.2.2.2.1.length := by
              apply Decidable.byContradiction
              intro hh
              rw [List.getElem?_eq_none (by omega)] at hi
              cases hi
            rw [up_d (by omega), q2 i (by omega), w117]; exact c3 i t hi
  · subst u2
    rw [if_pos rfl]
    have e3 : up τ 114 1 0 114 3 = nI (pTx B len).2.2.1 := by rw [up_f, ua_n (by omega)]; exact u3
    rw [e3]
    refine gv_i ⟨?_, by rw [up_f, ua_s], fun d _ a b e _ => ff d a b e, fun j _ => by rw [e12], fun x => absurd x.1 (by rw [u1]; decide), fun _ => by rw [e12]⟩
    unfold wishR; rw [if_neg (by rw [u1]; decide)]
end wsh
