section st
variable {σ : Sg}
theorem Ag.heat {A B : Nat → Int32} (h : Ag A B) (hw : WF A) {i : Nat} (hi : i < nB A) : heatA B i = heatA A i := by
  have n8 := hw.n8
  have pe : ∀ o, o < 8 → pw B o = pw A o := fun o ho => by unfold pw; rw [h _ (by omega) (by omega) (by omega) (by omega)]
  unfold heatA
  rw [h.ap.n, pe i (by omega)]
  refine itr_congr ?_ _
  intro o s ho
  have ex : axA B i o = axA A i o := by unfold axA XX; rw [h.ap.pl hw, h.ap.w_ (show i < 8 by omega), h.ap.w_ (show o < 8 by omega)]
  have ey : ayA B i o = ayA A i o := by unfold ayA YY; rw [h.ap.pl hw, h.ap.h_ (show i < 8 by omega), h.ap.h_ (show o < 8 by omega)]
  unfold hst tcI loI
  rw [ex, ey, h.ap.l_ (show i < 8 by omega), h.ap.l_ (show o < 8 by omega), pe o (by omega)]
def grH (A : Nat → Int32) : Int32 := if nB A = 0 then 0 else heatA A (hotA A)
def stw (A : Nat → Int32) (n : Nat) : Nat → Int32 := ua (ua (ua (ua A (110 + 3 * n) (WW A * HH A)) (110 + 3 * n + 1) (wiresA A)) (110 + 3 * n + 2) (grH A)) 3 (nI (n + 1))
theorem x1_great {A : Nat → Int32} (hw : WF A) (h : RF σ 2 A) (hot : hotA A < nB A ∨ nB A = 0) : s_X1_greatestHeat σ 2 = some (grH A, σ) := by
  have n8 := hw.n8
  unfold s_X1_greatestHeat grH
  rw [h.1.n, hw.n]
  by_cases c : nB A = 0
  · rw [c, if_pos (show nI 0 = 0 from rfl), if_pos rfl]
  · have z0 : ¬ nI (nB A) = 0 := fun e => c ((nI_eq (a := nB A) (b := 0) (by omega) (by omega)).mp e)
    rw [if_neg z0, if_neg c, x1_hottest (.inl rfl) hw h, bn_some, x1_heatOf (.inl rfl) hw h (by omega), bn_some]
theorem PD_ag {τ ρ : Sg} {A B : Nat → Int32} (g : Ag A B) (hw : WF A) (h : PDd τ A) (e : ∀ c, c ≠ 151 → ρ c = τ c) : PDd ρ B := by
  obtain ⟨⟨h1, h2⟩, h3⟩ := h
  have pl := g.ap.pl hw
  unfold PDd WW HH XX YY
  rw [e 150 (by omega), e 163 (by omega), e 164 (by omega), e 165 (by omega), g.ap.n, pl]
  refine ⟨⟨h1, h2⟩, fun i hi => ?_⟩
  rw [g.ap.q1 hw.n8]
  exact h3 i hi
theorem k_l : rt 21 0 = 22 ∧ rt 21 1 = 23 ∧ rt 21 2 = 24 ∧ aln 0 22 = 8 ∧ aln 0 23 = 8 ∧ aln 0 24 = 8 := by decide
theorem Ag_k (A : Nat → Int32) {j : Nat} (v : Int32) (h : 110 ≤ j ∨ j = 3) : Ag A (ua A j v) := fun i a b c d => ua_n (by omega)
theorem Ag.t {A B C : Nat → Int32} (h : Ag A B) (k : Ag B C) : Ag A C := fun j a b c d => (k j a b c d).trans (h j a b c d)
theorem call_stow (h : InvR σ σ) : Call σ (s_X10_stow σ) (fun τ => s_X11_stow τ) := by
  have hw := h.w
  have n8 := hw.n8
  have hK : WKp (σ 151) := h.1.2.2.1
  have hR : RK σ 21 (σ 151) := h.2.1.2.2.2
  generalize hn : nK (σ 151) = n at *
  have k8 : n ≤ 8 := by rw [← hn]; exact hK.2
  have e3 : σ 151 3 = nI n := by rw [← hn]; exact hK.1
  have e0 : σ 21 3 = nI n := by rw [hR.1]; exact e3
  obtain ⟨r0, r1, r2, l0, l1, l2⟩ := k_l
  by_cases c : n < 8
  · have c1 : nI n < 8 := nI_lt (a := n) (b := 8) c (by omega)
    have c2 : ¬ nI n = 8 := fun e => by have := (nI_eq (a := n) (b := 8) (by omega) (by omega)).mp e; omega
    have ib : inb (nI n) 8 = true := inb_nI c (by omega)
    have hot : hotA (σ 151) < nB (σ 151) ∨ nB (σ 151) = 0 := by
      by_cases z : nB (σ 151) = 0
      · exact .inr z
      · exact .inl (hot_lt hw z)
    generalize hA : σ 151 = A at *
    let τ := up (up (up (up σ 22 n (WW A * HH A)) 23 n (wiresA A)) 24 n (grH A)) 21 3 (nI (n + 1))
    have eτ : τ = up (up (up (up σ 22 n (WW A * HH A)) 23 n (wiresA A)) 24 n (grH A)) 21 3 (nI (n + 1)) := rfl
    have tc : ∀ d, d ≠ 21 → d ≠ 22 → d ≠ 23 → d ≠ 24 → τ d = σ d := fun d a b e f => by rw [eτ, up_d a, up_d f, up_d e, up_d b]
    have hF : RF σ 2 A := by rw [← hA]; exact h.f
    have hX : s_X10_stow σ = some (nI n, τ) := by
      have f1 : RF (up σ 22 n (WW A * HH A)) 2 A := RF_c hF n8 (fun c a b d => up_d (by omega))
      have f2 : RF (up (up σ 22 n (WW A * HH A)) 23 n (wiresA A)) 2 A := RF_c f1 n8 (fun c a b d => up_d (by omega))
      have q1 : up σ 22 n (WW A * HH A) 21 3 = nI n := by rw [up_d (by omega)]; exact e0
      have q2 : up (up σ 22 n (WW A * HH A)) 23 n (wiresA A) 21 3 = nI n := by rw [up_d (by omega)]; exact q1
      have q3 : up (up (up σ 22 n (WW A * HH A)) 23 n (wiresA A)) 24 n (grH A) 21 3 = nI n := by rw [up_d (by omega)]; exact q2
      unfold s_X10_stow s_X2_add
      rw [e0, if_pos c1, r0, r1, r2, l0, l1, l2, if_pos ib, cl_nI (by omega), hF.2.2.2.1, hF.2.2.2.2, lt_e, x1_wires (.inl rfl) hw f1, bn_some, q1, if_pos ib, cl_nI (by omega), lt_e, x1_great hw f2 hot, bn_some, q2, if_pos ib, cl_nI (by omega), lt_e, q3, nI_1, lt_e, up_f, ua_s, predI (by omega), Nat.add_sub_cancel, bn_some]
    have tA : τ 151 = A := by rw [tc _ (by omega) (by omega) (by omega) (by omega)]; exact hA
    obtain ⟨_, s, es, fp, pd⟩ := findPlaces_e (σ := τ) hw tA
    have sA : s 151 = A := fp.s.trans tA
    let A1 := ua A (110 + 3 * n) (WW A * HH A)
    let A2 := ua A1 (110 + 3 * n + 1) (wiresA A)
    have g1 : Ag A A1 := Ag_k A _ (by omega)
    have g2 : Ag A A2 := g1.t (Ag_k A1 _ (by omega))
    let s5 := up s 151 (110 + 3 * n) (WW A * HH A)
    let s8 := up s5 151 (110 + 3 * n + 1) (wiresA A)
    have a5 : s5 151 = A1 := by show up s 151 _ _ 151 = _; rw [up_f, sA]
    have a8 : s8 151 = A2 := by show up s5 151 _ _ 151 = _; rw [up_f, a5]
    have p5 : PDd s5 A1 := PD_ag g1 hw pd (fun c hc => up_d hc)
    have p8 : PDd s8 A2 := PD_ag g2 hw pd (fun c hc => by show up s5 151 _ _ c = _; rw [up_d hc]; exact up_d hc)
    have w5 : s_X11_wires s5 = some (wiresA A, s5) := by rw [m_wires (g1.wf hw) a5 p5, g1.wires hw]
    let ρ := up (up s8 151 (110 + 3 * n + 2) (grH A)) 151 3 (nI (n + 1))
    have s82 : s_X11_stow_82 s8 151 (nI (110 + 3 * n) + 2) (grH A) = some (nI n, ρ) := by
      have z3 : up s8 151 (110 + 3 * n + 2) (grH A) 151 3 = nI n := by
        rw [up_f, ua_n (by omega), a8]
        show ua (ua A _ _) _ _ 3 = _
        rw [ua_n (by omega), ua_n (by omega)]; exact e3
      have i2 : nI (110 + 3 * n) + 2 = nI (110 + 3 * n + 2) := nI_add _ _
      unfold s_X11_stow_82
      rw [i2, show aln 0 151 = 2350 by decide, if_pos (inb_nI (by omega) (by omega)), cl_nI (by omega), lt_e, z3, nI_1, lt_e, up_f, ua_s, predI (by omega), Nat.add_sub_cancel]
    have hY : s_X11_stow τ = some (nI n, ρ) := by
      have i1 : nI (110 + 3 * n) + 1 = nI (110 + 3 * n + 1) := nI_1 _
      have i0 : (110 : Int32) + 3 * nI n = nI (110 + 3 * n) := by
        show nI 110 + nI 3 * nI n = _
        rw [pk_mul, nI_add]
      have t3 : τ 151 3 = nI n := by rw [tA]; exact e3
      unfold s_X11_stow
      rw [t3, if_neg c2, i0, lt_e, es, bv_some, m_hottest hw sA pd, bn_some, if_pos (inb_nI (by omega) (by omega)), cl_nI (by omega), pd.ww, pd.hw, lt_e]
      show bn (s_X11_wires s5) _ = _
      rw [w5, bn_some, i1, if_pos (inb_nI (by omega) (by omega)), cl_nI (by omega), lt_e]
      show (if 0 ≤ (if nB A = 0 then (-1 : Int32) else nI (hotA A)) then bn (s_X11_heatOf s8 (if nB A = 0 then (-1 : Int32) else nI (hotA A))) fun v10 s9 => s_X11_stow_82 s9 151 (nI (110 + 3 * n) + 2) v10 else s_X11_stow_82 s8 151 (nI (110 + 3 * n) + 2) 0) = _
      by_cases z : nB A = 0
      · have gz : grH A = 0 := by unfold grH; rw [if_pos z]
        rw [if_pos z, if_neg (by decide), ← gz]; exact s82
      · have hl := hot_lt hw z
        have gz : grH A = heatA A (hotA A) := by unfold grH; rw [if_neg z]
        have ge : (0 : Int32) ≤ nI (hotA A) := nI_le (a := 0) (by omega) (by omega)
        rw [if_neg z, if_pos ge, m_heatOf (g2.wf hw) a8 p8 (by rw [g2.ap.n]; exact hl), bn_some, g2.heat hw hl, ← gz]; exact s82
    have rB : ρ 151 = stw A n := by
      show up (up s8 151 _ _) 151 _ _ 151 = _
      rw [up_f, up_f, a8]; rfl
    have rc : ∀ c, c ≠ 151 → ρ c = s c := fun c hc => by
      show up (up (up (up s 151 _ _) 151 _ _) 151 _ _) 151 _ _ c = _
      rw [up_d hc, up_d hc, up_d hc, up_d hc]
    have Bo : ∀ j, j ≠ 3 → j < 110 + 3 * n ∨ 113 + 3 * n ≤ j → stw A n j = A j := fun j a b => by
      unfold stw; rw [ua_n a, ua_n (by omega), ua_n (by omega), ua_n (by omega)]
    have e : ∀ c, c < 21 ∨ (25 ≤ c ∧ c < 150) ∨ (152 ≤ c ∧ c < 163) ∨ 166 ≤ c → ρ c = σ c := fun c a => by rw [rc c (by omega), fp.1 c (by omega) (by omega) (by omega) (by omega), tc c (by omega) (by omega) (by omega) (by omega)]
    have sj : ∀ j, j ≠ 17 → j ≠ 18 → ρ 150 j = σ 150 j := fun j a b => by rw [rc _ (by omega), fp.2 j a b, tc _ (by omega) (by omega) (by omega) (by omega)]
    have gB : Ag A (stw A n) := fun j a b c d => Bo j c (by omega)
    have nKB : nK (stw A n) = n + 1 := by unfold nK stw; rw [ua_s]; exact cl_nI (by omega)
    have nTB : nT (stw A n) = nT A := by unfold nT; rw [Bo _ (by omega) (by omega)]
    have hT : WTx A := by rw [← hA]; exact h.1.2.1
    have hZ : WZ A := by rw [← hA]; exact h.1.2.2.2
    refine ⟨nI n, τ, ρ, hX, hY, ?_, tc _ (by omega) (by omega) (by omega) (by omega), e _ (by omega)⟩
    refine inv_now h ?_ ?_ ?_ (fun c a b d f => e c (by omega)) (by rw [e _ (by omega)]) ⟨sj _ (by omega) (by omega), sj _ (by omega) (by omega), sj _ (by omega) (by omega)⟩
    · rw [rB]
      refine ⟨gB.wf hw, ?_, ?_, fun j hj => by rw [Bo _ (by omega) (by omega)]; exact hZ j hj⟩
      · unfold WTx; rw [nTB, Bo _ (by omega) (by omega)]; exact hT
      · unfold WKp; rw [nKB]; exact ⟨by unfold stw; rw [ua_s], by omega⟩
    · rw [rB]
      have t10 := hT.2
      have hS : RS σ 1 A := by rw [← hA]; exact h.2.1
      obtain ⟨_, h2, h3, h4⟩ := hS
      refine ⟨?_, ?_, ?_, ?_, ?_⟩
      · refine RF_g hw hF (gB 0 (by omega) (by omega) (by omega) (by omega)) (fun j a b => gB j (by omega) (by omega) (by omega) (by omega)) (by rw [e _ (by omega)]) (by rw [e _ (by omega), Bo _ (by omega) (by omega)]; exact hF.1.nets) (by rw [e _ (by omega), Bo _ (by omega) (by omega)]; exact hF.1.z) (by rw [e _ (by omega)]; exact ⟨rfl, rfl⟩) (fun c a => e _ (by omega)) (fun k hk => by rw [e _ (by omega), Bo _ (by omega) (by omega)]; exact hF.1.rul hk) ?_
        have m : nN (stw A n) = nN A := gB.nn
        have nn := hw.nn10
        intro j hj
        rw [m] at hj
        rw [e _ (by omega), e _ (by omega), Bo _ (by omega) (by omega), Bo _ (by omega) (by omega)]
        exact ⟨hF.1.set hj, hF.1.wgt hj⟩
      · rw [e _ (by omega), Bo _ (by omega) (by omega)]; exact h2
      · intro t ht
        rw [nTB] at ht
        obtain ⟨key, c, L, k1, k2, k3⟩ := h3 t ht
        obtain ⟨m1, m2, m3, m4⟩ := k2
        refine ⟨key, c, L, k1, ⟨by rw [Bo _ (by omega) (by omega)]; exact m1, by rw [Bo _ (by omega) (by omega)]; exact m2, by rw [Bo _ (by omega) (by omega)]; exact m3, fun i tk hi => by rw [Bo _ (by omega) (by omega), Bo _ (by omega) (by omega)]; exact m4 i tk hi⟩, TXc_c k3 (e _ (by omega)) (e _ (by omega))⟩
      · show ρ 21 3 = _
        rw [rc _ (by omega), fp.1 _ (by omega) (by omega) (by omega) (by omega), eτ, up_f, ua_s]
        unfold stw; rw [ua_s]
      · intro k hk
        rw [nKB] at hk
        have u2 : ρ 22 = ua (σ 22) n (WW A * HH A) := by rw [rc _ (by omega), fp.1 _ (by omega) (by omega) (by omega) (by omega), eτ, up_d (by omega), up_d (by omega), up_d (by omega), up_f]
        have u3 : ρ 23 = ua (σ 23) n (wiresA A) := by rw [rc _ (by omega), fp.1 _ (by omega) (by omega) (by omega) (by omega), eτ, up_d (by omega), up_d (by omega), up_f, up_d (by omega)]
        have u4 : ρ 24 = ua (σ 24) n (grH A) := by rw [rc _ (by omega), fp.1 _ (by omega) (by omega) (by omega) (by omega), eτ, up_d (by omega), up_f, up_d (by omega), up_d (by omega)]
        show ρ 22 k = _ ∧ ρ 23 k = _ ∧ ρ 24 k = _
        rw [u2, u3, u4]
        by_cases q : k = n
        · subst q
          unfold stw
          refine ⟨?_, ?_, ?_⟩ <;> simp (disch := omega) only [ua_n, ua_s]
        · rw [ua_n q, ua_n q, ua_n q, Bo _ (by omega) (by omega), Bo _ (by omega) (by omega), Bo _ (by omega) (by omega)]
          exact h4.2 k (by omega)
    · rw [rB]
      have hT4 : TRL σ σ A := by rw [← hA]; exact h.2.2.2.1
      exact TRL_k hT4 gB.ap.n (fun p hp => ⟨Bo _ (by omega) (by omega), Bo _ (by omega) (by omega), Bo _ (by omega) (by omega)⟩) (fun c a b => e c (by omega)) (sj _ (by omega) (by omega)) (e _ (by omega))
  · have n8' : n = 8 := by omega
    subst n8'
    refine call_q h (-1000000003) (bad_c _ _ ?_) (fun τ q => bad_m _ _ ?_)
    · unfold s_X10_stow
      rw [e0, if_neg (by decide)]
    · unfold s_X11_stow
      rw [q.m (by omega), e3, if_pos (by decide)]
end st
