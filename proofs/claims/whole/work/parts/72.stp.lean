theorem RF_ap {σ τ : Sg} {b : Nat} {A B : Nat → Int32} (hw : WF A) (h : RF σ b A) (hp : Ap A B) (hu : RU τ b B) (e4 : ∀ c, c = b + 4 ∨ c = b + 5 → τ c = σ c) (e8 : ∀ i, i < 8 → τ (b + 10 + i) 8 = σ (b + 10 + i) 8 ∧ τ (b + 10 + i) 9 = σ (b + 10 + i) 9) (eb : τ b 12 = σ b 12 ∧ τ b 13 = σ b 13) : RF τ b B := by
  have n8 := hw.n8
  refine ⟨hu, ?_, ?_, ?_, ?_⟩
  · intro i hi
    rw [hp.n] at hi
    rw [hp.q1 n8, hp.q2 n8, e4 _ (.inl rfl), e4 _ (.inr rfl)]
    exact h.2.1 i hi
  · intro i hi
    rw [hp.n] at hi
    unfold XX YY
    rw [hp.pl hw, (e8 i (by omega)).1, (e8 i (by omega)).2]
    exact h.2.2.1 i hi
  · unfold WW; rw [hp.pl hw, eb.1]; exact h.ww
  · unfold HH; rw [hp.pl hw, eb.2]; exact h.hw
theorem Ag_z (A : Nat → Int32) (v : Int32) : Ag A (ua A 4 v) := fun j _ _ _ h => ua_n h
theorem RF_z {σ : Sg} {b : Nat} {A : Nat → Int32} (hw : WF A) (h : RF σ b A) (v : Int32) : RF (up σ b 11 v) b (ua A 4 v) := by
  have n8 := hw.n8
  have g := Ag_z A v
  have n10 := hw.nn10
  refine RF_ap hw h g.ap ⟨⟨?_, ?_, ?_⟩, ?_, ?_, ?_, ?_⟩ ?_ ?_ ?_
  · rw [up_f, ua_n (by omega), ua_n (by omega)]; exact h.1.n
  · rw [up_f, ua_n (by omega), ua_n (by omega)]; exact h.1.nets
  · rw [up_f, ua_s, ua_s]
  · intro i hi
    rw [g.ap.n] at hi
    have := h.1.br hi
    unfold BR at this ⊢
    rw [up_d (by omega), ua_n (by omega), ua_n (by omega), ua_n (by omega), ua_n (by omega)]
    exact ⟨fun k hk => by rw [ua_n (by omega)]; exact this.1 k hk, this.2⟩
  · intro i hi
    rw [g.ap.n] at hi
    rw [up_d (by omega), up_d (by omega), ua_n (by omega), ua_n (by omega)]
    exact h.1.2.2.1 i hi
  · intro k hk; rw [up_d (by omega), ua_n (by omega)]; exact h.1.rul hk
  · intro j hj
    rw [g.nn] at hj
    rw [up_d (by omega), up_d (by omega), ua_n (by omega), ua_n (by omega)]
    exact h.1.2.2.2.2 j hj
  · intro c hc; rw [up_d (by omega)]
  · intro i hi; rw [up_d (by omega)]; exact ⟨rfl, rfl⟩
  · rw [up_f, ua_n (by omega), ua_n (by omega)]; exact ⟨rfl, rfl⟩
/- the model's moves -/
theorem place_e {σ : Sg} {A : Nat → Int32} (hA : σ 151 = A) {r j n : Nat} {f : Nat → Nat} (hr : r ≤ 1) (hn : n ≤ 8) (hf : PM f n) (hj : j < n) (e : ∀ i, i < n → A (70 + 8 * r + i) = nI (f i)) : s_X11_placeIn σ (nI r) (nI j) = some (nI (pos f n j), σ) := by
  obtain ⟨h1, h2⟩ := PM_q hf hj
  unfold s_X11_placeIn
  generalize pos f n j = t at h1 h2
  have key : ∀ d i m, i + d = t → d < m → s_X11_placeIn_2 m σ (nI r) (nI j) (nI i) = some (nI t, σ) := by
    intro d
    induction d with
    | zero =>
      intro i m hi hm
      obtain ⟨m', rfl⟩ : ∃ m', m = m' + 1 := ⟨m - 1, by omega⟩
      have : i = t := by omega
      subst this
      simp only [s_X11_placeIn_2]
      simp (disch := omega) only [NK, nI_add, inb_n, cl_nI, hA, e i h1, h2, ↓reduceIte]
    | succ d ih =>
      intro i m hi hm
      obtain ⟨m', rfl⟩ : ∃ m', m = m' + 1 := ⟨m - 1, by omega⟩
      have hin : i < n := by omega
      have ne : ¬ f i = j := fun c => by have := hf.2.1 i t hin h1 (c.trans h2.symm); omega
      have fi := hf.1 i hin
      have ie : (nI (f i) = nI j) = (f i = j) := ieq (by omega) (by omega)
      simp only [s_X11_placeIn_2]
      simp (disch := omega) only [NK, nI_add, inb_n, cl_nI, hA, e i hin, ie, ne, ↓reduceIte]
      exact ih (i + 1) m' (by omega) (by omega)
  exact key t 0 FU (by omega) (by show _ < 4096; omega)
theorem place0 {σ : Sg} {A : Nat → Int32} (hw : WF A) (hA : σ 151 = A) {j : Nat} (hj : j < nB A) : s_X11_placeIn σ 0 (nI j) = some (nI (p1 A j), σ) :=
  place_e hA (r := 0) (by omega) hw.n8 hw.m1 hj (fun i hi => by rw [show 70 + 8 * 0 + i = 70 + i by omega]; exact hw.e1 hi)
theorem place1 {σ : Sg} {A : Nat → Int32} (hw : WF A) (hA : σ 151 = A) {j : Nat} (hj : j < nB A) : s_X11_placeIn σ 1 (nI j) = some (nI (p2 A j), σ) :=
  place_e hA (r := 1) (by omega) hw.n8 hw.m2 hj (fun i hi => by rw [show 70 + 8 * 1 + i = 78 + i by omega]; exact hw.e2 hi)
theorem m_swap {σ : Sg} {A : Nat → Int32} (hA : σ 151 = A) {r p q : Nat} (hr : r ≤ 1) (hp : p < 8) (hq : q < 8) : Gv (s_X11_swap σ (nI r) (nI p) (nI q)) (fun _ τ => τ 151 = sw A (70 + 8 * r) p q ∧ ∀ c, c ≠ 151 → τ c = σ c) := by
  unfold s_X11_swap
  simp (disch := omega) only [NK, nI_add, inb_n, cl_nI, hA, ↓reduceIte, lt_e]
  exact gv_i ⟨by rw [up_f, up_f, hA]; rfl, fun c hc => by rw [up_d hc, up_d hc]⟩
section mm
variable {σ : Sg} {A : Nat → Int32}
theorem m_doMove (hw : WF A) (hA : σ 151 = A) {m p q : Nat} {x : Int32} (hm : m < 5) (hp : p < nB A) (hq : m ≤ 2 → q < nB A ∧ x = nI q) : Gv (s_X11_doMove σ (nI m) (nI p) x) (fun _ τ => τ 151 = mvA A m p q ∧ ∀ c, c ≠ 151 → τ c = σ c) := by
  have n8 := hw.n8
  unfold s_X11_doMove s_X11_blockAt
  have : m = 0 ∨ m = 1 ∨ m = 2 ∨ m = 3 ∨ m = 4 := by omega
  rcases this with rfl | rfl | rfl | rfl | rfl
  · obtain ⟨hq', rfl⟩ := hq (by omega)
    have eB : mvA A 0 p q = sw A 70 p q := by simp [mvA]
    rw [eB]
    simp only [tI0, ↓reduceIte, bn_some]
    exact gv_v (m_swap hA (r := 0) (by omega) (by omega) (by omega)) (fun _ τ k => gv_i k)
  · obtain ⟨hq', rfl⟩ := hq (by omega)
    have eB : mvA A 1 p q = sw A 78 p q := by simp [mvA]
    rw [eB]
    simp only [tI1, show ¬ (1 : Int) = 0 by decide, ↓reduceIte, bn_some]
    exact gv_v (m_swap hA (r := 1) (by omega) (by omega) (by omega)) (fun _ τ k => gv_i k)
  · obtain ⟨hq', rfl⟩ := hq (by omega)
    have eB : mvA A 2 p q = sw (sw A 70 (p1 A p) (p1 A q)) 78 (p2 A p) (p2 A q) := by simp [mvA]
    rw [eB]
    have a1 := hw.pl1 hp
    have a2 := hw.pl1 hq'
    have a3 := hw.pl2 hp
    have a4 := hw.pl2 hq'
    simp only [tI2, show ¬ (2 : Int) = 0 by decide, show ¬ (2 : Int) = 1 by decide, ↓reduceIte, bn_some, place0 hw hA hp, place0 hw hA hq']
    refine gv_v (m_swap hA (r := 0) (p := p1 A p) (q := p1 A q) (by omega) (by omega) (by omega)) ?_
    intro _ τ ⟨t1, t2⟩
    have hw' : WF (sw A 70 (p1 A p) (p1 A q)) := WF_sw1 hw a1 a2
    have nn : nB (sw A 70 (p1 A p) (p1 A q)) = nB A := nB_sw _ (by omega)
    have pc : ∀ j, p2 (sw A 70 (p1 A p) (p1 A q)) j = p2 A j := fun j => by
      unfold p2; rw [nn]; exact pos_c _ (fun i hi => by unfold o2; rw [sw_o (by omega) (by omega)])
    simp only [place1 hw' t1 (show p < _ by omega), place1 hw' t1 (show q < _ by omega), bn_some, pc]
    refine gv_v (m_swap t1 (r := 1) (p := p2 A p) (q := p2 A q) (by omega) (by omega) (by omega)) ?_
    intro _ ρ ⟨u1, u2⟩
    exact gv_i ⟨u1, fun c hc => (u2 c hc).trans (t2 c hc)⟩
  · have eB : mvA A 3 p q = ua A (20 + 6 * p + 5) (nxS A p) := by simp [mvA]
    rw [eB]
    obtain ⟨s, n, hs, hn, e1, e2, e3, e4⟩ := nxS_e hw hp
    have nz : ¬ nI n = 0 := nI_ne0 (by omega) (by omega)
    simp (disch := omega) only [tI3, show ¬ (3 : Int) = 0 by decide, show ¬ (3 : Int) = 1 by decide, show ¬ (3 : Int) = 2 by decide, ↓reduceIte, bn_some, NK, inb_n, cl_nI, hA, shapesOf_e, e1, e2, nz, lt_e, pk_rem]
    refine gv_i ⟨?_, fun c hc => up_d hc⟩
    rw [up_f, hA, e3]
    congr 2
    by_cases c : s + 1 = n
    · rw [if_pos c, c, Nat.mod_self]
    · rw [if_neg c, Nat.mod_eq_of_lt (by omega)]
  · have eB : mvA A 4 p q = ua A (20 + 6 * p + 4) (1 - ly A p) := by simp [mvA]
    rw [eB]
    simp (disch := omega) only [tI4, show ¬ (4 : Int) = 0 by decide, show ¬ (4 : Int) = 1 by decide, show ¬ (4 : Int) = 2 by decide, show ¬ (4 : Int) = 3 by decide, ↓reduceIte, bn_some, NK, inb_n, cl_nI, hA, lt_e]
    exact gv_i ⟨by rw [up_f, hA]; rfl, fun c hc => up_d hc⟩
end mm
/- a step -/
theorem nI_tn (y : Int32) : nI y.toBitVec.toNat = y := by
  apply Int32.toBitVec_inj.mp
  show BitVec.ofNat 32 _ = _
  simp
def zS (A : Nat → Int32) : Int32 := A 4 * 1103515245 + 12345
def vN (A : Nat → Int32) : Nat := (zS A).toBitVec.toNat / 256
def stM (A : Nat → Int32) : Nat := vN A % 5
def stP (A : Nat → Int32) : Nat := vN A / 5 % nB A
def stQ (A : Nat → Int32) : Nat := vN A / 50 % nB A
def stB (A : Nat → Int32) : Nat → Int32 := mvA (ua A 4 (zS A)) (stM A) (stP A) (stQ A)
def stepA (A : Nat → Int32) (heat : Int32) : Nat → Int32 := if stM A = 4 ∧ A (20 + 6 * stP A) = 4 then ua A 4 (zS A) else if priceA (stB A) ≤ priceA A ∨ priceA (stB A) - priceA A < heat then stB A else ua A 4 (zS A)
theorem vN_e (A : Nat → Int32) : ((zS A).toUInt32 >>> ((8 : Int32).toUInt32 &&& Int32.toUInt32 31)).toInt32 = nI (vN A) ∧ vN A < 2 ^ 24 := by
  have h := pk_ushrN (n := (zS A).toBitVec.toNat) (BitVec.isLt _) 8 8 (by decide)
  rw [nI_tn] at h
  refine ⟨h, ?_⟩
  have := (zS A).toBitVec.isLt
  unfold vN
  omega
section stps
variable {A : Nat → Int32}
theorem st_r (hn : 0 < nB A) (n8 : nB A ≤ 8) : nI (vN A) - nI (vN A) / 5 * 5 = nI (stM A) ∧ (nI (vN A) / 5) - (nI (vN A) / 5) / nI (nB A) * nI (nB A) = nI (stP A) ∧ (nI (vN A) / 50) - (nI (vN A) / 50) / nI (nB A) * nI (nB A) = nI (stQ A) ∧ stM A < 5 ∧ stP A < nB A ∧ stQ A < nB A := by
  have hv := (vN_e A).2
  have e5 : (5 : Int32) = nI 5 := rfl
  have e50 : (50 : Int32) = nI 50 := rfl
  refine ⟨?_, ?_, ?_, Nat.mod_lt _ (by omega), Nat.mod_lt _ hn, Nat.mod_lt _ hn⟩
  · rw [e5, pk_rem (by omega) (by omega) (by omega)]; rfl
  · rw [e5, pk_div (by omega) (by omega) (by omega), pk_rem (by omega) (by omega) (by omega)]; rfl
  · rw [e50, pk_div (by omega) (by omega) (by omega), pk_rem (by omega) (by omega) (by omega)]; rfl
theorem WF_st (hw : WF A) (hn : 0 < nB A) : WF (ua A 4 (zS A)) ∧ WF (stB A) ∧ nB (stB A) = nB A := by
  have g := Ag_z A (zS A)
  have w1 := g.wf hw
  obtain ⟨_, _, _, h4, h5, h6⟩ := st_r hn hw.n8
  have en : nB (ua A 4 (zS A)) = nB A := g.ap.n
  refine ⟨w1, WF_mv w1 (by omega) (fun _ => by omega), ?_⟩
  unfold stB; rw [nB_mv, en]
theorem WF_step (hw : WF A) (hn : 0 < nB A) (heat : Int32) : WF (stepA A heat) ∧ nB (stepA A heat) = nB A := by
  obtain ⟨h1, h2, h3⟩ := WF_st hw hn
  have en : nB (ua A 4 (zS A)) = nB A := (Ag_z A (zS A)).ap.n
  unfold stepA
  split
  · exact ⟨h1, en⟩
  · split
    · exact ⟨h2, h3⟩
    · exact ⟨h1, en⟩
theorem acc_e (hw : WF A) {B : Nat → Int32} (hB : WF B) (heat : Int32) : (priceA B - priceA A ≤ 0 ∨ priceA B - priceA A < heat) ↔ (priceA B ≤ priceA A ∨ priceA B - priceA A < heat) := by
  obtain ⟨u, hu, e1⟩ := price_b hw
  obtain ⟨v, hv, e2⟩ := price_b hB
  rw [e1, e2]
  have : (nI v - nI u ≤ 0) ↔ (nI v ≤ nI u) := by
    rw [le_t, pk_sub_toInt (by omega) (by omega), show (0 : Int32).toInt = 0 by decide, nI_leI (by omega) (by omega)]
    omega
  rw [this]
end stps
theorem x1_canDo {σ : Sg} {b : Nat} {A : Nat → Int32} (hb : FL b) (hw : WF A) (h : RU σ b A) {m p : Nat} (hm : m < 5) (hp : p < nB A) : s_X1_canDo σ b (nI m) (nI p) = some (if m = 4 ∧ A (20 + 6 * p) = 4 then 0 else 1, σ) := by
  have n8 := hw.n8
  unfold s_X1_canDo
  have e4 : (nI m = 4) = (m = 4) := propext (nI_eq (b := 4) (by omega) (by omega))
  have f0 : σ (b + 10 + p) 0 = A (20 + 6 * p) := h.f hp (k := 0) (by omega)
  simp (disch := omega) only [e4, FK hb, inb_n, cl_nI, rtb hb, f0, ↓reduceIte]
  by_cases c : m = 4
  · by_cases c2 : A (20 + 6 * p) = 4 <;> simp [c, c2]
  · simp [c]
theorem x1_step {σ : Sg} {b : Nat} {A : Nat → Int32} (hb : FL b) (hw : WF A) (h : RF σ b A) (hn : 0 < nB A) (heat : Int32) : Gv (s_X1_stepFrom σ b (priceA A) heat) (fun r τ => r = priceA (stepA A heat) ∧ RF τ b (stepA A heat) ∧ FB b σ τ) := by
  have n8 := hw.n8
  have g := Ag_z A (zS A)
  obtain ⟨w1, w2, w3⟩ := WF_st hw hn
  obtain ⟨q1, q2, q3, q4, q5, q6⟩ := st_r hn n8
  have h1 := RF_z hw h (zS A)
  have en : nB (ua A 4 (zS A)) = nB A := g.ap.n
  have nz : ¬ nI (nB A) = 0 := nI_ne0 (by omega) (by omega)
  have ps : (0 < nI (nB A)) = True := eq_true (nI_lt (a := 0) (by omega) (by omega))
  have ez : up σ b 11 (zS A) b 11 = zS A := by rw [up_f, ua_s]
  have e1 : up σ b 11 (zS A) b 1 = nI (nB A) := by rw [up_f, ua_n (by omega), h.1.n, hw.n]
  have hz : A 4 * 1103515245 + 12345 = zS A := rfl
  have k0 : ua A 4 (zS A) (20 + 6 * stP A) = A (20 + 6 * stP A) := ua_n (by omega)
  unfold s_X1_stepFrom
  simp only [h.1.n, hw.n, ps, ↓reduceIte, h.1.z, hz, lt_e, ez, e1, (vN_e A).1, nz, q1, q2, q3, x1_canDo hb w1 h1.1 q4 (show stP A < _ by omega), bn_some, k0]
  unfold stepA
  by_cases c : stM A = 4 ∧ A (20 + 6 * stP A) = 4
  · simp only [c, and_self, ↓reduceIte]
    exact gv_i ⟨by rw [g.price hw], h1, FB_u (by omega) (by omega)⟩
  · simp only [c, ↓reduceIte, show ¬ (1 : Int32) = 0 by decide]
    refine gv_v (x1_doMove hb w1 h1 q4 (show stP A < _ by omega) (q := stQ A) (fun _ => ⟨by omega, rfl⟩)) ?_
    intro _ τ ⟨t1, t2⟩
    rw [x1_price hb w2 t1, bn_some]
    have f1 : FB b σ τ := FB.t (FB_u (by omega) (by omega)) t2
    by_cases c1 : priceA (stB A) ≤ priceA A
    · simp only [show priceA (mvA (ua A 4 (zS A)) (stM A) (stP A) (stQ A)) = priceA (stB A) from rfl, c1, ↓reduceIte, true_or]
      exact gv_i ⟨rfl, t1, f1⟩
    · simp only [show priceA (mvA (ua A 4 (zS A)) (stM A) (stP A) (stQ A)) = priceA (stB A) from rfl, c1, ↓reduceIte, false_or]
      by_cases c2 : priceA (stB A) - priceA A < heat
      · rw [if_neg (le_lt.mpr c2), if_pos c2]
        exact gv_i ⟨rfl, t1, f1⟩
      · rw [if_pos (lt_le.mp c2), if_neg c2]
        have := x1_undoMove hb w2 t1 q4 (show stP A < _ by omega) (q := stQ A) (x := nI (stQ A)) (fun _ => ⟨by omega, rfl⟩)
        have eu : unA (stB A) (stM A) (stP A) (stQ A) = ua A 4 (zS A) := un_mv w1 (by omega) (fun _ => by omega)
        rw [eu] at this
        refine gv_v this ?_
        intro _ ρ ⟨u1, _, u3⟩
        exact gv_i ⟨by rw [g.price hw], u1, f1.t u3⟩
/- what a move of the model's leaves -/
def FT (σ τ : Sg) : Prop := (∀ c, c ≠ 150 → c ≠ 151 → c ≠ 163 → c ≠ 164 → c ≠ 165 → c ≠ 166 → c ≠ 168 → c ≠ 169 → τ c = σ c) ∧ ∀ j, j ≠ 17 → j ≠ 18 → j ≠ 20 → j ≠ 21 → τ 150 j = σ 150 j
theorem FT.r (σ : Sg) : FT σ σ := ⟨fun _ _ _ _ _ _ _ _ _ => rfl, fun _ _ _ _ _ => rfl⟩
theorem FT.t {σ τ ρ : Sg} (h : FT σ τ) (k : FT τ ρ) : FT σ ρ :=
  ⟨fun c a b d e f g i j => (k.1 c a b d e f g i j).trans (h.1 c a b d e f g i j), fun j a b d e => (k.2 j a b d e).trans (h.2 j a b d e)⟩
theorem FS.ft {σ τ : Sg} (h : FS σ τ) : FT σ τ := ⟨fun c a _ d e f g i j => h.1 c a d e f g i j, h.2⟩
theorem FP.ft {σ τ : Sg} (h : FP σ τ) : FT σ τ := h.fs.ft
theorem FT_1 {σ τ : Sg} (h : ∀ c, c ≠ 151 → τ c = σ c) : FT σ τ := ⟨fun c _ a _ _ _ _ _ _ => h c a, fun j _ _ _ _ => by rw [h 150 (by omega)]⟩
theorem m_stuck {σ : Sg} {A : Nat → Int32} (hA : σ 151 = A) {m p : Nat} (hm : m < 5) (hp : p < 8) : s_X11_isStuck σ (nI m) (nI p) = some (if m = 4 ∧ A (20 + 6 * p) = 4 then 1 else 0, σ) := by
  unfold s_X11_isStuck s_X11_blockAt
  have e4 : (nI m = 4) = (m = 4) := propext (nI_eq (b := 4) (by omega) (by omega))
  simp (disch := omega) only [e4, bn_some, NK, inb_n, cl_nI, hA, ↓reduceIte]
  by_cases c : m = 4
  · by_cases c2 : A (20 + 6 * p) = 4 <;> simp [c, c2]
  · simp [c]
theorem m_step {σ : Sg} {A : Nat → Int32} (hw : WF A) (hA : σ 151 = A) (hn : 0 < nB A) (heat : Int32) : Gv (s_X11_oneStep σ heat) (fun _ τ => τ 151 = stepA A heat ∧ FT σ τ) := by
  have n8 := hw.n8
  have g := Ag_z A (zS A)
  obtain ⟨w1, w2, w3⟩ := WF_st hw hn
  obtain ⟨q1, q2, q3, q4, q5, q6⟩ := st_r hn n8
  have en : nB (ua A 4 (zS A)) = nB A := g.ap.n
  have nz : ¬ nI (nB A) = 0 := nI_ne0 (by omega) (by omega)
  have hz : A 4 * 1103515245 + 12345 = zS A := rfl
  have eA : up σ 151 4 (zS A) 151 = ua A 4 (zS A) := by rw [up_f, hA]
  have e0 : ua A 4 (zS A) 0 = nI (nB A) := by rw [ua_n (by omega), hw.n]
  have k0 : ua A 4 (zS A) (20 + 6 * stP A) = A (20 + 6 * stP A) := ua_n (by omega)
  have k5 : ua A 4 (zS A) (20 + 6 * stP A + 5) = A (20 + 6 * stP A + 5) := ua_n (by omega)
  unfold s_X11_oneStep
  simp only [hA, hz, lt_e, eA, ua_s, e0, (vN_e A).1, nz, ↓reduceIte, q1, q2, q3, m_stuck eA q4 (show stP A < 8 by omega), bn_some, k0]
  have fz : FT σ (up σ 151 4 (zS A)) := FT_1 (fun c hc => up_d hc)
  unfold stepA
  by_cases c : stM A = 4 ∧ A (20 + 6 * stP A) = 4
  · simp only [c, and_self, ↓reduceIte, show ¬ (1 : Int32) = 0 by decide]
    exact gv_i ⟨eA, fz⟩
  · simp only [c, ↓reduceIte]
    refine gv_n (m_price w1 eA) ?_
    intro r τ ⟨hr, f1, p1⟩
    have tA := f1.s.trans eA
    subst hr
    unfold s_X11_blockAt
    simp (disch := omega) only [bn_some, NK, inb_n, cl_nI, ↓reduceIte, lt_e, tA, k5]
    refine gv_v (m_doMove w1 tA q4 (show stP A < _ by omega) (q := stQ A) (fun _ => ⟨by omega, rfl⟩)) ?_
    intro _ ρ ⟨r1, r2⟩
    refine gv_n (m_price w2 r1) ?_
    intro r κ ⟨hr, f2, p2⟩
    subst hr
    have kA : κ 151 = stB A := f2.s.trans r1
    have fa : FT σ κ := ((fz.t f1.ft).t (FT_1 r2)).t f2.ft
    rw [g.price hw]
    have ac := acc_e hw w2 heat
    by_cases c1 : priceA (stB A) - priceA A ≤ 0
    · rw [if_pos c1, if_pos (ac.mp (.inl c1))]
      exact gv_i ⟨kA, fa⟩
    · rw [if_neg c1]
      by_cases c2 : priceA (stB A) - priceA A < heat
      · rw [if_pos c2, if_pos (ac.mp (.inr c2))]
        exact gv_i ⟨kA, fa⟩
      · rw [if_neg c2, if_neg (fun x => (ac.mpr x).elim c1 c2)]
        have e3 : (nI (stM A) = 3) = (stM A = 3) := propext (nI_eq (b := 3) (by omega) (by omega))
        unfold s_X11_undoMove s_X11_blockAt
        simp only [e3]
        by_cases c3 : stM A = 3
        · simp (disch := omega) only [c3, ↓reduceIte, bn_some, NK, inb_n, cl_nI, lt_e, bv_some]
          refine gv_i ⟨?_, fa.t (FT_1 (fun c hc => up_d hc))⟩
          rw [up_f, kA]
          unfold stB mvA
          simp only [c3, show ¬ 3 = 0 by decide, show ¬ 3 = 1 by decide, show ¬ 3 = 2 by decide, ↓reduceIte]
          funext j
          by_cases hj : j = 20 + 6 * stP A + 5
          · subst hj; rw [ua_s, k5]
          · rw [ua_n hj, ua_n hj]
        · simp only [c3, ↓reduceIte]
          have := m_doMove w2 kA q4 (show stP A < _ by omega) (q := stQ A) (x := nI (stQ A)) (fun _ => ⟨by omega, rfl⟩)
          have eu : mvA (stB A) (stM A) (stP A) (stQ A) = ua A 4 (zS A) := by
            have := un_mv w1 (m := stM A) (p := stP A) (q := stQ A) (by omega) (fun _ => by omega)
            unfold unA at this
            rw [if_neg c3] at this
            exact this
          rw [eu] at this
          refine gv_v (P := fun _ τ => τ 151 = ua A 4 (zS A) ∧ ∀ c, c ≠ 151 → τ c = κ c) (gv_v this (fun _ τ k => gv_i k)) ?_
          intro _ κ' ⟨u1, u2⟩
          exact gv_i ⟨u1, fa.t (FT_1 u2)⟩
