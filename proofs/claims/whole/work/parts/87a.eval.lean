def jnI (c x y : Int32) : Int32 := if c = 38 then (if x = 0 then 0 else if y = 0 then 0 else 1) else if c = 42 then x * y else if c = 43 then x + y else if c = 45 then x - y else if c = 60 then (if y ≤ x then 0 else 1) else if c = 61 then (if x = y then 1 else 0) else if c = 62 then (if x ≤ y then 0 else 1) else if c = 124 then (if x = 0 then (if y = 0 then 0 else 1) else 1) else (if y = 0 then 0 else x / y)
theorem div_m1 (x : Int32) : x / -1 = -x := by
  apply Int32.toInt_inj.mp
  rw [Int32.toInt_div, show (-1 : Int32).toInt = -1 by decide, Int.tdiv_neg, Int.tdiv_one, Int32.toInt_neg]
theorem wk_e (σ : Sg) {c : Int32} (hc : bsg c) (x y : Int32) : s_X9_worked σ c x y = some (jnI c x y, σ) := by
  unfold s_X9_worked jnI s_X9_truth
  simp only [ti_38, ti_42, ti_43, ti_45, ti_60, ti_61, ti_62, ti_124, ↓reduceIte, show ¬ (1 : Int32) = 0 by decide, bn_some]
  rcases hc with rfl | rfl | rfl | rfl | rfl | rfl | rfl | rfl | rfl
  · by_cases a : x = 0
    · simp [a]
    · by_cases b : y = 0 <;> simp [a, b]
  · simp
  · simp
  · simp
  · by_cases b : y = 0 <;> simp [b]
  · by_cases b : y ≤ x <;> simp [b]
  · by_cases b : x = y <;> simp [b]
  · by_cases b : x ≤ y <;> simp [b]
  · by_cases a : x = 0
    · by_cases b : y = 0 <;> simp [a, b]
    · simp [a]
theorem jo_e (σ : Sg) {c : Int32} (hc : bsg c) (x y : Int32) : s_X11_joined σ c x y = some (jnI c x y, σ) := by
  unfold s_X11_joined jnI
  rcases hc with rfl | rfl | rfl | rfl | rfl | rfl | rfl | rfl | rfl
  · by_cases a : x = 0
    · simp (decide := true) [a]
    · by_cases b : y = 0 <;> simp (decide := true) [a, b]
  · simp (decide := true)
  · simp (decide := true)
  · simp (decide := true)
  · by_cases b : y = 0
    · simp (decide := true) [b]
    · by_cases d : y = -1
      · simp (decide := true) [d, div_m1]
      · simp (decide := true) [b, d]
  · by_cases b : y ≤ x <;> simp (decide := true) [b]
  · by_cases b : x = y <;> simp (decide := true) [b]
  · by_cases b : x ≤ y <;> simp (decide := true) [b]
  · by_cases a : x = 0
    · by_cases b : y = 0 <;> simp (decide := true) [a, b]
    · simp (decide := true) [a]
/- rows of steps -/
abbrev EV : Type := (Nat → Int32) × Nat
def ev1 (nm : Int32 → Int32) (a : EV) (t : Nat × Int32) : EV := if t.1 = 0 then (ua a.1 a.2 t.2, a.2 + 1) else if t.1 = 1 then (ua a.1 a.2 (nm t.2), a.2 + 1) else if t.2 = 33 then (ua a.1 (a.2 - 1) (if a.1 (a.2 - 1) = 0 then 1 else 0), a.2) else (ua a.1 (a.2 - 2) (jnI t.2 (a.1 (a.2 - 2)) (a.1 (a.2 - 1))), a.2 - 1)
def evK (nm : Int32 → Int32) (L : List (Nat × Int32)) (k : Nat) : EV := (L.take k).foldl (ev1 nm) (fun _ => 0, 0)
def evL (nm : Int32 → Int32) (L : List (Nat × Int32)) : Int32 := (evK nm L L.length).1 0
theorem evK_s (nm : Int32 → Int32) (L : List (Nat × Int32)) {k : Nat} (hk : k < L.length) : evK nm L (k + 1) = ev1 nm (evK nm L k) L[k] := by
  unfold evK
  rw [List.take_add_one, List.foldl_append, List.getElem?_eq_getElem hk]
  rfl
/-- how high the pile stands -/
theorem dep_s {L : List (Nat × Int32)} {k d e : Nat} (hk : k < L.length) (h : dep (L.drop k) d = some e) : (L[k].1 ≠ 2 → dep (L.drop (k + 1)) (d + 1) = some e) ∧ (L[k].1 = 2 → L[k].2 = 33 → 1 ≤ d ∧ dep (L.drop (k + 1)) d = some e) ∧ (L[k].1 = 2 → L[k].2 ≠ 33 → 2 ≤ d ∧ dep (L.drop (k + 1)) (d - 1) = some e) := by
  rw [List.drop_eq_getElem_cons hk] at h
  unfold dep at h
  refine ⟨fun c => ?_, fun c c2 => ?_, fun c c2 => ?_⟩
  · rw [if_pos c] at h; exact h
  · rw [if_neg (fun x => x c), if_pos c2] at h
    by_cases c3 : 1 ≤ d
    · rw [if_pos c3] at h; exact ⟨c3, h⟩
    · rw [if_neg c3] at h; cases h
  · rw [if_neg (fun x => x c), if_neg c2] at h
    by_cases c3 : 2 ≤ d
    · rw [if_pos c3] at h; exact ⟨c3, h⟩
    · rw [if_neg c3] at h; cases h
theorem ev_d (nm : Int32 → Int32) {key : Nat} {L : List (Nat × Int32)} (hd : dep L 0 = some 1) (hv : ∀ t, t ∈ L → vtk key t) : ∀ k, k ≤ L.length → dep (L.drop k) (evK nm L k).2 = some 1 ∧ (evK nm L k).2 ≤ k := by
  intro k
  induction k with
  | zero => intro _; exact ⟨hd, Nat.le_refl 0⟩
  | succ k ih =>
    intro hk
    obtain ⟨h1, h2⟩ := ih (by omega)
    have hkl : k < L.length := by omega
    obtain ⟨d1, d2, d3⟩ := dep_s hkl h1
    rw [evK_s nm L hkl]
    unfold ev1
    rcases hv _ (List.getElem_mem hkl) with ⟨e, _⟩ | ⟨e, _⟩ | ⟨e, _⟩
    · rw [if_pos e]; exact ⟨d1 (by omega), by show _ + 1 ≤ _; omega⟩
    · rw [if_neg (by omega), if_pos e]; exact ⟨d1 (by omega), by show _ + 1 ≤ _; omega⟩
    · rw [if_neg (by omega), if_neg (by omega)]
      by_cases c : L[k].2 = 33
      · rw [if_pos c]; exact ⟨(d2 e c).2, by show _ ≤ k + 1; omega⟩
      · rw [if_neg c]; exact ⟨(d3 e c).2, by show _ - 1 ≤ _; omega⟩
def TXok (key : Nat) (L : List (Nat × Int32)) : Prop := key ≤ 8 ∧ L.length ≤ 96 ∧ dep L 0 = some 1 ∧ ∀ t, t ∈ L → vtk key t
def TXm (A : Nat → Int32) (t key c : Nat) (L : List (Nat × Int32)) : Prop := A (140 + 200 * t) = nI key ∧ A (140 + 200 * t + 1) = nI c ∧ A (140 + 200 * t + 2) = nI L.length ∧ ∀ i tk, L[i]? = some tk → A (140 + 200 * t + 4 + 2 * i) = nI tk.1 ∧ A (140 + 200 * t + 4 + 2 * i + 1) = tk.2
def TXc (σ : Sg) (w key c : Nat) (L : List (Nat × Int32)) : Prop := σ w 0 = nI key ∧ σ w 1 = nI c ∧ σ w 2 = nI L.length ∧ ∀ i tk, L[i]? = some tk → σ (w + 1) i = enc tk
def nmv (A : Nat → Int32) (key : Nat) (v : Int32) : Int32 := if key = 8 then (if v = 104 then HH A else if v = 108 then wiresA A else if v = 119 then WW A else wasteA A) else (if v = 104 then ht A key else if v = 112 then pw A key else if v = 116 then heatA A key else if v = 119 then wd A key else if v = 120 then XX A key else if v = 121 then YY A key else growA A key)
def givA (A : Nat → Int32) (key : Nat) (L : List (Nat × Int32)) : Int32 := if key = 8 ∨ key < nB A then evL (nmv A key) L else 0
theorem nm8 {v : Int32} (h : isNm 8 v = true) : v = 119 ∨ v = 104 ∨ v = 108 ∨ v = 117 := by
  unfold isNm at h
  simp only [↓reduceIte, Bool.or_eq_true, beq_iff_eq] at h
  rcases h with ((h | h) | h) | h <;> simp [h]
theorem nmb {key : Nat} {v : Int32} (hk : key ≠ 8) (h : isNm key v = true) : v = 120 ∨ v = 121 ∨ v = 119 ∨ v = 104 ∨ v = 112 ∨ v = 116 ∨ v = 103 := by
  unfold isNm at h
  simp only [hk, ↓reduceIte, Bool.or_eq_true, beq_iff_eq] at h
  rcases h with (((((h | h) | h) | h) | h) | h) | h <;> simp [h]
theorem nmr {key : Nat} {v : Int32} (h : isNm key v = true) : 0 < v ∧ ¬ v < 97 ∧ ¬ 122 < v := by
  by_cases hk : key = 8
  · subst hk
    rcases nm8 h with rfl | rfl | rfl | rfl <;> decide
  · rcases nmb hk h with rfl | rfl | rfl | rfl | rfl | rfl | rfl <;> decide
section evc
variable {σ : Sg} {A : Nat → Int32} {w key c : Nat} {L : List (Nat × Int32)}
def FE (σ τ : Sg) : Prop := ∀ d, d ≠ 8 → d ≠ 118 → τ d = σ d
theorem FE.t {σ τ ρ : Sg} (h : FE σ τ) (k : FE τ ρ) : FE σ ρ := fun d a b => (k d a b).trans (h d a b)
theorem fl2 : FL 2 := .inl rfl
theorem RF_e {τ : Sg} (n8 : nB A ≤ 8) (h : RF σ 2 A) (f : FE σ τ) : RF τ 2 A := RF_c h n8 (fun d h1 h2 h3 => f d h3 (by omega))
theorem x9_name (hw : WF A) (h : RF σ 2 A) (h0 : σ w 0 = nI key) (h8 : key ≤ 8) (hn : key = 8 ∨ key < nB A) {v : Int32} (hv : isNm key v = true) : Gv (bn (s_X9_isOfAll σ w) fun v3 s2 => if v3 = 0 then s_X9_nameOfBlock s2 w 2 v else s_X9_nameOfAll s2 2 v) (fun r τ => r = nmv A key v ∧ ∀ d, d ≠ 8 → τ d = σ d) := by
  have n8 := hw.n8
  unfold s_X9_isOfAll nmv
  have ek : (nI key = 8) = (key = 8) := ieq (b := 8) (by omega) (by omega)
  simp only [h0, ek]
  by_cases ck : key = 8
  · subst ck
    simp only [↓reduceIte, bn_some, show ¬ (1 : Int32) = 0 by decide]
    unfold s_X9_nameOfAll
    simp only [ti_104, ti_108, ti_119]
    rcases nm8 hv with rfl | rfl | rfl | rfl
    · simp only [show ¬ (119 : Int32) = 104 by decide, show ¬ (119 : Int32) = 108 by decide, ↓reduceIte]
      exact gv_i ⟨h.ww, fun _ _ => rfl⟩
    · simp only [↓reduceIte]
      exact gv_i ⟨h.hw, fun _ _ => rfl⟩
    · simp only [show ¬ (108 : Int32) = 104 by decide, ↓reduceIte, x1_wires fl2 hw h, bn_some]
      exact gv_i ⟨rfl, fun _ _ => rfl⟩
    · simp only [show ¬ (117 : Int32) = 104 by decide, show ¬ (117 : Int32) = 108 by decide, show ¬ (117 : Int32) = 119 by decide, ↓reduceIte, x1_waste fl2 hw h, bn_some]
      exact gv_i ⟨rfl, fun _ _ => rfl⟩
  · have hkn : key < nB A := by omega
    simp only [ck, ↓reduceIte, bn_some]
    have gr : Gv (bn (s_X1_growsOf σ 2 (nI key)) fun v3 s2 => some (v3, s2)) (fun r τ => r = growA A key ∧ ∀ d, d ≠ 8 → τ d = σ d) :=
      gv_n (x1_grows fl2 hw h hkn) (fun r τ q => gv_i q)
    rcases nmb ck hv with rfl | rfl | rfl | rfl | rfl | rfl | rfl
    · unfold s_X9_nameOfBlock
      simp +decide (disch := omega) only [h0, FK fl2, inb_n, cl_nI, ↓reduceIte, rtb fl2, ↓lt_e, show Int32.toInt 120 = 120 by decide]
      exact gv_i ⟨h.x hkn, fun _ _ => rfl⟩
    · unfold s_X9_nameOfBlock
      simp +decide (disch := omega) only [h0, FK fl2, inb_n, cl_nI, ↓reduceIte, rtb fl2, ↓lt_e, show Int32.toInt 121 = 121 by decide]
      exact gv_i ⟨h.y hkn, fun _ _ => rfl⟩
    · unfold s_X9_nameOfBlock
      simp +decide (disch := omega) only [h0, FK fl2, inb_n, cl_nI, ↓reduceIte, rtb fl2, ↓lt_e, show Int32.toInt 119 = 119 by decide]
      exact gv_i ⟨h.1.w hkn, fun _ _ => rfl⟩
    · unfold s_X9_nameOfBlock
      simp +decide (disch := omega) only [h0, FK fl2, inb_n, cl_nI, ↓reduceIte, rtb fl2, ↓lt_e, show Int32.toInt 104 = 104 by decide]
      exact gv_i ⟨h.1.hh hkn, fun _ _ => rfl⟩
    · unfold s_X9_nameOfBlock
      simp +decide (disch := omega) only [h0, FK fl2, inb_n, cl_nI, ↓reduceIte, rtb fl2, ↓lt_e, show Int32.toInt 112 = 112 by decide]
      exact gv_i ⟨h.1.pwv hkn, fun _ _ => rfl⟩
    · unfold s_X9_nameOfBlock
      simp +decide (disch := omega) only [h0, FK fl2, inb_n, cl_nI, ↓reduceIte, rtb fl2, ↓lt_e, show Int32.toInt 116 = 116 by decide, x1_heatOf fl2 hw h hkn, bn_some]
      exact gv_i ⟨rfl, fun _ _ => rfl⟩
    · unfold s_X9_nameOfBlock
      simp +decide (disch := omega) only [h0, FK fl2, inb_n, cl_nI, ↓reduceIte, rtb fl2, ↓lt_e, show Int32.toInt 103 = 103 by decide]
      exact gr
theorem al118 : aln 0 118 = 96 := rfl
theorem x9_push {τ : Sg} {k : Nat} (hk : k < 96) (v : Int32) : s_X9_push τ 118 (nI k) v = some (nI (k + 1), up τ 118 k v) := by
  unfold s_X9_push
  have c : nI k < Int32.ofNat 96 := nI_lt (b := 96) hk (by omega)
  simp (disch := omega) only [al118, c, ↓reduceIte, inb_n, cl_nI, lt_e, nI_1]
theorem n_sub {a : Nat} (h : 1 ≤ a) : nI a - 1 = nI (a - 1) := pk_sub (b := 1) h
theorem n_sub2 {a : Nat} (h : 2 ≤ a) : nI a - 2 = nI (a - 2) := pk_sub (b := 2) h
theorem x9_neg {τ : Sg} {k : Nat} (h1 : 1 ≤ k) (hk : k ≤ 96) : s_X9_negate τ 118 (nI k) = some (nI k, up τ 118 (k - 1) (if τ 118 (k - 1) = 0 then 1 else 0)) := by
  unfold s_X9_negate s_X9_truth
  have c : ¬ nI k < 1 := nI_nlt (b := 1) h1 (by omega)
  simp (disch := omega) only [c, ↓reduceIte, n_sub, al118, inb_n, cl_nI, bn_some, lt_e, show ¬ (1 : Int32) = 0 by decide]
  split <;> rfl
theorem x9_join {τ : Sg} {k : Nat} (h2 : 2 ≤ k) (hk : k ≤ 96) {c : Int32} (hc : bsg c) : s_X9_join τ 118 (nI k) c = some (nI (k - 1), up τ 118 (k - 2) (jnI c (τ 118 (k - 2)) (τ 118 (k - 1)))) := by
  unfold s_X9_join
  have c2 : (2 : Int32) ≤ nI k := nI_le (a := 2) h2 (by omega)
  simp (disch := omega) only [c2, ↓reduceIte, n_sub, n_sub2, al118, inb_n, cl_nI, wk_e _ hc, bn_some, lt_e]
theorem enc_0 {t : Nat × Int32} (h : t.1 = 0) : enc t = t.2 := by unfold enc; rw [if_pos h]
theorem enc_n {t : Nat × Int32} (h : t.1 ≠ 0) : enc t = -t.2 := by unfold enc; rw [if_neg h]
theorem sg_r {v : Int32} (h : v = 33 ∨ bsg v) : 0 < v ∧ (v < 97 ∨ (¬ v < 97 ∧ 122 < v)) := by
  rcases h with rfl | rfl | rfl | rfl | rfl | rfl | rfl | rfl | rfl | rfl <;> decide
theorem bsg_33 {v : Int32} (h : v = 33 ∨ bsg v) (h2 : v ≠ 33) : bsg v := h.resolve_left h2
theorem x9_value (hw : WF A) (h : RF σ 2 A) (hx : TXc σ w key c L) (ho : TXok key L) (hr : rt w 3 = w + 1) (ha : aln 0 (w + 1) = 96) (hw1 : w ≠ 8 ∧ w ≠ 118 ∧ w + 1 ≠ 8 ∧ w + 1 ≠ 118) : Gv (s_X9_valueOn σ w 2 118) (fun r τ => r = givA A key L ∧ FE σ τ) := by
  have n8 := hw.n8
  obtain ⟨o1, o2, o3, o4⟩ := ho
  obtain ⟨x0, x1, x2, x3⟩ := hx
  have main : key = 8 ∨ key < nB A → Gv (s_X9_valueOn_25 FU σ w 2 118 0 0) (fun r τ => r = givA A key L ∧ FE σ τ) := by
    intro hn
    refine gv_loop0 (fun m i (a : Nat × Sg) => s_X9_valueOn_25 m a.2 w 2 118 (nI a.1) (nI i)) L.length (fun i a => a.1 = (evK (nmv A key) L i).2 ∧ (∀ j, j < a.1 → a.2 118 j = (evK (nmv A key) L i).1 j) ∧ FE σ a.2) (a := (0, σ)) (by omega) ⟨rfl, fun j hj => absurd hj (by simp), fun _ _ _ => rfl⟩ ?_ ?_
    · intro m i ⟨top, τ⟩ hi ⟨r1, r2, r3⟩
      have r1 : top = (evK (nmv A key) L i).2 := r1
      have r2 : ∀ j, j < top → τ 118 j = (evK (nmv A key) L i).1 j := r2
      have r3 : FE σ τ := r3
      obtain ⟨d1, d2⟩ := ev_d (nmv A key) o3 o4 i (by omega)
      rw [← r1] at d1 d2
      obtain ⟨s1, s2, s3⟩ := dep_s hi d1
      have fe : τ (w + 1) i = enc L[i] := by rw [r3 _ hw1.2.2.1 hw1.2.2.2]; exact x3 i _ (List.getElem?_eq_getElem hi)
      have f2 : τ w 2 = nI L.length := by rw [r3 _ hw1.1 hw1.2.1]; exact x2
      have f0 : τ w 0 = nI key := by rw [r3 _ hw1.1 hw1.2.1]; exact x0
      have hT : RF τ 2 A := RF_e n8 h r3
      have es := evK_s (nmv A key) L hi
      have hv := o4 _ (List.getElem_mem hi)
      have pushP : ∀ (τ' : Sg) (v : Int32), (∀ d, d ≠ 8 → τ' d = τ d) → evK (nmv A key) L (i + 1) = (ua (evK (nmv A key) L i).1 top v, top + 1) → (fun i (a : Nat × Sg) => a.1 = (evK (nmv A key) L i).2 ∧ (∀ j, j < a.1 → a.2 118 j = (evK (nmv A key) L i).1 j) ∧ FE σ a.2) (i + 1) (top + 1, up τ' 118 top v) := by
        intro τ' v hτ he
        refine ⟨by rw [he], ?_, ?_⟩
        · intro j hj
          rw [he]
          show up τ' 118 top v 118 j = ua _ top v j
          rw [up_f]
          have hj : j < top + 1 := hj
          by_cases q : j = top
          · subst q; rw [ua_s, ua_s]
          · rw [ua_n q, ua_n q, hτ 118 (by omega)]; exact r2 j (by omega)
        · intro d a b
          show up τ' 118 top v d = σ d
          rw [up_d b, hτ d a]; exact r3 d a b
      rcases hv with ⟨e, e2⟩ | ⟨e, e2⟩ | ⟨e, e2⟩
      · refine ⟨(top + 1, up τ 118 top L[i].2), ?_, pushP τ _ (fun _ _ => rfl) ?_⟩
        · show s_X9_valueOn_25 (m + 1) τ w 2 118 (nI top) (nI i) = _
          have ng : ¬ 0 < -L[i].2 := by
            obtain ⟨t, ht, et⟩ := e2
            rw [et, lt_t, sb_negT (by omega), show (0 : Int32).toInt = 0 by decide]; omega
          simp only [s_X9_valueOn_25]
          simp (disch := omega) only [f2, le_F, ↓reduceIte, hr, ha, inb_n, cl_nI, fe, enc_0 e, lt_e, ng, x9_push (show top < 96 by omega), bn_some, nI_1]
        · rw [es]; unfold ev1; rw [if_pos e, ← r1]
      · obtain ⟨n1, n2, n3⟩ := nmr e2
        obtain ⟨r, τ', en, q1, q2⟩ := x9_name hw hT f0 o1 hn e2
        refine ⟨(top + 1, up τ' 118 top r), ?_, pushP τ' _ q2 ?_⟩
        · show s_X9_valueOn_25 (m + 1) τ w 2 118 (nI top) (nI i) = _
          unfold s_X9_isOfAll at en
          simp only [s_X9_valueOn_25, s_X9_isOfAll]
          simp (disch := omega) only [f2, le_F, ↓reduceIte, hr, ha, inb_n, cl_nI, fe, enc_n (show L[i].1 ≠ 0 by omega), Int32.neg_neg, lt_e, n1, n2, n3, f0]
          rw [f0] at en
          by_cases ck : nI key = 8
          · rw [if_pos ck] at en ⊢
            rw [bn_some, if_neg (show ¬ (1 : Int32) = 0 by decide)] at en
            rw [bn_some, if_neg (show ¬ (1 : Int32) = 0 by decide), en, bn_some, x9_push (show top < 96 by omega), bn_some, nI_1]
          · rw [if_neg ck] at en ⊢
            rw [bn_some, if_pos rfl] at en
            rw [bn_some, if_pos rfl, en, bn_some, x9_push (show top < 96 by omega), bn_some, nI_1]
        · rw [es]; unfold ev1; rw [if_neg (by omega), if_pos e, ← r1, q1]
      · obtain ⟨n1, n2⟩ := sg_r e2
        have n111 : ∀ (K : Sg → Nat → Nat → Nat → Int32 → Int32 → RO), (if L[i].2 < 97 then s_X9_valueOn_111 K τ w 2 118 (nI top) (nI i) L[i].2 else if 122 < L[i].2 then s_X9_valueOn_111 K τ w 2 118 (nI top) (nI i) L[i].2 else bn (s_X9_isOfAll τ w) fun v3 s2 => if v3 = 0 then bn (s_X9_nameOfBlock s2 w 2 L[i].2) fun v5 s4 => bn (s_X9_push s4 118 (nI top) v5) fun v7 s6 => K s6 w 2 118 v7 (nI i + 1) else bn (s_X9_nameOfAll s2 2 L[i].2) fun v9 s8 => bn (s_X9_push s8 118 (nI top) v9) fun v11 s10 => K s10 w 2 118 v11 (nI i + 1)) = s_X9_valueOn_111 K τ w 2 118 (nI top) (nI i) L[i].2 := by
          intro K
          rcases n2 with n2 | n2
          · rw [if_pos n2]
          · rw [if_neg n2.1, if_pos n2.2]
        by_cases c33 : L[i].2 = 33
        · obtain ⟨k1, k2⟩ := s2 e c33
          have ev : evK (nmv A key) L (i + 1) = (ua (evK (nmv A key) L i).1 (top - 1) (if (evK (nmv A key) L i).1 (top - 1) = 0 then 1 else 0), top) := by rw [es]; unfold ev1; rw [if_neg (by omega), if_neg (by omega), if_pos c33, ← r1]
          refine ⟨(top, up τ 118 (top - 1) (if τ 118 (top - 1) = 0 then 1 else 0)), ?_, ?_, ?_, ?_⟩
          · show s_X9_valueOn_25 (m + 1) τ w 2 118 (nI top) (nI i) = _
            simp only [s_X9_valueOn_25]
            simp (disch := omega) only [f2, le_F, ↓reduceIte, hr, ha, inb_n, cl_nI, fe, enc_n (show L[i].1 ≠ 0 by omega), Int32.neg_neg, lt_e, n1]
            rw [n111]
            unfold s_X9_valueOn_111
            rw [if_pos c33, x9_neg k1 (by omega), bn_some, nI_1]
          · show top = _
            rw [ev]
          · intro j hj
            have hj : j < top := hj
            show up τ 118 (top - 1) _ 118 j = _
            rw [ev, up_f]
            show ua _ _ _ j = ua _ _ _ j
            rw [r2 (top - 1) (by omega)]
            by_cases q : j = top - 1
            · subst q; rw [ua_s, ua_s]
            · rw [ua_n q, ua_n q]; exact r2 j hj
          · intro d a b
            show up τ 118 (top - 1) _ d = σ d
            rw [up_d b]; exact r3 d a b
        · obtain ⟨k1, k2⟩ := s3 e c33
          have ev : evK (nmv A key) L (i + 1) = (ua (evK (nmv A key) L i).1 (top - 2) (jnI L[i].2 ((evK (nmv A key) L i).1 (top - 2)) ((evK (nmv A key) L i).1 (top - 1))), top - 1) := by rw [es]; unfold ev1; rw [if_neg (by omega), if_neg (by omega), if_neg c33, ← r1]
          refine ⟨(top - 1, up τ 118 (top - 2) (jnI L[i].2 (τ 118 (top - 2)) (τ 118 (top - 1)))), ?_, ?_, ?_, ?_⟩
          · show s_X9_valueOn_25 (m + 1) τ w 2 118 (nI top) (nI i) = _
            simp only [s_X9_valueOn_25]
            simp (disch := omega) only [f2, le_F, ↓reduceIte, hr, ha, inb_n, cl_nI, fe, enc_n (show L[i].1 ≠ 0 by omega), Int32.neg_neg, lt_e, n1]
            rw [n111]
            unfold s_X9_valueOn_111
            rw [if_neg c33, x9_join k1 (by omega) (bsg_33 e2 c33), bn_some, nI_1]
          · show top - 1 = _
            rw [ev]
          · intro j hj
            have hj : j < top - 1 := hj
            show up τ 118 (top - 2) _ 118 j = _
            rw [ev, up_f]
            show ua _ _ _ j = ua _ _ _ j
            rw [r2 (top - 2) (by omega), r2 (top - 1) (by omega)]
            by_cases q : j = top - 2
            · subst q; rw [ua_s, ua_s]
            · rw [ua_n q, ua_n q]; exact r2 j (by omega)
          · intro d a b
            show up τ 118 (top - 2) _ d = σ d
            rw [up_d b]; exact r3 d a b
    · intro m ⟨top, τ⟩ ⟨r1, r2, r3⟩
      have r1' : top = (evK (nmv A key) L L.length).2 := r1
      have r2' : ∀ j, j < top → τ 118 j = (evK (nmv A key) L L.length).1 j := r2
      have r3' : FE σ τ := r3
      clear r1 r2 r3
      obtain ⟨d1, d2⟩ := ev_d (nmv A key) o3 o4 L.length (Nat.le_refl _)
      rw [List.drop_length, ← r1'] at d1
      have t1 : top = 1 := by
        have : some top = some 1 := d1
        injection this
      have f2 : τ w 2 = nI L.length := by rw [r3' _ hw1.1 hw1.2.1]; exact x2
      show Gv (s_X9_valueOn_25 (m + 1) τ w 2 118 (nI top) (nI L.length)) _
      rw [t1]
      simp only [s_X9_valueOn_25]
      simp (disch := omega) only [f2, le_T, ↓reduceIte, show ¬ nI 1 < 1 by decide, al118, show (inb 0 96 = true) = True by decide, k0c]
      refine gv_i ⟨?_, r3'⟩
      rw [r2' 0 (by omega)]
      unfold givA evL
      rw [if_pos hn]
  unfold s_X9_valueOn s_X9_isOfAll s_X1_has
  have ek : (nI key = 8) = (key = 8) := ieq (b := 8) (by omega) (by omega)
  simp only [x0, ek]
  by_cases ck : key = 8
  · simp only [ck, ↓reduceIte, bn_some, show ¬ (1 : Int32) = 0 by decide]
    have := main (.inl ck)
    rw [ck] at this
    exact this
  · simp only [ck, ↓reduceIte, bn_some, x0, h.1.n, hw.n]
    have c0 : ¬ nI key < 0 := nI_pos (by omega)
    by_cases cn : key < nB A
    · simp (disch := omega) only [c0, le_F, ↓reduceIte, bn_some, show ¬ (1 : Int32) = 0 by decide]
      exact main (.inr cn)
    · simp (disch := omega) only [c0, le_T, ↓reduceIte, bn_some]
      refine gv_i ⟨?_, fun _ _ _ => rfl⟩
      unfold givA
      rw [if_neg (by omega)]
end evc
