theorem has_w (x : Int32) {n : Nat} (hn : n < 1000) : wI x 0 (nI n - 1) = if inb x n = true then 1 else 0 := by
  unfold wI
  rcases pk_ix x (n := n) (by omega) with h | h | ⟨j, hj, rfl⟩
  · rw [if_pos h, if_neg]
    intro c
    obtain ⟨j, hj, rfl⟩ := inb_of c (by omega)
    exact absurd h (nI_pos (by omega))
  · have h0 : ¬ x < 0 := by
      intro c
      have := Int32.lt_of_le_of_lt h c
      exact absurd this (nI_pos (by omega))
    have h1 : nI n - 1 < x := by
      rcases Nat.eq_zero_or_pos n with e | e
      · subst e
        rw [show nI 0 - 1 = -1 by decide, lt_t]
        rw [lt_le] at h0
        rw [le_t] at h0
        have e1 : (-1 : Int32).toInt = -1 := by decide
        have e2 : (0 : Int32).toInt = 0 := by decide
        omega
      · rw [predI e]
        exact Int32.lt_of_lt_of_le (nI_lt (by omega) (by omega)) h
    rw [if_neg h0, if_pos h1, if_neg]
    intro c
    obtain ⟨j, hj, rfl⟩ := inb_of c (by omega)
    exact absurd h (nI_ge hj (by omega))
  · rw [if_neg (nI_pos (by omega)), predI (by omega), if_neg (nI_nlt (by omega) (by omega)), if_pos (inb_nI hj (by omega))]
theorem has_c {σ : Sg} {b : Nat} {A : Nat → Int32} (hw : WF A) (h : σ b 1 = A 0) (x : Int32) : s_X1_has σ b x = some (if inb x (nB A) = true then 1 else 0, σ) := by
  have n8 := hw.n8
  unfold s_X1_has
  rw [h, hw.n]
  rcases pk_ix x (n := nB A) (by omega) with c | c | ⟨j, hj, rfl⟩
  · rw [if_pos c, if_neg]
    intro d
    obtain ⟨j, hj, rfl⟩ := inb_of d (by omega)
    exact absurd c (nI_pos (by omega))
  · have h0 : ¬ x < 0 := by
      intro d
      have := Int32.lt_of_le_of_lt c d
      exact absurd this (nI_pos (by omega))
    rw [if_neg h0, if_pos c, if_neg]
    intro d
    obtain ⟨j, hj, rfl⟩ := inb_of d (by omega)
    exact absurd c (nI_ge hj (by omega))
  · rw [if_neg (nI_pos (by omega)), if_neg (nI_ge hj (by omega)), if_pos (inb_nI hj (by omega))]
theorem ite01 (p : Prop) [Decidable p] : ((if p then (1 : Int32) else 0) = 0 ∨ (if p then (1 : Int32) else 0) = 1) = True := by
  by_cases c : p <;> simp [c]
theorem isBlk_e {σ : Sg} {A : Nat → Int32} (hw : WF A) (hA : σ 151 = A) (x : Int32) : s_X11_isBlock σ x = some (if inb x (nB A) = true then 1 else 0, σ) := by
  have n8 := hw.n8
  unfold s_X11_isBlock
  rw [isIn_0y, hA, hw.n, has_w x (by omega), bn_some]
  simp only [ite01, ↓reduceIte]
theorem nm128 {key : Nat} {v : Int32} (h : isNm key v = true) : (inb v 128 = true) = True := by
  by_cases hk : key = 8
  · subst hk
    rcases nm8 h with rfl | rfl | rfl | rfl <;> decide
  · rcases nmb hk h with rfl | rfl | rfl | rfl | rfl | rfl | rfl <;> decide
theorem ofm1 : Int32.ofInt (-1) = -1 := by decide
section evm
variable {ρ : Sg} {A : Nat → Int32} {t key c : Nat} {L : List (Nat × Int32)}
theorem m_worked (hA : ρ 151 = A) (ht : t < 10) (hx : TXm A t key c L) (ho : TXok key L) (hn : ∀ v, isNm key v = true → ρ 168 v.toNatClampNeg = nmv A key v) : Gv (s_X11_worked ρ (nI t)) (fun r κ => r = evL (nmv A key) L ∧ ∀ d, d ≠ 169 → κ d = ρ d) := by
  obtain ⟨o1, o2, o3, o4⟩ := ho
  obtain ⟨x0, x1, x2, x3⟩ := hx
  unfold s_X11_worked
  refine gv_loop0 (fun m i (a : Nat × Sg) => s_X11_worked_4 m a.2 (nI t) (nI a.1) (nI i)) L.length (fun i a => a.1 = (evK (nmv A key) L i).2 ∧ (∀ j, j < a.1 → a.2 169 j = (evK (nmv A key) L i).1 j) ∧ ∀ d, d ≠ 169 → a.2 d = ρ d) (a := (0, ρ)) (by omega) ⟨rfl, fun j hj => absurd hj (by simp), fun _ _ => rfl⟩ ?_ ?_
  · intro m i ⟨top, τ⟩ hi ⟨r1, r2, r3⟩
    have r1 : top = (evK (nmv A key) L i).2 := r1
    have r2 : ∀ j, j < top → τ 169 j = (evK (nmv A key) L i).1 j := r2
    have r3 : ∀ d, d ≠ 169 → τ d = ρ d := r3
    have tA : τ 151 = A := by rw [r3 151 (by omega), hA]
    obtain ⟨d1, d2⟩ := ev_d (nmv A key) o3 o4 i (by omega)
    rw [← r1] at d1 d2
    obtain ⟨s1, s2, s3⟩ := dep_s hi d1
    obtain ⟨y1, y2⟩ := x3 i _ (List.getElem?_eq_getElem hi)
    have es := evK_s (nmv A key) L hi
    have hv := o4 _ (List.getElem_mem hi)
    have pushP : ∀ (v : Int32), evK (nmv A key) L (i + 1) = (ua (evK (nmv A key) L i).1 top v, top + 1) → (fun i (a : Nat × Sg) => a.1 = (evK (nmv A key) L i).2 ∧ (∀ j, j < a.1 → a.2 169 j = (evK (nmv A key) L i).1 j) ∧ ∀ d, d ≠ 169 → a.2 d = ρ d) (i + 1) (top + 1, up τ 169 top v) := by
      intro v he
      refine ⟨by rw [he], ?_, ?_⟩
      · intro j hj
        rw [he]
        show up τ 169 top v 169 j = ua _ top v j
        rw [up_f]
        have hj : j < top + 1 := hj
        by_cases q : j = top
        · subst q; rw [ua_s, ua_s]
        · rw [ua_n q, ua_n q]; exact r2 j (by omega)
      · intro d b
        show up τ 169 top v d = ρ d
        rw [up_d b]; exact r3 d b
    have pre : s_X11_worked_4 (m + 1) τ (nI t) (nI top) (nI i) = if nI L[i].1 = 2 then (if L[i].2 = 33 then (if inb (nI top - 1) 100 = true then (if (τ 169 (nI top - 1).toNatClampNeg) = 0 then (if inb (nI top - 1) 100 = true then lt (up τ 169 (nI top - 1).toNatClampNeg 1) fun s9 => s_X11_worked_4 m s9 (nI t) (nI top) (nI i + 1) else none) else (if inb (nI top - 1) 100 = true then lt (up τ 169 (nI top - 1).toNatClampNeg 0) fun s10 => s_X11_worked_4 m s10 (nI t) (nI top) (nI i + 1) else none)) else none) else lt (nI top + Int32.ofInt (-1)) fun y11 => if inb (y11 - 1) 100 = true then (if inb y11 100 = true then (bn (s_X11_joined τ L[i].2 (τ 169 (y11 - 1).toNatClampNeg) (τ 169 (y11).toNatClampNeg)) fun v13 s12 => if inb (y11 - 1) 100 = true then lt (up s12 169 (y11 - 1).toNatClampNeg v13) fun s14 => s_X11_worked_4 m s14 (nI t) y11 (nI i + 1) else none) else none) else none) else (if nI L[i].1 = 0 then (if inb (nI top) 100 = true then lt (up τ 169 (nI top).toNatClampNeg L[i].2) fun s15 => s_X11_worked_4 m s15 (nI t) (nI top + 1) (nI i + 1) else none) else (if inb L[i].2 128 = true then (if inb (nI top) 100 = true then lt (up τ 169 (nI top).toNatClampNeg (τ 168 (L[i].2).toNatClampNeg)) fun s16 => s_X11_worked_4 m s16 (nI t) (nI top + 1) (nI i + 1) else none) else none)) := by
      simp only [s_X11_worked_4, s_X11_textAt, bn_some]
      simp (disch := omega) only [NK, nI_add, inb_n, cl_nI, ↓reduceIte, tA, x2, le_F, ↓lt_e, y1, y2]
    rcases hv with ⟨e, e2⟩ | ⟨e, e2⟩ | ⟨e, e2⟩
    · refine ⟨(top + 1, up τ 169 top L[i].2), ?_, pushP _ ?_⟩
      · refine Eq.trans pre ?_
        rw [e]
        simp (disch := omega) only [show nI 0 = 0 by decide, show ¬ (0 : Int32) = 2 by decide, ↓reduceIte, inb_n, cl_nI, lt_e, nI_1]
      · rw [es]; unfold ev1; rw [if_pos e, ← r1]
    · refine ⟨(top + 1, up τ 169 top (nmv A key L[i].2)), ?_, pushP _ ?_⟩
      · refine Eq.trans pre ?_
        rw [e]
        have e8 : τ 168 (L[i].2).toNatClampNeg = nmv A key L[i].2 := by rw [r3 168 (by omega)]; exact hn _ e2
        simp (disch := omega) only [show ¬ nI 1 = 2 by decide, show ¬ nI 1 = 0 by decide, ↓reduceIte, inb_n, cl_nI, lt_e, nI_1, nm128 e2, e8]
      · rw [es]; unfold ev1; rw [if_neg (by omega), if_pos e, ← r1]
    · by_cases c33 : L[i].2 = 33
      · obtain ⟨k1, k2⟩ := s2 e c33
        have ev : evK (nmv A key) L (i + 1) = (ua (evK (nmv A key) L i).1 (top - 1) (if (evK (nmv A key) L i).1 (top - 1) = 0 then 1 else 0), top) := by rw [es]; unfold ev1; rw [if_neg (by omega), if_neg (by omega), if_pos c33, ← r1]
        refine ⟨(top, up τ 169 (top - 1) (if τ 169 (top - 1) = 0 then 1 else 0)), ?_, ?_, ?_, ?_⟩
        · refine Eq.trans pre ?_
          rw [e]
          simp (disch := omega) only [show nI 2 = 2 by decide, c33, ↓reduceIte, n_sub, inb_n, cl_nI, lt_e, nI_1]
          split <;> rfl
        · show top = _
          rw [ev]
        · intro j hj
          have hj : j < top := hj
          show up τ 169 (top - 1) _ 169 j = _
          rw [ev, up_f]
          show ua _ _ _ j = ua _ _ _ j
          rw [r2 (top - 1) (by omega)]
          by_cases q : j = top - 1
          · subst q; rw [ua_s, ua_s]
          · rw [ua_n q, ua_n q]; exact r2 j hj
        · intro d b
          show up τ 169 (top - 1) _ d = ρ d
          rw [up_d b]; exact r3 d b
      · obtain ⟨k1, k2⟩ := s3 e c33
        have ev : evK (nmv A key) L (i + 1) = (ua (evK (nmv A key) L i).1 (top - 2) (jnI L[i].2 ((evK (nmv A key) L i).1 (top - 2)) ((evK (nmv A key) L i).1 (top - 1))), top - 1) := by rw [es]; unfold ev1; rw [if_neg (by omega), if_neg (by omega), if_neg c33, ← r1]
        refine ⟨(top - 1, up τ 169 (top - 2) (jnI L[i].2 (τ 169 (top - 2)) (τ 169 (top - 1)))), ?_, ?_, ?_, ?_⟩
        · refine Eq.trans pre ?_
          rw [e]
          have e1 : nI top + (-1) = nI (top - 1) := sb_m1 (by omega)
          have e3 : nI (top - 1) - 1 = nI (top - 2) := by rw [n_sub (by omega)]; congr 1
          simp (disch := omega) only [show nI 2 = 2 by decide, c33, ↓reduceIte, ofm1, ↓lt_e, e1, e3, inb_n, cl_nI, jo_e _ (bsg_33 e2 c33), bn_some, nI_1]
        · show top - 1 = _
          rw [ev]
        · intro j hj
          have hj : j < top - 1 := hj
          show up τ 169 (top - 2) _ 169 j = _
          rw [ev, up_f]
          show ua _ _ _ j = ua _ _ _ j
          rw [r2 (top - 2) (by omega), r2 (top - 1) (by omega)]
          by_cases q : j = top - 2
          · subst q; rw [ua_s, ua_s]
          · rw [ua_n q, ua_n q]; exact r2 j (by omega)
        · intro d b
          show up τ 169 (top - 2) _ d = ρ d
          rw [up_d b]; exact r3 d b
  · intro m ⟨top, τ⟩ ⟨r1, r2, r3⟩
    have r1' : top = (evK (nmv A key) L L.length).2 := r1
    have r2' : ∀ j, j < top → τ 169 j = (evK (nmv A key) L L.length).1 j := r2
    have r3' : ∀ d, d ≠ 169 → τ d = ρ d := r3
    clear r1 r2 r3
    have tA : τ 151 = A := by rw [r3' 151 (by omega), hA]
    obtain ⟨d1, d2⟩ := ev_d (nmv A key) o3 o4 L.length (Nat.le_refl _)
    rw [List.drop_length, ← r1'] at d1
    have t1 : top = 1 := by
      have : some top = some 1 := d1
      injection this
    show Gv (s_X11_worked_4 (m + 1) τ (nI t) (nI top) (nI L.length)) _
    simp only [s_X11_worked_4, s_X11_textAt, bn_some]
    simp (disch := omega) only [NK, nI_add, inb_n, cl_nI, ↓reduceIte, tA, x2, le_T]
    refine gv_i ⟨?_, r3'⟩
    rw [r2' 0 (by omega)]
    rfl
theorem m_given (hw : WF A) (hA : ρ 151 = A) (ht9 : t < 10) (hx : TXm A t key c L) (ho : TXok key L) : Gv (s_X11_givenBy ρ (nI t)) (fun r κ => r = givA A key L ∧ FS ρ κ) := by
  have n8 := hw.n8
  have h8 := ho.1
  unfold s_X11_givenBy s_X11_textAt
  simp (disch := omega) only [bn_some, NK, inb_n, cl_nI, ↓reduceIte, hA, hx.1, lt_e]
  refine gv_n (m_price hw hA) ?_
  intro _ τ ⟨_, f0, p0⟩
  have tA : τ 151 = A := f0.s.trans hA
  have ek : (nI key = 8) = (key = 8) := ieq (b := 8) (by omega) (by omega)
  simp only [ek]
  have fin : ∀ τ1 : Sg, (∀ d, d ≠ 168 → τ1 d = τ d) → (∀ v, isNm key v = true → τ1 168 v.toNatClampNeg = nmv A key v) → (key = 8 ∨ key < nB A) → Gv (bn (s_X11_worked τ1 (nI t)) fun v s => some (v, s)) (fun r κ => r = givA A key L ∧ FS ρ κ) := by
    intro τ1 h1 h2 h3
    refine gv_n (m_worked (by rw [h1 151 (by omega)]; exact tA) ht9 hx ho h2) ?_
    intro r κ ⟨q1, q2⟩
    refine gv_i ⟨?_, f0.fs.t ⟨fun d a1 a2 a3 a4 a5 a6 a7 => by rw [q2 d a7, h1 d a6], fun j _ _ _ _ => by rw [q2 150 (by omega), h1 150 (by omega)]⟩⟩
    rw [q1]; unfold givA; rw [if_pos h3]
  by_cases ck : key = 8
  · simp only [ck, ↓reduceIte]
    subst ck
    have pd : ∀ τ1 : Sg, (∀ d, d ≠ 168 → τ1 d = τ d) → PDd τ1 A := fun τ1 h1 => by
      unfold PDd; rw [h1 150 (by omega), h1 163 (by omega), h1 164 (by omega), h1 165 (by omega)]; exact p0
    have a1 : ∀ u v, up (up τ 168 119 u) 168 104 v 151 = A := fun u v => by rw [up_d (by omega), up_d (by omega), tA]
    have p1 : ∀ u v, PDd (up (up τ 168 119 u) 168 104 v) A := fun u v => pd _ (fun d hd => by rw [up_d hd, up_d hd])
    have a2 : ∀ u v x, up (up (up τ 168 119 u) 168 104 v) 168 108 x 151 = A := fun u v x => by rw [up_d (by omega), a1]
    have p2 : ∀ u v x, PDd (up (up (up τ 168 119 u) 168 104 v) 168 108 x) A := fun u v x => pd _ (fun d hd => by rw [up_d hd, up_d hd, up_d hd])
    have e18 : ∀ u, up τ 168 119 u 150 18 = HH A := fun u => by rw [up_d (by omega)]; exact p0.hw
    simp only [lt_e, p0.ww, e18, m_wires hw (a1 _ _) (p1 _ _), bn_some, m_waste hw (a2 _ _ _) (p2 _ _ _)]
    refine fin _ (fun d hd => by rw [up_d hd, up_d hd, up_d hd, up_d hd]) ?_ (.inl rfl)
    intro v hv
    rcases nm8 hv with rfl | rfl | rfl | rfl
    · rw [show (119 : Int32).toNatClampNeg = 119 by decide, up_f, ua_n (by omega), up_f, ua_n (by omega), up_f, ua_n (by omega), up_f, ua_s]; rfl
    · rw [show (104 : Int32).toNatClampNeg = 104 by decide, up_f, ua_n (by omega), up_f, ua_n (by omega), up_f, ua_s]; rfl
    · rw [show (108 : Int32).toNatClampNeg = 108 by decide, up_f, ua_n (by omega), up_f, ua_s]; rfl
    · rw [show (117 : Int32).toNatClampNeg = 117 by decide, up_f, ua_s]; rfl
  · simp only [ck, ↓reduceIte, isBlk_e hw tA, bn_some]
    by_cases cn : key < nB A
    · have ib : inb (nI key) (nB A) = true := inb_nI cn (by omega)
      simp only [ib, ↓reduceIte, show ¬ (1 : Int32) = 0 by decide]
      have pd : ∀ τ1 : Sg, (∀ d, d ≠ 168 → τ1 d = τ d) → PDd τ1 A := fun τ1 h1 => by
        unfold PDd; rw [h1 150 (by omega), h1 163 (by omega), h1 164 (by omega), h1 165 (by omega)]; exact p0
      have wv : ∀ τ1 : Sg, (∀ d, d ≠ 168 → τ1 d = τ d) → s_X11_width τ1 (nI key) = some (wd A key, τ1) := fun τ1 h1 => by
        have e : τ1 151 = A := by rw [h1 151 (by omega), tA]
        rw [width_e τ1 (by omega), e]
      have hv : ∀ τ1 : Sg, (∀ d, d ≠ 168 → τ1 d = τ d) → s_X11_height τ1 (nI key) = some (ht A key, τ1) := fun τ1 h1 => by
        have e : τ1 151 = A := by rw [h1 151 (by omega), tA]
        rw [height_e τ1 (by omega) (by rw [e]; exact hw.v cn), e]
      have hh : ∀ τ1 : Sg, (∀ d, d ≠ 168 → τ1 d = τ d) → s_X11_heatOf τ1 (nI key) = some (heatA A key, τ1) := fun τ1 h1 =>
        m_heatOf hw (by rw [h1 151 (by omega), tA]) (pd τ1 h1) cn
      have hg : ∀ τ1 : Sg, (∀ d, d ≠ 168 → τ1 d = τ d) → s_X11_growsOf τ1 (nI key) = some (growA A key, τ1) := fun τ1 h1 =>
        m_grows hw (by rw [h1 151 (by omega), tA]) (pd τ1 h1) cn
      have fu : ∀ τ1 : Sg, (∀ d, d ≠ 168 → τ1 d = τ d) → ∀ k v d, d ≠ 168 → up τ1 168 k v d = τ d := fun τ1 h1 k v d hd => by rw [up_d hd]; exact h1 d hd
      have f1 := fu τ (fun _ _ => rfl) 120 (XX A key)
      have f2 := fu _ f1 121 (YY A key)
      have f3 := fu _ f2 119 (wd A key)
      have f4 := fu _ f3 104 (ht A key)
      have f5 := fu _ f4 112 (pw A key)
      have f6 := fu _ f5 116 (heatA A key)
      have f7 := fu _ f6 103 (growA A key)
      have i8 : inb (nI key) 8 = true := inb_nI (by omega) (by omega)
      have e1 : up τ 168 120 (XX A key) 165 key = YY A key := by rw [f1 165 (by omega)]; exact p0.y cn
      rw [if_pos i8, if_pos i8, p0.x cn, e1, wv _ f2, bn_some, hv _ f3, bn_some]
      unfold s_X11_blockAt
      have e5 : up (up (up (up τ 168 120 (XX A key)) 168 121 (YY A key)) 168 119 (wd A key)) 168 104 (ht A key) 151 = A := by rw [f4 151 (by omega), tA]
      simp (disch := omega) only [bn_some, NK, inb_n, cl_nI, ↓reduceIte, e5]
      rw [show A (20 + 6 * key + 3) = pw A key from rfl, hh _ f5, bn_some, hg _ f6, bn_some]
      refine fin _ f7 ?_ (.inr cn)
      intro v hv
      have n103 : nmv A key 103 = growA A key := by unfold nmv; simp [ck]
      have n116 : nmv A key 116 = heatA A key := by unfold nmv; simp [ck]
      have n112 : nmv A key 112 = pw A key := by unfold nmv; simp [ck]
      have n104 : nmv A key 104 = ht A key := by unfold nmv; simp [ck]
      have n119 : nmv A key 119 = wd A key := by unfold nmv; simp [ck]
      have n120 : nmv A key 120 = XX A key := by unfold nmv; simp [ck]
      have n121 : nmv A key 121 = YY A key := by unfold nmv; simp [ck]
      rcases nmb ck hv with rfl | rfl | rfl | rfl | rfl | rfl | rfl
      · rw [show (120 : Int32).toNatClampNeg = 120 by decide, n120, up_f, ua_n (by omega), up_f, ua_n (by omega), up_f, ua_n (by omega), up_f, ua_n (by omega), up_f, ua_n (by omega), up_f, ua_n (by omega), up_f, ua_s]
      · rw [show (121 : Int32).toNatClampNeg = 121 by decide, n121, up_f, ua_n (by omega), up_f, ua_n (by omega), up_f, ua_n (by omega), up_f, ua_n (by omega), up_f, ua_n (by omega), up_f, ua_s]
      · rw [show (119 : Int32).toNatClampNeg = 119 by decide, n119, up_f, ua_n (by omega), up_f, ua_n (by omega), up_f, ua_n (by omega), up_f, ua_n (by omega), up_f, ua_s]
      · rw [show (104 : Int32).toNatClampNeg = 104 by decide, n104, up_f, ua_n (by omega), up_f, ua_n (by omega), up_f, ua_n (by omega), up_f, ua_s]
      · rw [show (112 : Int32).toNatClampNeg = 112 by decide, n112, up_f, ua_n (by omega), up_f, ua_n (by omega), up_f, ua_s]
      · rw [show (116 : Int32).toNatClampNeg = 116 by decide, n116, up_f, ua_n (by omega), up_f, ua_s]
      · rw [show (103 : Int32).toNatClampNeg = 103 by decide, n103, up_f, ua_s]
    · have ib : ¬ inb (nI key) (nB A) = true := fun e => by
        obtain ⟨j, hj, ej⟩ := inb_of e (by omega)
        have := (nI_eq (by omega) (by omega)).mp ej
        omega
      simp only [ib, ↓reduceIte]
      refine gv_i ⟨?_, f0.fs⟩
      unfold givA; rw [if_neg (by omega)]
end evm
