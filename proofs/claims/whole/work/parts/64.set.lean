theorem settle_2 {σ : Sg} {b : Nat} {A : Nat → Int32} (hb : FL b) (hw : WF A) (h : RU σ b A) (hi : RI σ b A) (h12 : σ b 12 = 0) (h13 : σ b 13 = 0) : Gv (s_X1_settle_52 FU σ b 0) (fun _ τ => RF τ b A ∧ (∀ c, c < b ∨ b + 18 ≤ c → τ c = σ c)) := by
  have n8 := hw.n8
  refine gv_loop0 (fun m i τ => s_X1_settle_52 m τ b (nI i)) (nB A) (fun k τ => RU τ b A ∧ RI τ b A ∧ (∀ i, i < k → τ (b + 10 + o2 A i) 8 = (PLk A k).1 (o2 A i) ∧ τ (b + 10 + o2 A i) 9 = (PLk A k).2.1 (o2 A i)) ∧ τ b 12 = (PLk A k).2.2.1 ∧ τ b 13 = (PLk A k).2.2.2 ∧ (∀ c, c < b ∨ b + 18 ≤ c → τ c = σ c)) (by omega) ⟨h, hi, fun i hi => absurd hi (by omega), h12, h13, fun c _ => rfl⟩ ?_ ?_
  · intro m k τ hk ⟨r1, r2, r3, r4, r5, r6⟩
    have lk := hw.l2 hk
    have e := seat_e hb hw r1 (fun i hi => (r2 i hi).1) hk r3 r4 r5
    refine ⟨up (up (up (up τ (b + 10 + o2 A k) 8 (sxr A (PLk A k) k).1) (b + 10 + o2 A k) 9 (sxr A (PLk A k) k).2) b 12 (seatA A k (PLk A k)).2.2.1) b 13 (seatA A k (PLk A k)).2.2.2, ?_, ?_⟩
    · simp only [s_X1_settle_52]
      simp (disch := omega) only [r1.n, hw.n, le_F, ↓reduceIte, e, bv_some, nI_1]
    · refine ⟨RU_c r1 ?_ ?_ ?_ n8, ?_, ?_, ?_, ?_, ?_⟩
      · intro j hj
        have q1 : j ≠ 12 := by omega
        have q2 : j ≠ 13 := by omega
        have q3 : b ≠ b + 10 + o2 A k := by omega
        simp [up, q1, q2, q3]
      · intro c h1 h2 _ _ _
        have q1 : c ≠ b := by omega
        have q2 : c ≠ b + 10 + o2 A k := by omega
        rw [up_d q1, up_d q1, up_d q2, up_d q2]
      · intro i j hi hj
        have q1 : b + 10 + i ≠ b := by omega
        have q2 : j ≠ 8 := by omega
        have q3 : j ≠ 9 := by omega
        simp only [up, q1, q2, q3, ↓reduceIte]
        split <;> rfl
      · intro i hi
        rw [up_d (by omega), up_d (by omega), up_d (by omega), up_d (by omega), up_d (by omega), up_d (by omega), up_d (by omega), up_d (by omega)]
        exact r2 i hi
      · intro i hi
        rw [PLk_s]
        have q1 : b + 10 + o2 A i ≠ b := by omega
        by_cases q : i = k
        · subst q
          simp [up, seatA, ua_s]
        · have q2 : o2 A i ≠ o2 A k := fun e => q (hw.j2 (by omega) hk e)
          have q3 : b + 10 + o2 A i ≠ b + 10 + o2 A k := by omega
          rw [up_d q1, up_d q1, up_d q3, up_d q3]
          show _ = ua _ _ _ _ ∧ _ = ua _ _ _ _
          rw [ua_n q2, ua_n q2]
          exact r3 i (by omega)
      · rw [PLk_s]; simp [up]
      · rw [PLk_s]; simp [up]
      · intro c hc
        rw [up_d (by omega), up_d (by omega), up_d (by omega), up_d (by omega)]
        exact r6 c hc
  · intro m τ ⟨r1, r2, r3, r4, r5, r6⟩
    simp only [s_X1_settle_52]
    simp (disch := omega) only [r1.n, hw.n, le_T, ↓reduceIte]
    refine gv_i ⟨⟨r1, r2, ?_, r4, r5⟩, r6⟩
    intro i hi
    have := r3 (p2 A i) (hw.pl2 hi)
    rw [show o2 A (p2 A i) = i from (PM_q hw.m2 hi).2] at this
    exact this
theorem settle_e {σ : Sg} {b : Nat} {A : Nat → Int32} (hb : FL b) (hw : WF A) (h : RU σ b A) : Gv (s_X1_settle σ b) (fun _ τ => RF τ b A ∧ (∀ c, c < b ∨ b + 18 ≤ c → τ c = σ c)) := by
  have n8 := hw.n8
  unfold s_X1_settle
  simp only [lt_e]
  refine gv_loop0 (fun m i τ => s_X1_settle_12 m τ b (nI i)) (nB A) (fun k τ => (∀ c, c ≠ b + 4 → c ≠ b + 5 → τ c = up (up σ b 12 0) b 13 0 c) ∧ ∀ i, i < k → τ (b + 4) (o1 A i) = nI i ∧ τ (b + 5) (o2 A i) = nI i) (by omega) ⟨fun c _ _ => rfl, fun i hi => absurd hi (by omega)⟩ ?_ ?_
  · intro m k τ hk ⟨r1, r2⟩
    have f0 : τ b 1 = nI (nB A) := by rw [r1 b (by omega) (by omega)]; simp [up, h.n, hw.n]
    have f1 : τ (b + 2) k = nI (o1 A k) := by rw [r1 _ (by omega) (by omega), up_d (by omega), up_d (by omega), h.one hk, hw.e1 hk]
    have f2 : τ (b + 3) k = nI (o2 A k) := by rw [r1 _ (by omega) (by omega), up_d (by omega), up_d (by omega), h.oth hk, hw.e2 hk]
    have l1 := hw.l1 hk
    have l2 := hw.l2 hk
    have f3 : ∀ v, up τ (b + 4) (o1 A k) v (b + 3) = τ (b + 3) := fun v => up_d (by omega)
    refine ⟨up (up τ (b + 4) (o1 A k) (nI k)) (b + 5) (o2 A k) (nI k), ?_, ?_, ?_⟩
    · simp only [s_X1_settle_12]
      simp (disch := omega) only [FK hb, f0, f1, f2, f3, le_F, cl_nI, inb_n, ↓reduceIte, lt_e, nI_1]
    · intro c h4 h5
      rw [up_d h5, up_d h4]; exact r1 c h4 h5
    · intro i hi
      by_cases q : i = k
      · subst q; simp [up]
      · have q1 : o1 A i ≠ o1 A k := fun e => q (hw.m1.2.1 i k (by omega) hk e)
        have q2 : o2 A i ≠ o2 A k := fun e => q (hw.j2 (by omega) hk e)
        have := r2 i (by omega)
        constructor
        · rw [up_d (by omega), up_f, ua_n q1]; exact this.1
        · rw [up_f, ua_n q2, up_d (by omega)]; exact this.2
  · intro m τ ⟨r1, r2⟩
    have f0 : τ b 1 = nI (nB A) := by rw [r1 b (by omega) (by omega)]; simp [up, h.n, hw.n]
    simp only [s_X1_settle_12]
    simp (disch := omega) only [f0, le_T, ↓reduceIte]
    refine gv_w (settle_2 hb hw (A := A) (RU_c h ?_ ?_ ?_ n8) ?_ ?_ ?_) ?_
    · intro k hk
      rw [r1 b (by omega) (by omega)]
      have q1 : k ≠ 12 := by omega
      have q2 : k ≠ 13 := by omega
      simp [up, q1, q2]
    · intro c h1 h2 h3 h4 _
      rw [r1 c h3 h4, up_d (by omega), up_d (by omega)]
    · intro i k hi hk
      rw [r1 _ (by omega) (by omega), up_d (by omega), up_d (by omega)]
    · intro i hi
      have a1 := (r2 (p1 A i) (hw.pl1 hi)).1
      have a2 := (r2 (p2 A i) (hw.pl2 hi)).2
      rw [show o1 A (p1 A i) = i from (PM_q hw.m1 hi).2] at a1
      rw [show o2 A (p2 A i) = i from (PM_q hw.m2 hi).2] at a2
      exact ⟨a1, a2⟩
    · rw [r1 b (by omega) (by omega)]; simp [up]
    · rw [r1 b (by omega) (by omega)]; simp [up]
    · intro r τ' ⟨q1, q2⟩
      refine ⟨q1, fun c hc => ?_⟩
      rw [q2 c hc, r1 c (by omega) (by omega), up_d (by omega), up_d (by omega)]
/- the model finds places -/
def FS (σ τ : Sg) : Prop := (∀ c, c ≠ 150 → c ≠ 163 → c ≠ 164 → c ≠ 165 → c ≠ 166 → c ≠ 168 → c ≠ 169 → τ c = σ c) ∧ ∀ j, j ≠ 17 → j ≠ 18 → j ≠ 20 → j ≠ 21 → τ 150 j = σ 150 j
def FP (σ τ : Sg) : Prop := (∀ c, c ≠ 150 → c ≠ 163 → c ≠ 164 → c ≠ 165 → τ c = σ c) ∧ ∀ j, j ≠ 17 → j ≠ 18 → τ 150 j = σ 150 j
theorem FP.t {σ τ ρ : Sg} (h : FP σ τ) (k : FP τ ρ) : FP σ ρ :=
  ⟨fun c a b d e => (k.1 c a b d e).trans (h.1 c a b d e), fun j a b => (k.2 j a b).trans (h.2 j a b)⟩
theorem FP.s {σ τ : Sg} (h : FP σ τ) : τ 151 = σ 151 := h.1 151 (by omega) (by omega) (by omega) (by omega)
theorem FP.fs {σ τ : Sg} (h : FP σ τ) : FS σ τ := ⟨fun c a b d e _ _ _ => h.1 c a b d e, fun j a b _ _ => h.2 j a b⟩
theorem FS.r (σ : Sg) : FS σ σ := ⟨fun _ _ _ _ _ _ _ _ => rfl, fun _ _ _ _ _ => rfl⟩
theorem FS.t {σ τ ρ : Sg} (h : FS σ τ) (k : FS τ ρ) : FS σ ρ :=
  ⟨fun c a b d e f g i => (k.1 c a b d e f g i).trans (h.1 c a b d e f g i), fun j a b d e => (k.2 j a b d e).trans (h.2 j a b d e)⟩
theorem FS.s {σ τ : Sg} (h : FS σ τ) : τ 151 = σ 151 := h.1 151 (by omega) (by omega) (by omega) (by omega) (by omega) (by omega) (by omega)
def PDd (τ : Sg) (A : Nat → Int32) : Prop := (τ 150 17 = WW A ∧ τ 150 18 = HH A) ∧ ∀ i, i < nB A → τ 163 i = nI (p1 A i) ∧ τ 164 i = XX A i ∧ τ 165 i = YY A i
def Sxy (τ : Sg) (b : Nat) (a : Int32 × Int32) : Sg := up (up τ 164 b a.1) 165 b a.2
section sx
variable {τ : Sg} {b : Nat} {a : Int32 × Int32}
theorem Sxy_c {c : Nat} (h : c ≠ 164) (h2 : c ≠ 165) : Sxy τ b a c = τ c := by unfold Sxy; rw [up_d h2, up_d h]
theorem Sxy_x : Sxy τ b a 164 b = a.1 := by simp [Sxy, up]
theorem Sxy_y : Sxy τ b a 165 b = a.2 := by simp [Sxy, up]
theorem Sxy_xn {j : Nat} (h : j ≠ b) : Sxy τ b a 164 j = τ 164 j := by simp [Sxy, up, h]
theorem Sxy_yn {j : Nat} (h : j ≠ b) : Sxy τ b a 165 j = τ 165 j := by simp [Sxy, up, h]
theorem Sxy_ux {v : Int32} : up (Sxy τ b a) 164 b v = Sxy τ b (v, a.2) := by
  funext c j
  by_cases h : c = 164
  · subst h; by_cases h2 : j = b <;> simp [Sxy, up, h2]
  · by_cases h3 : c = 165 <;> simp [Sxy, up, h, h3]
theorem Sxy_uy {v : Int32} : up (Sxy τ b a) 165 b v = Sxy τ b (a.1, v) := by
  funext c j
  by_cases h : c = 165
  · subst h; by_cases h2 : j = b <;> simp [Sxy, up, h2]
  · by_cases h3 : c = 164 <;> simp [Sxy, up, h, h3]
end sx
theorem fp79 {τ : Sg} {A : Nat → Int32} {P : PL} {k : Nat} (K : Sg → Int32 → Int32 → RO) (hw : WF A) (hA : τ 151 = A) (hp : ∀ i, i < nB A → τ 163 i = nI (p1 A i)) (hk : k < nB A) (hx : ∀ i, i < k → τ 164 (o2 A i) = P.1 (o2 A i) ∧ τ 165 (o2 A i) = P.2.1 (o2 A i)) (h17 : τ 150 17 = P.2.2.1) (h18 : τ 150 18 = P.2.2.2) :
    s_X11_findPlaces_79 K FU (Sxy τ (o2 A k) (0, 0)) (nI (nB A)) (nI k) (nI (o2 A k)) 0 = K (up (up (Sxy τ (o2 A k) (sxr A P k)) 150 17 (seatA A k P).2.2.1) 150 18 (seatA A k P).2.2.2) (nI (nB A)) (nI (k + 1)) := by
  have n8 := hw.n8
  have lk := hw.l2 hk
  have q2 := hw.pl1 lk
  refine loop0 (fun m i a => s_X11_findPlaces_79 K m (Sxy τ (o2 A k) a) (nI (nB A)) (nI k) (nI (o2 A k)) (nI i)) (fun a => K (up (up (Sxy τ (o2 A k) a) 150 17 (mx P.2.2.1 (a.1 + wd A (o2 A k)))) 150 18 (mx P.2.2.2 (a.2 + ht A (o2 A k)))) (nI (nB A)) (nI (k + 1))) (sxy A P (o2 A k)) k (0, 0) (by omega) ?_ ?_
  · intro m i a hi
    have hin : i < nB A := by omega
    have li := hw.l2 hin
    have q1 := hw.pl1 li
    have hne : o2 A i ≠ o2 A k := fun e => by have := hw.j2 hin hk e; omega
    have s1 : Sxy τ (o2 A k) a 151 = A := by rw [Sxy_c (by omega) (by omega), hA]
    have s3 : Sxy τ (o2 A k) a 163 = τ 163 := Sxy_c (by omega) (by omega)
    have eo : A (78 + i) = nI (o2 A i) := hw.e2 hin
    have al := alike_e (Sxy τ (o2 A k) a) (i := o2 A k) (j := o2 A i) (by omega) (by omega)
    have w1 := width_e (Sxy τ (o2 A k) a) (i := o2 A i) (by omega)
    have h1 := height_e (Sxy τ (o2 A k) a) (i := o2 A i) (by omega) (by rw [s1]; exact hw.v li)
    rw [s1] at al w1 h1
    simp only [s_X11_findPlaces_79, s_X11_findPlaces_155]
    simp (disch := omega) only [le_F, ↓reduceIte, NK, cl_nI, inb_n, s1, eo, lt_e, al, bn_some, s3, hp _ li, hp _ lk, w1, h1, most_e, Sxy_x, Sxy_y, Sxy_xn hne, Sxy_yn hne, (hx i hi).1, (hx i hi).2, Sxy_ux, Sxy_uy, nI_1]
    unfold sxy
    by_cases e : ly A (o2 A i) = ly A (o2 A k)
    · have e' := e.symm
      by_cases e2 : p1 A (o2 A i) < p1 A (o2 A k)
      · simp (disch := omega) [e, e2, le_F]
      · simp (disch := omega) [e, e2, le_T]
    · have e' : ¬ ly A (o2 A k) = ly A (o2 A i) := fun x => e x.symm
      simp [e, e']
  · intro m a
    have s1 : Sxy τ (o2 A k) a 151 = A := by rw [Sxy_c (by omega) (by omega), hA]
    have s0 : Sxy τ (o2 A k) a 150 = τ 150 := Sxy_c (by omega) (by omega)
    have w1 := width_e (Sxy τ (o2 A k) a) (i := o2 A k) (by omega)
    have h1 : ∀ v, s_X11_height (up (Sxy τ (o2 A k) a) 150 17 v) (nI (o2 A k)) = some (ht A (o2 A k), up (Sxy τ (o2 A k) a) 150 17 v) := fun v => by
      have e : up (Sxy τ (o2 A k) a) 150 17 v 151 = A := by rw [up_d (by omega), s1]
      rw [height_e _ (i := o2 A k) (by omega) (by rw [e]; exact hw.v lk), e]
    have e18 : ∀ v, up (Sxy τ (o2 A k) a) 150 17 v 150 18 = P.2.2.2 := fun v => by simp [up, s0, h18]
    have e165 : ∀ v, up (Sxy τ (o2 A k) a) 150 17 v 165 (o2 A k) = a.2 := fun v => by rw [up_d (by omega), Sxy_y]
    rw [s1] at w1
    simp only [s_X11_findPlaces_79]
    simp (disch := omega) only [le_T, ↓reduceIte, cl_nI, inb_n, w1, bn_some, most_e, s0, h17, Sxy_x, lt_e, h1, e18, e165, nI_1]
theorem findPlaces_2 {σ : Sg} {A : Nat → Int32} (hw : WF A) (hA : σ 151 = A) (hp : ∀ i, i < nB A → σ 163 i = nI (p1 A i)) (h17 : σ 150 17 = 0) (h18 : σ 150 18 = 0) : Gv (s_X11_findPlaces_47 FU σ (nI (nB A)) 0) (fun _ τ => FP σ τ ∧ PDd τ A) := by
  have n8 := hw.n8
  refine gv_loop0 (fun m i τ => s_X11_findPlaces_47 m τ (nI (nB A)) (nI i)) (nB A) (fun k τ => (∀ c, c ≠ 150 → c ≠ 164 → c ≠ 165 → τ c = σ c) ∧ (∀ j, j ≠ 17 → j ≠ 18 → τ 150 j = σ 150 j) ∧ (∀ i, i < k → τ 164 (o2 A i) = (PLk A k).1 (o2 A i) ∧ τ 165 (o2 A i) = (PLk A k).2.1 (o2 A i)) ∧ τ 150 17 = (PLk A k).2.2.1 ∧ τ 150 18 = (PLk A k).2.2.2) (by omega) ⟨fun c _ _ _ => rfl, fun j _ _ => rfl, fun i hi => absurd hi (by omega), h17, h18⟩ ?_ ?_
  · intro m k τ hk ⟨r1, r2, r3, r4, r5⟩
    have lk := hw.l2 hk
    have tA : τ 151 = A := by rw [r1 151 (by omega) (by omega) (by omega), hA]
    have tp : τ 163 = σ 163 := r1 163 (by omega) (by omega) (by omega)
    have eo : A (78 + k) = nI (o2 A k) := hw.e2 hk
    have e := fp79 (s_X11_findPlaces_47 m) hw tA (by rw [tp]; exact hp) hk r3 r4 r5
    refine ⟨up (up (Sxy τ (o2 A k) (sxr A (PLk A k) k)) 150 17 (seatA A k (PLk A k)).2.2.1) 150 18 (seatA A k (PLk A k)).2.2.2, ?_, ?_⟩
    · simp only [s_X11_findPlaces_47]
      simp (disch := omega) only [le_F, ↓reduceIte, NK, cl_nI, inb_n, tA, eo, lt_e]
      exact e
    · refine ⟨?_, ?_, ?_, ?_, ?_⟩
      · intro c h1 h2 h3
        rw [up_d h1, up_d h1, Sxy_c h2 h3, r1 c h1 h2 h3]
      · intro j h1 h2
        rw [up_f, ua_n h2, up_f, ua_n h1, Sxy_c (by omega) (by omega), r2 j h1 h2]
      · intro i hi
        rw [PLk_s, up_d (by omega), up_d (by omega), up_d (by omega), up_d (by omega)]
        by_cases q : i = k
        · subst q
          rw [Sxy_x, Sxy_y]
          simp [seatA, ua_s]
        · have q2 : o2 A i ≠ o2 A k := fun e => q (hw.j2 (by omega) hk e)
          rw [Sxy_xn q2, Sxy_yn q2]
          show _ = ua _ _ _ _ ∧ _ = ua _ _ _ _
          rw [ua_n q2, ua_n q2]
          exact r3 i (by omega)
      · rw [PLk_s]; simp [up]
      · rw [PLk_s]; simp [up]
  · intro m τ ⟨r1, r2, r3, r4, r5⟩
    simp only [s_X11_findPlaces_47]
    simp (disch := omega) only [le_T, ↓reduceIte]
    refine gv_i ⟨⟨fun c h1 _ h3 h4 => r1 c h1 h3 h4, fun j h1 h2 => r2 j h1 h2⟩, ⟨r4, r5⟩, ?_⟩
    intro i hi
    have := r3 (p2 A i) (hw.pl2 hi)
    rw [show o2 A (p2 A i) = i from (PM_q hw.m2 hi).2] at this
    refine ⟨?_, this⟩
    rw [r1 163 (by omega) (by omega) (by omega)]
    exact hp i hi
theorem findPlaces_e {σ : Sg} {A : Nat → Int32} (hw : WF A) (hA : σ 151 = A) : Gv (s_X11_findPlaces σ) (fun _ τ => FP σ τ ∧ PDd τ A) := by
  have n8 := hw.n8
  unfold s_X11_findPlaces
  have e0 : σ 151 0 = nI (nB A) := by rw [hA, hw.n]
  simp only [lt_e, e0]
  refine gv_loop0 (fun m i τ => s_X11_findPlaces_19 m τ (nI (nB A)) (nI i)) (nB A) (fun k τ => (∀ c, c ≠ 163 → τ c = up (up σ 150 17 0) 150 18 0 c) ∧ ∀ i, i < k → τ 163 (o1 A i) = nI i) (by omega) ⟨fun c _ => rfl, fun i hi => absurd hi (by omega)⟩ ?_ ?_
  · intro m k τ hk ⟨r1, r2⟩
    have l1 := hw.l1 hk
    have tA : τ 151 = A := by rw [r1 151 (by omega), up_d (by omega), up_d (by omega), hA]
    have eo : A (70 + k) = nI (o1 A k) := hw.e1 hk
    refine ⟨up τ 163 (o1 A k) (nI k), ?_, ?_, ?_⟩
    · simp only [s_X11_findPlaces_19]
      simp (disch := omega) only [le_F, ↓reduceIte, NK, cl_nI, inb_n, tA, eo, lt_e, nI_1]
    · intro c h
      rw [up_d h]; exact r1 c h
    · intro i hi
      rw [up_f]
      by_cases q : i = k
      · subst q; exact ua_s
      · have q1 : o1 A i ≠ o1 A k := fun e => q (hw.m1.2.1 i k (by omega) hk e)
        rw [ua_n q1]; exact r2 i (by omega)
  · intro m τ ⟨r1, r2⟩
    simp only [s_X11_findPlaces_19]
    simp (disch := omega) only [le_T, ↓reduceIte]
    have tA : τ 151 = A := by rw [r1 151 (by omega), up_d (by omega), up_d (by omega), hA]
    refine gv_w (findPlaces_2 (A := A) hw tA ?_ ?_ ?_) ?_
    · intro i hi
      have a1 := r2 (p1 A i) (hw.pl1 hi)
      rw [show o1 A (p1 A i) = i from (PM_q hw.m1 hi).2] at a1
      exact a1
    · rw [r1 150 (by omega)]; simp [up]
    · rw [r1 150 (by omega)]; simp [up]
    · intro r τ' ⟨q1, q2⟩
      refine ⟨FP.t ⟨?_, ?_⟩ q1, q2⟩
      · intro c h1 h2 _ _
        rw [r1 c h2, up_d h1, up_d h1]
      · intro j h1 h2
        rw [r1 150 (by omega), up_f, ua_n h2, up_f, ua_n h1]
