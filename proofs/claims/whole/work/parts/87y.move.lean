section mo
variable {σ : Sg}
theorem mv_k {A : Nat → Int32} (hw : WF A) {m p q : Nat} (hp : p < nB A) (hq : m ≤ 2 → q < nB A) {j : Nat} (hj : j < 70) (h4 : j ≠ 20 + 6 * p + 4) (h5 : m = 3 → j ≠ 20 + 6 * p + 5) : mvA A m p q j = A j := by
  have n8 := hw.n8
  unfold mvA
  by_cases m0 : m = 0
  · rw [if_pos m0, sw_o (by omega) (by omega)]
  · by_cases m1 : m = 1
    · rw [if_neg m0, if_pos m1, sw_o (by omega) (by omega)]
    · by_cases m2 : m = 2
      · rw [if_neg m0, if_neg m1, if_pos m2, sw_o (by omega) (by omega), sw_o (by omega) (by omega)]
      · by_cases m3 : m = 3
        · rw [if_neg m0, if_neg m1, if_neg m2, if_pos m3, ua_n (h5 m3)]
        · rw [if_neg m0, if_neg m1, if_neg m2, if_neg m3, ua_n h4]
theorem mv_3 (A : Nat → Int32) (p q : Nat) : mvA A 3 p q = ua A (20 + 6 * p + 5) (nxS A p) := by
  unfold mvA
  rw [if_neg (by decide), if_neg (by decide), if_neg (by decide), if_pos rfl]
theorem un_k {A : Nat → Int32} (hw : WF A) {m p q : Nat} (hp : p < nB A) (hq : m ≤ 2 → q < nB A) {j : Nat} (hj : j < 70) (h4 : j ≠ 20 + 6 * p + 4) (h5 : m = 3 → j ≠ 20 + 6 * p + 5) : unA A m p q j = A j := by
  unfold unA
  by_cases c : m = 3
  · rw [if_pos c, ua_n (h5 c)]
  · rw [if_neg c]; exact mv_k hw hp hq hj h4 h5
theorem un_o {A : Nat → Int32} (hw : WF A) {m p q j : Nat} (hp : p < nB A) (hq : m ≤ 2 → q < nB A) (hj : j = 2 ∨ j = 3 ∨ 110 ≤ j) : unA A m p q j = A j := by
  have n8 := hw.n8
  unfold unA
  by_cases c : m = 3
  · rw [if_pos c, ua_n (by omega)]
  · rw [if_neg c]; exact mv_o hw hp hq hj
theorem TRS_take {A : Nat → Int32} : ∀ (E : List TE) (k : Nat) (sh : Nat → Int32), TRS A sh E → TRS A sh (E.take k) := by
  intro E
  induction E with
  | nil => intro k sh h; rw [List.take_nil]; exact h
  | cons e r ih =>
    intro k sh h
    cases k with
    | zero => rw [List.take_zero]; trivial
    | succ k =>
      rw [List.take_succ_cons]
      exact ⟨h.1, h.2.1, h.2.2.1, h.2.2.2.1, h.2.2.2.2.1, ih k _ h.2.2.2.2.2⟩
theorem gtake {α : Type} (L : List α) {n i : Nat} (h : i < n) : (L.take n)[i]? = L[i]? := by rw [List.getElem?_take, if_pos h]
theorem m20 : ∀ k, k < 20 → nI (k + 1) - nI (k + 1) / 20 * 20 = nI ((k + 1) % 20) := by decide
theorem m20' : ∀ k, k < 20 → ((nI k + 20) - 1) - ((nI k + 20) - 1) / 20 * 20 = nI ((k + 19) % 20) := by decide
theorem c20 : ∀ k, k < 21 → (if 20 < nI (k + 1) then 20 else nI (k + 1)) = nI (min 19 k + 1) := by decide
theorem x8_note {E : List TE} (hE : E.length ≤ 20) (h : TRLc σ E) (m p : Nat) (x o : Int32) : Gv (s_X8_note σ (nI m) (nI p) x) (fun _ τ => TRLc τ ((m, p, x, o) :: E.take 19) ∧ ∀ c, c < 110 ∨ 114 ≤ c → τ c = σ c) := by
  obtain ⟨h4, nx, hn, h3, hs⟩ := h
  have e : s_X8_note σ (nI m) (nI p) x = some (0, up (up (up (up (up σ 111 nx (nI m)) 112 nx (nI p)) 113 nx x) 110 3 (nI ((nx + 1) % 20))) 110 4 (nI (min 19 E.length + 1))) := by
    have ib : inb (nI nx) 20 = true := inb_nI hn (by omega)
    have a1 : up σ 111 nx (nI m) 110 3 = nI nx := by rw [up_d (by omega)]; exact h3
    have a2 : up (up σ 111 nx (nI m)) 112 nx (nI p) 110 3 = nI nx := by rw [up_d (by omega)]; exact a1
    have a3 : up (up (up σ 111 nx (nI m)) 112 nx (nI p)) 113 nx x 110 3 = nI nx := by rw [up_d (by omega)]; exact a2
    have a4 : up (up (up (up σ 111 nx (nI m)) 112 nx (nI p)) 113 nx x) 110 3 (nI ((nx + 1) % 20)) 110 4 = nI E.length := by rw [up_f, ua_n (by omega), up_d (by omega), up_d (by omega), up_d (by omega)]; exact h4
    unfold s_X8_note
    rw [h3, if_pos ib, cl_nI (by omega), lt_e, a1, if_pos ib, cl_nI (by omega), lt_e, a2, if_pos ib, cl_nI (by omega), lt_e, a3, nI_1, m20 nx hn, lt_e, a4, nI_1, c20 _ (by omega), lt_e, lt_e]
  rw [e]
  refine gv_i ⟨⟨?_, (nx + 1) % 20, Nat.mod_lt _ (by omega), ?_, ?_⟩, ?_⟩
  · rw [up_f, ua_s, List.length_cons, List.length_take]
  · rw [up_f, ua_n (by omega), up_f, ua_s]
  · intro i e' he
    cases i with
    | zero =>
      have : e' = (m, p, x, o) := by
        rw [List.getElem?_cons_zero] at he
        exact (Option.some.inj he).symm
      subst this
      have sl : ((nx + 1) % 20 + 19 - 0) % 20 = nx := by omega
      rw [sl]
      refine ⟨?_, ?_, ?_⟩
      · rw [up_d (by omega), up_d (by omega), up_d (by omega), up_d (by omega), up_f, ua_s]
      · rw [up_d (by omega), up_d (by omega), up_d (by omega), up_f, ua_s]
      · rw [up_d (by omega), up_d (by omega), up_f, ua_s]
    | succ j =>
      rw [List.getElem?_cons_succ] at he
      have l1 := gl_lt he
      rw [List.length_take] at l1
      rw [gtake _ (by omega)] at he
      have sl : ((nx + 1) % 20 + 19 - (j + 1)) % 20 = (nx + 19 - j) % 20 := by omega
      have ne : (nx + 19 - j) % 20 ≠ nx := by omega
      rw [sl]
      have := hs j e' he
      refine ⟨?_, ?_, ?_⟩
      · rw [up_d (by omega), up_d (by omega), up_d (by omega), up_d (by omega), up_f, ua_n ne]; exact this.1
      · rw [up_d (by omega), up_d (by omega), up_d (by omega), up_f, ua_n ne, up_d (by omega)]; exact this.2.1
      · rw [up_d (by omega), up_d (by omega), up_f, ua_n ne, up_d (by omega), up_d (by omega)]; exact this.2.2
  · intro c hc
    rw [up_d (by omega), up_d (by omega), up_d (by omega), up_d (by omega), up_d (by omega)]
/- the model's -/
theorem al154 : aln 0 154 = 60 := by decide
theorem m_mv158 {A : Nat → Int32} (hw : WF A) (hA : σ 151 = A) {L : Nat} (hL : L < 20) (h5 : σ 150 5 = nI L) {m p q : Nat} {x : Int32} (hm : m < 5) (hp : p < nB A) (hq : m ≤ 2 → q < nB A ∧ x = nI q) (v : Int32) : Gv (s_X11_move_158 σ (nI m) (nI p) x 154 (nI (3 * L + 2)) v) (fun r τ => r = priceA (mvA A m p q) ∧ τ 151 = mvA A m p q ∧ τ 150 5 = nI (L + 1) ∧ τ 154 = ua (σ 154) (3 * L + 2) v ∧ (∀ c, c ≠ 150 → c ≠ 151 → c ≠ 154 → c ≠ 163 → c ≠ 164 → c ≠ 165 → τ c = σ c) ∧ ∀ j, j ≠ 5 → j ≠ 17 → j ≠ 18 → τ 150 j = σ 150 j) := by
  unfold s_X11_move_158
  have a1 : up σ 154 (3 * L + 2) v 150 5 = nI L := by rw [up_d (by omega)]; exact h5
  rw [al154, if_pos (inb_nI (by omega) (by omega)), cl_nI (by omega), lt_e, a1, nI_1, lt_e]
  refine gv_v (m_doMove (σ := up (up σ 154 (3 * L + 2) v) 150 5 (nI (L + 1))) hw (by rw [up_d (by omega), up_d (by omega)]; exact hA) hm hp hq) ?_
  intro _ s3 ⟨b1, b2⟩
  refine gv_n (m_price (WF_mv hw hp (fun x => (hq x).1)) b1) ?_
  intro r s4 ⟨hr, f, _⟩
  refine gv_i ⟨hr, f.s.trans b1, ?_, ?_, ?_, ?_⟩
  · rw [f.2 5 (by omega) (by omega), b2 _ (by omega), up_f, ua_s]
  · rw [f.1 154 (by omega) (by omega) (by omega) (by omega), b2 _ (by omega), up_d (by omega), up_f]
  · intro c e1 e2 e3 e4 e5 e6
    rw [f.1 c e1 e4 e5 e6, b2 c e2, up_d e1, up_d e3]
  · intro j e1 e2 e3
    rw [f.2 j e2 e3, b2 _ (by omega), up_f, ua_n e1, up_d (by omega)]
def MVq (σ : Sg) (A : Nat → Int32) (m p q : Nat) (x : Int32) (E : List TE) (r : Int32) (τ : Sg) : Prop := r = priceA (mvA A m p q) ∧ τ 151 = mvA A m p q ∧ TRLm τ ((m, p, x, if m = 3 then shA A p else x) :: E) ∧ (∀ c, c ≠ 150 → c ≠ 151 → c ≠ 154 → c ≠ 163 → c ≠ 164 → c ≠ 165 → τ c = σ c) ∧ ∀ j, j ≠ 5 → j ≠ 17 → j ≠ 18 → τ 150 j = σ 150 j
theorem m_mv99 {A : Nat → Int32} (hw : WF A) (hA : σ 151 = A) {E : List TE} (hE : E.length < 20) (h : TRLm σ E) {m p q : Nat} {x : Int32} (hm : m < 5) (hp : p < nB A) (hq : m ≤ 2 → q < nB A ∧ x = nI q) : Gv (s_X11_move_99 σ (nI m) (nI p) x) (MVq σ A m p q x E) := by
  obtain ⟨h5, hs⟩ := h
  have n8 := hw.n8
  generalize hL : E.length = L at *
  have e3 : (3 : Int32) * nI L = nI (3 * L) := by
    show nI 3 * nI L = _
    rw [pk_mul]
  have i1 : nI (3 * L) + 1 = nI (3 * L + 1) := nI_1 _
  have i2 : nI (3 * L) + 2 = nI (3 * L + 2) := nI_add _ _
  have a1 : up σ 154 (3 * L) (nI m) 150 5 = nI L := by rw [up_d (by omega)]; exact h5
  have a2 : up (up σ 154 (3 * L) (nI m)) 154 (3 * L + 1) (nI p) 150 5 = nI L := by rw [up_d (by omega)]; exact a1
  have a3 : up (up σ 154 (3 * L) (nI m)) 154 (3 * L + 1) (nI p) 151 = A := by rw [up_d (by omega), up_d (by omega)]; exact hA
  have key : ∀ v, Gv (s_X11_move_158 (up (up σ 154 (3 * L) (nI m)) 154 (3 * L + 1) (nI p)) (nI m) (nI p) x 154 (nI (3 * L + 2)) v) (fun r τ => v = (if m = 3 then shA A p else x) → MVq σ A m p q x E r τ) := by
    intro v
    refine gv_w (m_mv158 hw a3 (by omega) a2 hm hp hq v) ?_
    intro r τ ⟨q1, q2, q3, q4, q5, q6⟩ hv
    have q4 : τ 154 = ua (ua (ua (σ 154) (3 * L) (nI m)) (3 * L + 1) (nI p)) (3 * L + 2) v := by rw [q4, up_f, up_f]
    refine ⟨q1, q2, ⟨?_, ?_⟩, ?_, ?_⟩
    · rw [q3, List.length_cons, hL]
    · intro i e he
      rw [List.length_cons, hL]
      cases i with
      | zero =>
        have : e = (m, p, x, if m = 3 then shA A p else x) := by
          rw [List.getElem?_cons_zero] at he
          exact (Option.some.inj he).symm
        subst this
        have sl : L + 1 - 1 - 0 = L := by omega
        rw [sl, q4]
        refine ⟨?_, ?_, ?_⟩
        · rw [ua_n (by omega), ua_n (by omega), ua_s]
        · rw [ua_n (by omega), ua_s]
        · rw [ua_s]; exact hv
      | succ j =>
        rw [List.getElem?_cons_succ] at he
        have l1 := gl_lt he
        have sl : L + 1 - 1 - (j + 1) = L - 1 - j := by omega
        rw [sl, q4]
        have := hs j e he
        refine ⟨?_, ?_, ?_⟩
        · rw [ua_n (by omega), ua_n (by omega), ua_n (by omega)]; exact this.1
        · rw [ua_n (by omega), ua_n (by omega), ua_n (by omega)]; exact this.2.1
        · rw [ua_n (by omega), ua_n (by omega), ua_n (by omega)]; exact this.2.2
    · intro c f1 f2 f3 f4 f5 f6
      rw [q5 c f1 f2 f3 f4 f5 f6, up_d f3, up_d f3]
    · intro j f1 f2 f3
      rw [q6 j f1 f2 f3, up_d (by omega), up_d (by omega)]
  unfold s_X11_move_99
  rw [h5, e3, if_pos (inb_nI (by omega) (by omega)), cl_nI (by omega), lt_e, a1, e3, i1, if_pos (inb_nI (by omega) (by omega)), cl_nI (by omega), lt_e, a2, e3, i2]
  have em : (nI m = 3) = (m = 3) := propext (nI_eq (b := 3) (by omega) (by omega))
  simp only [em]
  by_cases c : m = 3
  · rw [if_pos c]
    unfold s_X11_blockAt
    simp (disch := omega) only [bn_some, NK, inb_n, cl_nI, ↓reduceIte, a3]
    exact gv_w (key _) (fun r τ k => k (by rw [if_pos c]; rfl))
  · rw [if_neg c]
    exact gv_w (key _) (fun r τ k => k (by rw [if_neg c]))
theorem m_mv60 {A : Nat → Int32} (hw : WF A) (hA : σ 151 = A) {E : List TE} (hE : E.length = 20) (h : TRLm σ E) {m p q : Nat} {x : Int32} (hm : m < 5) (hp : p < nB A) (hq : m ≤ 2 → q < nB A ∧ x = nI q) : Gv (s_X11_move_60 FU σ (nI m) (nI p) x 0) (MVq σ A m p q x (E.take 19)) := by
  obtain ⟨h5, hs⟩ := h
  rw [hE] at h5
  refine gv_loop0 (fun n i s => s_X11_move_60 n s (nI m) (nI p) x (nI i)) 57 (fun i s => (∀ j, j < i → s 154 j = σ 154 (j + 3)) ∧ (∀ j, i ≤ j → s 154 j = σ 154 j) ∧ ∀ c, c ≠ 154 → s c = σ c) (by omega) ⟨fun _ h => absurd h (by omega), fun _ _ => rfl, fun _ _ => rfl⟩ ?_ ?_
  · intro n i s hi ⟨r1, r2, r3⟩
    have i3 : nI i + 3 = nI (i + 3) := nI_add _ _
    refine ⟨up s 154 i (s 154 (i + 3)), ?_, ?_, ?_, ?_⟩
    · simp only [s_X11_move_60]
      have l1 : ¬ (57 : Int32) ≤ nI i := nI_ge (b := 57) (by omega) (by omega)
      rw [if_neg l1, i3, if_pos (inb_nI (by omega) (by omega)), if_pos (inb_nI (by omega) (by omega)), cl_nI (by omega), cl_nI (by omega), lt_e, nI_1]
    · intro j hj
      rw [up_f]
      by_cases q : j = i
      · subst q; rw [ua_s, r2 _ (by omega)]
      · rw [ua_n q]; exact r1 j (by omega)
    · intro j hj; rw [up_f, ua_n (by omega)]; exact r2 j (by omega)
    · intro c hc; rw [up_d hc]; exact r3 c hc
  · intro n s ⟨r1, r2, r3⟩
    simp only [s_X11_move_60]
    have s5 : s 150 5 - 1 = nI 19 := by rw [r3 _ (by omega), h5]; rfl
    have l1 : (57 : Int32) ≤ nI 57 := nI_le (a := 57) (by omega) (by omega)
    rw [if_pos l1, s5, lt_e]
    have lt : (E.take 19).length = 19 := by rw [List.length_take, hE]; rfl
    refine gv_w (m_mv99 (σ := up s 150 5 (nI 19)) (E := E.take 19) hw (by rw [up_d (by omega), r3 _ (by omega)]; exact hA) (by omega) ⟨by rw [up_f, ua_s, lt], ?_⟩ hm hp hq) ?_
    · intro i e he
      have l1 := gl_lt he
      rw [gtake _ (by omega)] at he
      have := hs i e he
      rw [lt, up_d (by omega), r1 _ (by omega), r1 _ (by omega), r1 _ (by omega)]
      rw [hE] at this
      have z1 : 3 * (19 - 1 - i) + 3 = 3 * (20 - 1 - i) := by omega
      have z2 : 3 * (19 - 1 - i) + 1 + 3 = 3 * (20 - 1 - i) + 1 := by omega
      have z3 : 3 * (19 - 1 - i) + 2 + 3 = 3 * (20 - 1 - i) + 2 := by omega
      rw [z1, z2, z3]; exact this
    · intro r τ ⟨q1, q2, q3, q4, q5⟩
      refine ⟨q1, q2, q3, ?_, ?_⟩
      · intro c f1 f2 f3 f4 f5 f6
        rw [q4 c f1 f2 f3 f4 f5 f6, up_d f1]; exact r3 c f3
      · intro j f1 f2 f3
        rw [q5 j f1 f2 f3, up_f, ua_n f1, r3 _ (by omega)]
theorem m_mv36 {A : Nat → Int32} (hw : WF A) (hA : σ 151 = A) {E : List TE} (hE : E.length ≤ 20) (h : TRLm σ E) {m p q : Nat} {x : Int32} (hm : m < 5) (hp : p < nB A) (hq : m ≤ 2 → q < nB A ∧ x = nI q) (ns : ¬ (m = 4 ∧ A (20 + 6 * p) = 4)) : Gv (s_X11_move_36 σ (nI m) (nI p) x) (MVq σ A m p q x (E.take 19)) := by
  have n8 := hw.n8
  unfold s_X11_move_36
  rw [m_stuck hA hm (by omega), if_neg ns, bn_some, if_pos rfl, h.1]
  by_cases c : E.length = 20
  · rw [if_pos (by rw [c]; rfl)]
    exact m_mv60 hw hA c h hm hp hq
  · have l1 : ¬ nI E.length = 20 := fun e => c ((nI_eq (a := E.length) (b := 20) (by omega) (by omega)).mp e)
    rw [if_neg l1, List.take_of_length_le (show E.length ≤ 19 by omega)]
    exact m_mv99 hw hA (by omega) h hm hp hq
theorem mv_trs {A : Nat → Int32} (hw : WF A) {m p q : Nat} {x : Int32} {E : List TE} (hm : m < 5) (hp : p < nB A) (hq : m ≤ 2 → q < nB A ∧ x = nI q) (h : TRS A (shA A) E) : TRS (mvA A m p q) (shA (mvA A m p q)) ((m, p, x, if m = 3 then shA A p else x) :: E.take 19) := by
  have n8 := hw.n8
  have hq' : m ≤ 2 → q < nB A := fun x => (hq x).1
  have hn : nB (mvA A m p q) = nB A := by unfold nB; rw [mv_k hw hp hq' (by omega) (by omega) (fun _ => by omega)]
  have hk : ∀ p', p' < nB A → mvA A m p q (20 + 6 * p') = A (20 + 6 * p') ∧ mvA A m p q (20 + 6 * p' + 2) = A (20 + 6 * p' + 2) := fun p' hp' => ⟨mv_k hw hp hq' (by omega) (by omega) (fun _ => by omega), mv_k hw hp hq' (by omega) (by omega) (fun _ => by omega)⟩
  refine ⟨hm, by rw [hn]; exact hp, ?_, ?_, ?_, ?_⟩
  · intro c
    exact ⟨q, by rw [hn]; exact (hq c).1, (hq c).2⟩
  · intro c
    show (if m = 3 then shA A p else x) = x
    rw [if_neg c]
  · intro c
    have c : m = 3 := c
    show (if m = 3 then shA A p else x) = _
    rw [if_pos c]
    have := un_mv hw (m := m) (p := p) (q := q) hp hq'
    unfold unA at this
    rw [if_pos c] at this
    have t2 := congrFun this (20 + 6 * p + 5)
    rw [ua_s] at t2
    show A (20 + 6 * p + 5) = _
    rw [← t2]; rfl
  · refine TRS_c hn hk _ _ _ ?_ (TRS_take E 19 _ h)
    intro p' hp'
    show (if m = 3 then ua (shA (mvA A m p q)) p (if m = 3 then shA A p else x) else shA (mvA A m p q)) p' = _
    by_cases c : m = 3
    · rw [if_pos c, if_pos c]
      by_cases z : p' = p
      · rw [z, ua_s]
      · rw [ua_n z]
        exact mv_k hw hp hq' (by omega) (by omega) (fun _ => by omega)
    · rw [if_neg c]
      exact mv_k hw hp hq' (by omega) (by omega) (fun x => absurd x c)
theorem call_mv47 (h : InvR σ σ) {m p q : Nat} {x : Int32} (hm : m < 5) (hp : p < nB (σ 151)) (hq : m ≤ 2 → q < nB (σ 151) ∧ x = nI q) {X : RO} {Y : Sg → RO} (hX : X = s_X10_move_47 σ (nI m) (nI p) x 2) (hY : ∀ τ, τ 151 = σ 151 → Y τ = s_X11_move_36 τ (nI m) (nI p) x) : Call σ X Y := by
  have hw := h.w
  have n8 := hw.n8
  have hq' : m ≤ 2 → q < nB (σ 151) := fun x => (hq x).1
  by_cases ns : m = 4 ∧ σ 151 (20 + 6 * p) = 4
  · refine call_q h (-1000000002) (bad_c _ _ ?_) (fun τ k => bad_m _ _ ?_)
    · rw [hX]
      unfold s_X10_move_47
      rw [x1_canDo (.inl rfl) hw h.f.1 hm hp, if_pos ns, bn_some, if_pos rfl]
    · have hA : τ 151 = σ 151 := k.m (by omega)
      rw [hY τ hA]
      unfold s_X11_move_36
      rw [m_stuck hA hm (by omega), if_pos ns, bn_some, if_neg n10]
  · obtain ⟨E, l, a, b, d⟩ := h.2.2.2.1
    have wm := WF_mv hw hp hq'
    have hn : nB (mvA (σ 151) m p q) = nB (σ 151) := by unfold nB; rw [mv_k hw hp hq' (by omega) (by omega) (fun _ => by omega)]
    refine call_g (fun r τ => r = priceA (mvA (σ 151) m p q) ∧ RF τ 2 (mvA (σ 151) m p q) ∧ TRLc τ ((m, p, x, if m = 3 then shA (σ 151) p else x) :: E.take 19) ∧ ∀ c, c < 2 ∨ (20 ≤ c ∧ c < 110) ∨ 114 ≤ c → τ c = σ c) ?_ (fun r τ k => k.2.2.2 _ (by omega)) ?_
    · rw [hX]
      unfold s_X10_move_47
      rw [x1_canDo (.inl rfl) hw h.f.1 hm hp, if_neg ns, bn_some, if_neg n10]
      refine gv_v (x1_doMove (.inl rfl) hw h.f hm hp hq) ?_
      intro _ s ⟨p1, p2⟩
      refine gv_v (x8_note l (TRLc_c a (fun c _ _ => p2 c (by omega))) m p x (if m = 3 then shA (σ 151) p else x)) ?_
      intro _ τ ⟨q1, q2⟩
      have f : RF τ 2 (mvA (σ 151) m p q) := RF_c p1 (by omega) (fun c _ _ _ => q2 c (by omega))
      rw [x1_price (.inl rfl) wm f, bn_some]
      exact gv_i ⟨rfl, f, q1, fun c hc => by rw [q2 c (by omega), p2 c (by omega)]⟩
    · intro r τ ⟨hr, p1, p2, p3⟩
      have hA : τ 151 = σ 151 := p3 _ (by omega)
      rw [hY τ hA]
      refine gv_w (m_mv36 hw hA l (TRLm_c b (by rw [p3 _ (by omega)]) (p3 _ (by omega))) hm hp hq ns) ?_
      intro r' ρ ⟨q1, q2, q3, q4, q5⟩
      have e : ∀ c, c < 2 ∨ (20 ≤ c ∧ c < 110) ∨ (114 ≤ c ∧ c < 150) ∨ (152 ≤ c ∧ c < 163 ∧ c ≠ 154) ∨ 166 ≤ c → ρ c = σ c := fun c hc => by rw [q4 c (by omega) (by omega) (by omega) (by omega) (by omega) (by omega), p3 c (by omega)]
      have sj : ∀ j, j ≠ 5 → j ≠ 17 → j ≠ 18 → ρ 150 j = σ 150 j := fun j f1 f2 f3 => by rw [q5 j f1 f2 f3, p3 _ (by omega)]
      refine ⟨by rw [q1, hr], inv_b h q2 wm (fun j hj => mv_o hw hp hq' hj) ?_ ?_ (fun c f1 f2 f3 f4 => e c (by omega)) (by rw [e _ (by omega)]) ⟨sj _ (by omega) (by omega) (by omega), sj _ (by omega) (by omega) (by omega), sj _ (by omega) (by omega) (by omega)⟩, e _ (by omega)⟩
      · exact RF_c p1 (by omega) (fun c _ _ _ => q4 c (by omega) (by omega) (by omega) (by omega) (by omega) (by omega))
      · refine ⟨_, ?_, TRLc_c p2 (fun c _ _ => q4 c (by omega) (by omega) (by omega) (by omega) (by omega) (by omega)), q3, mv_trs hw hm hp hq d⟩
        rw [List.length_cons, List.length_take]; omega
theorem call_move (h : InvR σ σ) (x y z : Int32) : Call σ (s_X10_move σ x y z) (fun τ => s_X11_move τ x y z) := by
  have hw := h.w
  have n8 := hw.n8
  by_cases c1 : win x 0 4
  · obtain ⟨m, hm, rfl⟩ := win_n (n := 4) (by omega) rfl c1
    by_cases c2 : inb y (nB (σ 151)) = true
    · obtain ⟨p, hp, rfl⟩ := inb_of c2 (by omega)
      by_cases c3 : m ≤ 2
      · have l1 : ¬ (2 : Int32) < nI m := nI_nlt (a := 2) (by omega) (by omega)
        have l2 : ¬ (3 : Int32) ≤ nI m := nI_ge (b := 3) (by omega) (by omega)
        by_cases c4 : inb z (nB (σ 151)) = true
        · obtain ⟨q, hq, rfl⟩ := inb_of c4 (by omega)
          refine call_mv47 h (m := m) (p := p) (q := q) (x := nI q) (by omega) hp (fun _ => ⟨hq, rfl⟩) ?_ ?_
          · unfold s_X10_move
            rw [within_e, wI_1 c1, bn_some, if_neg n10, has_c hw h.f.1.n, if_pos c2, bn_some, if_neg n10, if_neg l1, has_c hw h.f.1.n, if_pos c4, bn_some, if_neg n10]
          · intro τ hA
            show s_X11_move τ (nI m) (nI p) (nI q) = _
            unfold s_X11_move
            rw [isIn_0_4, wI_1 c1, bn_some, if_neg n10, isBlk_e hw hA, if_pos c2, bn_some, if_neg n10, if_neg l2, isBlk_e hw hA, if_pos c4, bn_some, if_neg n10]
        · refine call_q h (-1000000001) (bad_c _ _ ?_) (fun τ k => bad_m _ _ ?_)
          · unfold s_X10_move
            rw [within_e, wI_1 c1, bn_some, if_neg n10, has_c hw h.f.1.n, if_pos c2, bn_some, if_neg n10, if_neg l1, has_c hw h.f.1.n, if_neg c4, bn_some, if_pos rfl]
          · have hA : τ 151 = σ 151 := k.m (by omega)
            unfold s_X11_move
            rw [isIn_0_4, wI_1 c1, bn_some, if_neg n10, isBlk_e hw hA, if_pos c2, bn_some, if_neg n10, if_neg l2, isBlk_e hw hA, if_neg c4, bn_some, if_pos rfl]
      · have l1 : (2 : Int32) < nI m := nI_lt (a := 2) (by omega) (by omega)
        have l2 : (3 : Int32) ≤ nI m := nI_le (a := 3) (by omega) (by omega)
        refine call_mv47 h (m := m) (p := p) (q := 0) (x := z) (by omega) hp (fun a => absurd a c3) ?_ ?_
        · unfold s_X10_move
          rw [within_e, wI_1 c1, bn_some, if_neg n10, has_c hw h.f.1.n, if_pos c2, bn_some, if_neg n10, if_pos l1]
        · intro τ hA
          show s_X11_move τ (nI m) (nI p) z = _
          unfold s_X11_move
          rw [isIn_0_4, wI_1 c1, bn_some, if_neg n10, isBlk_e hw hA, if_pos c2, bn_some, if_neg n10, if_pos l2]
    · refine call_q h (-1000000001) (bad_c _ _ ?_) (fun τ k => bad_m _ _ ?_)
      · unfold s_X10_move
        rw [within_e, wI_1 c1, bn_some, if_neg n10, has_c hw h.f.1.n, if_neg c2, bn_some, if_pos rfl]
      · have hA : τ 151 = σ 151 := k.m (by omega)
        unfold s_X11_move
        rw [isIn_0_4, wI_1 c1, bn_some, if_neg n10, isBlk_e hw hA, if_neg c2, bn_some, if_pos rfl]
  · refine call_q h (-1000000001) (bad_c _ _ ?_) (fun τ k => bad_m _ _ ?_)
    · unfold s_X10_move
      rw [within_e, wI_0 c1, bn_some, if_pos rfl]
    · unfold s_X11_move
      rw [isIn_0_4, wI_0 c1, bn_some, if_pos rfl]
end mo
