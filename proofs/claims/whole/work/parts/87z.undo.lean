section un
variable {σ : Sg}
theorem TRLc_p {e : TE} {r : List TE} (hE : (e :: r).length ≤ 20) (h : TRLc σ (e :: r)) {ρ : Sg} (e4 : ρ 110 4 = nI r.length) {nx : Nat} (hn : nx < 20) (e0 : σ 110 3 = nI nx) (e3 : ρ 110 3 = nI ((nx + 19) % 20)) (ec : ρ 111 = σ 111 ∧ ρ 112 = σ 112 ∧ ρ 113 = σ 113) : TRLc ρ r := by
  obtain ⟨h4, ny, hy, h3, hs⟩ := h
  have : ny = nx := (nI_eq (a := ny) (b := nx) (by omega) (by omega)).mp (by rw [← h3, e0])
  subst this
  refine ⟨e4, (ny + 19) % 20, Nat.mod_lt _ (by omega), e3, ?_⟩
  intro i a ha
  have l1 := gl_lt ha
  rw [List.length_cons] at hE
  have := hs (i + 1) a (by rw [List.getElem?_cons_succ]; exact ha)
  have sl : ((ny + 19) % 20 + 19 - i) % 20 = (ny + 19 - (i + 1)) % 20 := by omega
  rw [sl, ec.1, ec.2.1, ec.2.2]; exact this
theorem m_undoMove {A : Nat → Int32} (hw : WF A) (hA : σ 151 = A) {m p q : Nat} {x : Int32} (hm : m < 5) (hp : p < nB A) (hq : m ≤ 2 → q < nB A ∧ x = nI q) (h3 : m = 3 → x = pvS A p) : Gv (s_X11_undoMove σ (nI m) (nI p) x) (fun _ τ => τ 151 = unA A m p q ∧ ∀ c, c ≠ 151 → τ c = σ c) := by
  have n8 := hw.n8
  have em : (nI m = 3) = (m = 3) := propext (nI_eq (b := 3) (by omega) (by omega))
  unfold s_X11_undoMove s_X11_blockAt
  simp only [em]
  by_cases c : m = 3
  · simp (disch := omega) only [c, ↓reduceIte, bn_some, NK, inb_n, cl_nI, lt_e]
    refine gv_i ⟨?_, fun c hc => up_d hc⟩
    rw [up_f, hA, h3 c]
    unfold unA
    rw [if_pos rfl]
  · rw [if_neg c]
    refine gv_v (m_doMove hw hA hm hp hq) ?_
    intro _ τ ⟨a, b⟩
    refine gv_i ⟨?_, b⟩
    rw [a]
    unfold unA
    rw [if_neg c]
theorem un_trs {A : Nat → Int32} (hw : WF A) {m p q : Nat} {o : Int32} {r : List TE} (hp : p < nB A) (hq : m ≤ 2 → q < nB A) (h3 : m = 3 → o = pvS A p) (h : TRS A (if m = 3 then ua (shA A) p o else shA A) r) : TRS (unA A m p q) (shA (unA A m p q)) r := by
  have n8 := hw.n8
  have hn : nB (unA A m p q) = nB A := by unfold nB; rw [un_k hw hp hq (by omega) (by omega) (fun _ => by omega)]
  refine TRS_c hn (fun p' hp' => ⟨un_k hw hp hq (by omega) (by omega) (fun _ => by omega), un_k hw hp hq (by omega) (by omega) (fun _ => by omega)⟩) _ _ _ ?_ h
  intro p' hp'
  by_cases c : m = 3
  · rw [if_pos c]
    by_cases z : p' = p
    · rw [z, ua_s, h3 c]
      show unA A m p q (20 + 6 * p + 5) = _
      unfold unA
      rw [if_pos c, ua_s]
    · rw [ua_n z]
      exact un_k hw hp hq (by omega) (by omega) (fun _ => by omega)
  · rw [if_neg c]
    exact un_k hw hp hq (by omega) (by omega) (fun x => absurd x c)
theorem call_undo (h : InvR σ σ) : Call σ (s_X10_undo σ) (fun τ => s_X11_undo τ) := by
  have hw := h.w
  have n8 := hw.n8
  obtain ⟨E, l, a, b, d⟩ := h.2.2.2.1
  cases E with
  | nil =>
    refine call_q h (-1000000002) (bad_c _ _ ?_) (fun τ k => bad_m _ _ ?_)
    · unfold s_X10_undo
      have z : σ 110 4 = 0 := a.1
      rw [z, if_pos rfl]
    · unfold s_X11_undo
      have z : σ 150 5 = 0 := b.1
      rw [k.m (by omega), z, if_pos rfl]
  | cons e r =>
    obtain ⟨m, p, x, o⟩ := e
    obtain ⟨hm, hp, h2, hx, ho, dr⟩ := d
    have hm : m < 5 := hm
    have hp : p < nB (σ 151) := hp
    have hx : m ≠ 3 → o = x := hx
    have ho : m = 3 → o = pvS (σ 151) p := ho
    obtain ⟨q, hq⟩ : ∃ q, m ≤ 2 → q < nB (σ 151) ∧ x = nI q := by
      by_cases c : m ≤ 2
      · obtain ⟨q, q1, q2⟩ := h2 c
        exact ⟨q, fun _ => ⟨q1, q2⟩⟩
      · exact ⟨0, fun y => absurd y c⟩
    have hq' : m ≤ 2 → q < nB (σ 151) := fun y => (hq y).1
    have ll : r.length + 1 ≤ 20 := by rw [← List.length_cons]; exact l
    have z0 : ¬ nI (r.length + 1) = 0 := nI_ne0 (by omega) (by omega)
    have pr : nI (r.length + 1) - 1 = nI r.length := by rw [predI (by omega), Nat.add_sub_cancel]
    have hn : nB (unA (σ 151) m p q) = nB (σ 151) := by unfold nB; rw [un_k hw hp hq' (by omega) (by omega) (fun _ => by omega)]
    refine call_g (fun v τ => v = nI r.length ∧ WF (unA (σ 151) m p q) ∧ RF τ 2 (unA (σ 151) m p q) ∧ TRLc τ r ∧ ∀ c, c < 2 ∨ (20 ≤ c ∧ c < 110) ∨ 111 ≤ c → τ c = σ c) ?_ (fun v τ k => k.2.2.2.2 _ (by omega)) ?_
    · obtain ⟨a4, nx, hnx, a3, as⟩ := id a
      have a4 : σ 110 4 = nI (r.length + 1) := a4
      obtain ⟨s0, s1, s2⟩ := as 0 _ (List.getElem?_cons_zero ..)
      have s0 : σ 111 ((nx + 19) % 20) = nI m := s0
      have s1 : σ 112 ((nx + 19) % 20) = nI p := s1
      have s2 : σ 113 ((nx + 19) % 20) = x := s2
      have lx : (nx + 19) % 20 < 20 := Nat.mod_lt _ (by omega)
      generalize hy : (nx + 19) % 20 = ny at *
      have k1 : up σ 110 3 (nI ny) 110 4 = nI (r.length + 1) := by rw [up_f, ua_n (by omega)]; exact a4
      let κ := up (up σ 110 3 (nI ny)) 110 4 (nI r.length)
      have k3 : κ 110 3 = nI ny := by
        show up (up σ 110 3 (nI ny)) 110 4 (nI r.length) 110 3 = _
        rw [up_f, ua_n (by omega), up_f, ua_s]
      have kc : ∀ c, c ≠ 110 → κ c = σ c := fun c hc => by
        show up (up σ 110 3 (nI ny)) 110 4 (nI r.length) c = _
        rw [up_d hc, up_d hc]
      have k4 : κ 110 4 = nI r.length := by
        show up (up σ 110 3 (nI ny)) 110 4 (nI r.length) 110 4 = _
        rw [up_f, ua_s]
      have kF : RF κ 2 (σ 151) := RF_c h.f n8 (fun c _ _ _ => kc c (by omega))
      have ib : inb (nI ny) 20 = true := inb_nI lx (by omega)
      have e1 : κ 111 ny = nI m := by rw [kc _ (by omega)]; exact s0
      have e2 : κ 112 ny = nI p := by rw [kc _ (by omega)]; exact s1
      have e3 : κ 113 ny = x := by rw [kc _ (by omega)]; exact s2
      unfold s_X10_undo s_X8_takeBack
      rw [a4, if_neg z0, a3, m20' nx hnx, hy, lt_e, k1, pr, lt_e]
      show Gv (bv (if inb (κ 110 3) 20 = true then (if inb (κ 110 3) 20 = true then (if inb (κ 110 3) 20 = true then (bv (s_X1_undoMove κ 2 (κ 111 (κ 110 3).toNatClampNeg) (κ 112 (κ 110 3).toNatClampNeg) (κ 113 (κ 110 3).toNatClampNeg)) fun s3 => some (0, s3)) else none) else none) else none) _) _
      rw [k3, if_pos ib, if_pos ib, if_pos ib, cl_nI (by omega), e1, e2, e3]
      refine gv_v (P := fun _ τ => RF τ 2 (unA (σ 151) m p q) ∧ WF (unA (σ 151) m p q) ∧ FB 2 κ τ) (gv_v (x1_undoMove (.inl rfl) hw kF hm hp hq) (fun _ τ k => gv_i k)) ?_
      intro _ τ ⟨u1, u2, u3⟩
      refine gv_i ⟨?_, u2, u1, ?_, ?_⟩
      · rw [u3 _ (by omega)]; exact k4
      · refine TRLc_p l a (by rw [u3 _ (by omega)]; exact k4) hnx a3 (by rw [u3 _ (by omega), hy]; exact k3) ⟨?_, ?_, ?_⟩
        · rw [u3 _ (by omega)]; exact kc _ (by omega)
        · rw [u3 _ (by omega)]; exact kc _ (by omega)
        · rw [u3 _ (by omega)]; exact kc _ (by omega)
      · intro c hc
        rw [u3 c (by omega)]; exact kc c (by omega)
    · intro v τ ⟨hv, wu, p1, p2, p3⟩
      have hA : τ 151 = σ 151 := p3 _ (by omega)
      have b5 : τ 150 5 = nI (r.length + 1) := by rw [p3 _ (by omega)]; exact b.1
      have e3 : (3 : Int32) * nI r.length = nI (3 * r.length) := by
        show nI 3 * nI r.length = _
        rw [pk_mul]
      have i1 : nI (3 * r.length) + 1 = nI (3 * r.length + 1) := nI_1 _
      have i2 : nI (3 * r.length) + 2 = nI (3 * r.length + 2) := nI_add _ _
      obtain ⟨s0, s1, s2⟩ := b.2 0 _ (List.getElem?_cons_zero ..)
      have sl : ((m, p, x, o) :: r).length - 1 - 0 = r.length := by rw [List.length_cons]; omega
      rw [sl] at s0 s1 s2
      let κ := up τ 150 5 (nI r.length)
      have kc : ∀ c, c ≠ 150 → κ c = τ c := fun c hc => up_d hc
      have k5 : κ 150 5 = nI r.length := by
        show up τ 150 5 (nI r.length) 150 5 = _
        rw [up_f, ua_s]
      have f0 : κ 154 (3 * r.length) = nI m := by rw [kc _ (by omega), p3 _ (by omega)]; exact s0
      have f1 : κ 154 (3 * r.length + 1) = nI p := by rw [kc _ (by omega), p3 _ (by omega)]; exact s1
      have f2 : κ 154 (3 * r.length + 2) = o := by rw [kc _ (by omega), p3 _ (by omega)]; exact s2
      show Gv (s_X11_undo τ) _
      unfold s_X11_undo
      rw [b5, if_neg z0, pr, lt_e]
      show Gv (if inb (3 * (κ 150 5)) 60 = true then (if inb ((3 * (κ 150 5)) + 1) 60 = true then (if inb ((3 * (κ 150 5)) + 2) 60 = true then (bv (s_X11_undoMove κ (κ 154 (3 * (κ 150 5)).toNatClampNeg) (κ 154 ((3 * (κ 150 5)) + 1).toNatClampNeg) (κ 154 ((3 * (κ 150 5)) + 2).toNatClampNeg)) fun s2 => some (s2 150 5, s2)) else none) else none) else none) _
      rw [k5, e3, i1, i2, if_pos (inb_nI (by omega) (by omega)), if_pos (inb_nI (by omega) (by omega)), if_pos (inb_nI (by omega) (by omega)), cl_nI (by omega), cl_nI (by omega), cl_nI (by omega), f0, f1, f2]
      refine gv_v (m_undoMove (q := q) hw (by rw [kc _ (by omega)]; exact hA) hm hp (fun y => by rw [hx (by omega)]; exact hq y) ho) ?_
      intro _ ρ ⟨q1, q2⟩
      have e : ∀ c, c < 2 ∨ (20 ≤ c ∧ c < 110) ∨ (111 ≤ c ∧ c < 150) ∨ 152 ≤ c → ρ c = σ c := fun c hc => by rw [q2 c (by omega), kc c (by omega), p3 c (by omega)]
      have r50 : ρ 150 = ua (σ 150) 5 (nI r.length) := by
        rw [q2 _ (by omega)]
        show up τ 150 5 (nI r.length) 150 = _
        rw [up_f, p3 _ (by omega)]
      have rt' : ∀ c, c ≠ 150 → c ≠ 151 → ρ c = τ c := fun c f g => by rw [q2 c g, kc c f]
      refine gv_i ⟨by rw [r50, ua_s, hv], inv_b h q1 wu (fun j hj => un_o hw hp hq' hj) ?_ ?_ (fun c f1 f2 f3 f4 => e c (by omega)) (by rw [e _ (by omega)]) ⟨by rw [r50, ua_n (by omega)], by rw [r50, ua_n (by omega)], by rw [r50, ua_n (by omega)]⟩, e _ (by omega)⟩
      · exact RF_c p1 (by omega) (fun c _ _ _ => rt' c (by omega) (by omega))
      · refine ⟨r, by omega, TRLc_c p2 (fun c _ _ => rt' c (by omega) (by omega)), ⟨by rw [r50, ua_s], ?_⟩, un_trs hw hp hq' ho dr⟩
        intro i e' he
        have l1 := gl_lt he
        have := b.2 (i + 1) e' (by rw [List.getElem?_cons_succ]; exact he)
        have sl2 : ((m, p, x, o) :: r).length - 1 - (i + 1) = r.length - 1 - i := by rw [List.length_cons]; omega
        rw [sl2] at this
        rw [e 154 (by omega)]; exact this
end un
