def rwA (A : Nat → Int32) (e1 e2 : Nat) : Nat → Int32 := fun j => if 70 ≤ j ∧ j < 70 + nB A then nI (dgt (nB A) e1 (j - 70)) else if 78 ≤ j ∧ j < 78 + nB A then nI (dgt (nB A) e2 (j - 78)) else A j
def sr1 (A : Nat → Int32) (e1 : Nat) (a : Int32 × Nat × Nat) (e2 : Nat) : Int32 × Nat × Nat := if a.1 ≤ priceA (rwA A e1 e2) then a else (priceA (rwA A e1 e2), e1, e2)
def srI (A : Nat → Int32) (a : Int32 × Nat × Nat) (e1 : Nat) : Int32 × Nat × Nat := (pm (nB A)).foldl (sr1 A e1) a
def srA (A : Nat → Int32) : Int32 × Nat × Nat := (pm (nB A)).foldl (srI A) (2147483647, 0, 0)
section rw
variable {A : Nat → Int32} {e1 e2 : Nat}
theorem rw_1 {i : Nat} (hi : i < nB A) : rwA A e1 e2 (70 + i) = nI (dgt (nB A) e1 i) := by
  unfold rwA; rw [if_pos (by omega), Nat.add_sub_cancel_left]
theorem rw_2 {i : Nat} (hn : nB A ≤ 8) (hi : i < nB A) : rwA A e1 e2 (78 + i) = nI (dgt (nB A) e2 i) := by
  unfold rwA; rw [if_neg (by omega), if_pos (by omega), Nat.add_sub_cancel_left]
theorem rw_o {j : Nat} (hn : nB A ≤ 8) (hj : j < 70 ∨ 86 ≤ j) : rwA A e1 e2 j = A j := by
  unfold rwA; rw [if_neg (by omega), if_neg (by omega)]
theorem rw_n (hn : nB A ≤ 8) : nB (rwA A e1 e2) = nB A := by
  unfold nB; rw [rw_o hn (by omega)]
theorem rw_w (hw : WF A) (h4 : nB A ≤ 4) (h1 : e1 ∈ pm (nB A)) (h2 : e2 ∈ pm (nB A)) : WF (rwA A e1 e2) :=
  WF_r hw (fun j hj => rw_o hw.n8 hj) (pm_PM h4 e1 h1) (pm_PM h4 e2 h2) (fun i hi => rw_1 hi) (fun i hi => rw_2 hw.n8 hi)
end rw
theorem ex_loop {α β : Type} {F : Nat → Nat → α → β} {n : Nat} {P : Nat → α → Prop} (hs : ∀ m i a, i < n → P i a → ∃ a', F (m + 1) i a = F m (i + 1) a' ∧ P (i + 1) a') : ∀ k i m a, i + k = n → k < m → P i a → ∃ m' a', F m i a = F (m' + 1) n a' ∧ P n a' := by
  intro k
  induction k with
  | zero =>
    intro i m a h hm hp
    obtain ⟨m', rfl⟩ : ∃ m', m = m' + 1 := ⟨m - 1, by omega⟩
    have e : i = n := by omega
    subst e
    exact ⟨m', a, rfl, hp⟩
  | succ k ih =>
    intro i m a h hm hp
    obtain ⟨m', rfl⟩ : ∃ m', m = m' + 1 := ⟨m - 1, by omega⟩
    obtain ⟨a', e, hp'⟩ := hs m' i a (by omega) hp
    rw [e]
    exact ih (i + 1) m' a' (by omega) (by omega) hp'
theorem fold_t {α : Type} (f : α → Nat → α) (n j : Nat) (hj : j < (pm n).length) (a : α) : ((pm n).take (j + 1)).foldl f a = f (((pm n).take j).foldl f a) (pmt n j) := by
  have e : pmt n j = (pm n)[j] := by
    unfold pmt
    rw [List.getD_eq_getElem?_getD, Nat.min_eq_left (by omega), List.getElem?_eq_getElem hj, Option.getD_some]
  rw [List.take_add_one, List.foldl_append, List.getElem?_eq_getElem hj, e]
  rfl
def OT (σ : Sg) : Prop := ∀ n, n ≤ 4 → σ 903 n = nI (pm n).length
def FBs (σ τ : Sg) : Prop := ∀ c, c < 90 ∨ 110 ≤ c → τ c = σ c
def HD (n : Nat) (a : Int32 × Nat × Nat) (τ : Sg) : Prop := a.1 = 2147483647 ∨ ∀ i, i < n → τ 108 i = nI (dgt n a.2.1 i) ∧ τ 109 i = nI (dgt n a.2.2 i)
theorem first_e {σ : Sg} {c n : Nat} (hc : aln 0 c = 8) (hn : n ≤ 4) : Gv (s_X4_firstOrder σ c (nI n)) (fun _ τ => (∀ i, i < n → τ c i = nI i) ∧ ∀ d, d ≠ c → τ d = σ d) := by
  refine gv_loop0 (fun m i τ => s_X4_firstOrder_2 m τ c (nI n) (nI i)) n (fun k τ => (∀ i, i < k → τ c i = nI i) ∧ ∀ d, d ≠ c → τ d = σ d) (by omega) ⟨fun i hi => absurd hi (by omega), fun _ _ => rfl⟩ ?_ ?_
  · intro m k τ hk ⟨r1, r2⟩
    refine ⟨up τ c k (nI k), ?_, ?_, ?_⟩
    · simp only [s_X4_firstOrder_2]
      simp (disch := omega) only [le_F, ↓reduceIte, hc, inb_n, cl_nI, lt_e, nI_1]
    · intro i hi
      rw [up_f]
      by_cases q : i = k
      · subst q; exact ua_s
      · rw [ua_n q]; exact r1 i (by omega)
    · intro d hd; rw [up_d hd]; exact r2 d hd
  · intro m τ h
    simp only [s_X4_firstOrder_2]
    simp (disch := omega) only [le_T, ↓reduceIte]
    exact gv_i h
theorem a92 : aln 0 92 = 8 := rfl
theorem a93 : aln 0 93 = 8 := rfl
theorem ckn {n : Nat} (hn : n ≤ 4) : (cpk 0 0 (nI n) 8 4 = true) = True := by
  have : n = 0 ∨ n = 1 ∨ n = 2 ∨ n = 3 ∨ n = 4 := by omega
  rcases this with rfl | rfl | rfl | rfl | rfl <;> decide
section sea
variable {σ : Sg} {A : Nat → Int32}
theorem FBs.t {σ τ ρ : Sg} (h : FBs σ τ) (k : FBs τ ρ) : FBs σ ρ := fun c hc => (k c hc).trans (h c hc)
theorem FB.s {σ τ : Sg} (h : FB 90 σ τ) : FBs σ τ := fun c hc => h c (by omega)
theorem FBs_1 {σ τ : Sg} {d : Nat} (h1 : 90 ≤ d) (h2 : d < 110) (h : ∀ c, c ≠ d → τ c = σ c) : FBs σ τ := fun c hc => h c (by omega)
theorem OT_c {τ : Sg} (h : OT σ) (f : FBs σ τ) : OT τ := fun n hn => by rw [f 903 (by omega)]; exact h n hn
theorem x4_inner (hw : WF A) (h4 : nB A ≤ 4) (hO : OT σ) {i : Nat} (K : Sg → Int32 → Int32 → Int32 → RO) (a0 : Int32 × Nat × Nat) (hr : RU σ 90 (rwA A (pmt (nB A) i) (pmt (nB A) 0))) (hh : HD (nB A) a0 σ) (hi : i < (pm (nB A)).length) :
    ∃ τ, s_X4_leastPrice_66 K FU σ (nI (nB A)) a0.1 (nI i) 0 = K τ (nI (nB A)) (srI A a0 (pmt (nB A) i)).1 (nI (i + 1)) ∧ (∃ e2, RU τ 90 (rwA A (pmt (nB A) (i + 1)) e2)) ∧ HD (nB A) (srI A a0 (pmt (nB A) i)) τ ∧ FBs σ τ := by
  have n8 := hw.n8
  have hb : FL 90 := .inr (.inr rfl)
  obtain ⟨l1, l2⟩ := pm_len h4
  have e1in := pmt_in h4 i
  have stepH : ∀ m j (a : (Int32 × Nat × Nat) × Sg), j < (pm (nB A)).length → (fun j (a : (Int32 × Nat × Nat) × Sg) => a.1 = ((pm (nB A)).take j).foldl (sr1 A (pmt (nB A) i)) a0 ∧ RU a.2 90 (rwA A (pmt (nB A) i) (pmt (nB A) j)) ∧ HD (nB A) a.1 a.2 ∧ FBs σ a.2) j a → ∃ a' : (Int32 × Nat × Nat) × Sg, (fun m j (a : (Int32 × Nat × Nat) × Sg) => s_X4_leastPrice_66 K m a.2 (nI (nB A)) a.1.1 (nI i) (nI j)) (m + 1) j a = (fun m j (a : (Int32 × Nat × Nat) × Sg) => s_X4_leastPrice_66 K m a.2 (nI (nB A)) a.1.1 (nI i) (nI j)) m (j + 1) a' ∧ (fun j (a : (Int32 × Nat × Nat) × Sg) => a.1 = ((pm (nB A)).take j).foldl (sr1 A (pmt (nB A) i)) a0 ∧ RU a.2 90 (rwA A (pmt (nB A) i) (pmt (nB A) j)) ∧ HD (nB A) a.1 a.2 ∧ FBs σ a.2) (j + 1) a' := by
    intro m j ⟨a, τ⟩ hj ⟨r1, r2, r3, r4⟩
    have r1 : a = ((pm (nB A)).take j).foldl (sr1 A (pmt (nB A) i)) a0 := r1
    have r2 : RU τ 90 (rwA A (pmt (nB A) i) (pmt (nB A) j)) := r2
    have r3 : HD (nB A) a τ := r3
    have r4 : FBs σ τ := r4
    have wB := rw_w hw h4 e1in (pmt_in h4 j)
    obtain ⟨r, τ1, es, s1, s2⟩ := settle_e hb wB r2
    have f1 : FBs σ τ1 := r4.t (FB.s s2)
    have H1 : ∀ b, HD (nB A) b τ → HD (nB A) b τ1 := fun b hb => hb.imp id (fun q k hk => by rw [s2 108 (by omega), s2 109 (by omega)]; exact q k hk)
    have ep := x1_price hb wB s1
    have stepB : ∀ τ2, (∀ c, c < 108 → τ2 c = τ1 c) → ∃ ρ, Gv (s_X4_nextOrder τ2 93 (nI (nB A))) (fun _ κ => κ = ρ) ∧ RU ρ 90 (rwA A (pmt (nB A) i) (pmt (nB A) (j + 1))) ∧ ∀ d, d ≠ 93 → ρ d = τ2 d := by
      intro τ2 hτ
      obtain ⟨rv, ρ, en, q1, q2⟩ := nxO (τ := τ2) (c := 93) (n := nB A) (j := j) a93 h4 hj (fun k hk => by rw [hτ 93 (by omega), s1.1.oth (by rw [rw_n n8]; exact hk), rw_2 n8 hk])
      refine ⟨ρ, ⟨rv, ρ, en, rfl⟩, ?_, q2⟩
      refine RU_r s1.1 wB (fun j hj => by rw [rw_o n8 hj, rw_o n8 hj]) (fun c h1 h2 h3 h4 => by rw [q2 c h4, hτ c (by omega)]) ?_
      intro k hk
      rw [rw_n n8] at hk
      refine ⟨?_, by rw [q1 k hk, rw_2 n8 hk]⟩
      rw [q2 _ (by omega), hτ _ (by omega), s1.1.one (by rw [rw_n n8]; exact hk), rw_1 hk, rw_1 hk]
    by_cases c : a.1 ≤ priceA (rwA A (pmt (nB A) i) (pmt (nB A) j))
    · obtain ⟨ρ, ⟨rv, ρ', en, e9⟩, u1, u2⟩ := stepB τ1 (fun _ _ => rfl)
      rw [e9] at en
      refine ⟨(a, ρ), ?_, ?_, u1, ?_, ?_⟩
      · show s_X4_leastPrice_66 K (m + 1) τ (nI (nB A)) a.1 (nI i) (nI j) = _
        simp only [s_X4_leastPrice_66]
        simp (disch := omega) only [inb_n, cl_nI, ↓reduceIte, OT_c hO r4 _ h4, le_F, es, bv_some, ep, bn_some, c, en, nI_1]
      · show a = _
        rw [fold_t _ _ _ hj, ← r1]; unfold sr1; rw [if_pos c]
      · show HD (nB A) a ρ
        exact (H1 a r3).imp id (fun q k hk => by rw [u2 108 (by omega), u2 109 (by omega)]; exact q k hk)
      · exact f1.t (FBs_1 (d := 93) (by omega) (by omega) u2)
    · have hc2 : ∀ c, c < 108 → cpy (cpy τ1 92 108 0 0 (nB A)) 93 109 0 0 (nB A) c = τ1 c := fun c hc => by rw [cpy_d (by omega), cpy_d (by omega)]
      obtain ⟨ρ, ⟨rv, ρ', en, e9⟩, u1, u2⟩ := stepB _ hc2
      rw [e9] at en
      refine ⟨((priceA (rwA A (pmt (nB A) i) (pmt (nB A) j)), pmt (nB A) i, pmt (nB A) j), ρ), ?_, ?_, u1, ?_, ?_⟩
      · show s_X4_leastPrice_66 K (m + 1) τ (nI (nB A)) a.1 (nI i) (nI j) = _
        simp only [s_X4_leastPrice_66, s_X4_holdRows]
        simp (disch := omega) only [inb_n, cl_nI, ↓reduceIte, OT_c hO r4 _ h4, le_F, es, bv_some, ep, bn_some, c, ckn h4, k0c, lt_e, en, nI_1]
      · show _ = ((pm (nB A)).take (j + 1)).foldl (sr1 A (pmt (nB A) i)) a0
        rw [fold_t _ _ _ hj, ← r1]; unfold sr1; rw [if_neg c]
      · show HD (nB A) (priceA (rwA A (pmt (nB A) i) (pmt (nB A) j)), pmt (nB A) i, pmt (nB A) j) ρ
        refine .inr (fun k hk => ?_)
        rw [u2 108 (by omega), u2 109 (by omega), cpy_d (by omega), cpy_f, ub0 hk, cpy_f, ub0 hk, cpy_d (by omega)]
        exact ⟨by rw [show τ1 92 k = _ from s1.1.one (by rw [rw_n n8]; exact hk), rw_1 hk], by rw [show τ1 93 k = _ from s1.1.oth (by rw [rw_n n8]; exact hk), rw_2 n8 hk]⟩
      · refine f1.t (FBs.t ?_ (FBs_1 (d := 93) (by omega) (by omega) u2))
        intro d hd
        rw [cpy_d (by omega), cpy_d (by omega)]
  obtain ⟨m', ⟨a, τ⟩, e, r1, r2, r3, r4⟩ := ex_loop (F := fun m j (a : (Int32 × Nat × Nat) × Sg) => s_X4_leastPrice_66 K m a.2 (nI (nB A)) a.1.1 (nI i) (nI j)) (P := fun j (a : (Int32 × Nat × Nat) × Sg) => a.1 = ((pm (nB A)).take j).foldl (sr1 A (pmt (nB A) i)) a0 ∧ RU a.2 90 (rwA A (pmt (nB A) i) (pmt (nB A) j)) ∧ HD (nB A) a.1 a.2 ∧ FBs σ a.2) (n := (pm (nB A)).length) stepH (pm (nB A)).length 0 FU (a0, σ) (by omega) (by show _ < 4096; omega) ⟨rfl, hr, hh, fun _ _ => rfl⟩
  have r1' : a = srI A a0 (pmt (nB A) i) := by
    have : a = ((pm (nB A)).take (pm (nB A)).length).foldl (sr1 A (pmt (nB A) i)) a0 := r1
    rw [List.take_length] at this; exact this
  have r2' : RU τ 90 (rwA A (pmt (nB A) i) (pmt (nB A) (pm (nB A)).length)) := r2
  have r3' : HD (nB A) a τ := r3
  have r4' : FBs σ τ := r4
  have e' : s_X4_leastPrice_66 K FU σ (nI (nB A)) a0.1 (nI i) 0 = s_X4_leastPrice_66 K (m' + 1) τ (nI (nB A)) a.1 (nI i) (nI (pm (nB A)).length) := e
  clear r1 r2 r3 r4 e
  rw [r1'] at r3' e'
  obtain ⟨rv, ρ, en, q1, q2⟩ := nxO (τ := τ) (c := 92) (n := nB A) (j := i) a92 h4 hi (fun k hk => by rw [show τ 92 k = _ from r2'.one (by rw [rw_n n8]; exact hk), rw_1 hk])
  refine ⟨ρ, ?_, ⟨pmt (nB A) (pm (nB A)).length, ?_⟩, ?_, ?_⟩
  · rw [e']
    simp only [s_X4_leastPrice_66]
    simp (disch := omega) only [inb_n, cl_nI, ↓reduceIte, OT_c hO r4' _ h4, le_T, en, bv_some, nI_1]
  · refine RU_r r2' (rw_w hw h4 e1in (pmt_in h4 _)) (fun j hj => by rw [rw_o n8 hj, rw_o n8 hj]) (fun c h1 h2 h3 h4 => q2 c h3) ?_
    intro k hk
    rw [rw_n n8] at hk
    refine ⟨by rw [q1 k hk, rw_1 hk], ?_⟩
    rw [q2 _ (by omega), r2'.oth (by rw [rw_n n8]; exact hk), rw_2 n8 hk, rw_2 n8 hk]
  · rcases r3' with r3 | r3
    · exact .inl r3
    · refine .inr (fun k hk => ?_)
      rw [q2 108 (by omega), q2 109 (by omega)]; exact r3 k hk
  · exact FBs.t r4' (FBs_1 (d := 92) (by omega) (by omega) q2)
theorem x4_least (hw : WF A) (h4 : nB A ≤ 4) (hO : OT σ) {b : Nat} (hb : FL b) (hb9 : b ≠ 90) (h : RF σ b A) : Gv (s_X4_leastPrice σ b) (fun r τ => r = (srA A).1 ∧ HD (nB A) (srA A) τ ∧ FBs σ τ) := by
  have n8 := hw.n8
  have h9 : FL 90 := .inr (.inr rfl)
  obtain ⟨l1, l2⟩ := pm_len h4
  unfold s_X4_leastPrice
  have c0 : ¬ nI (nB A) < 0 := nI_pos (by omega)
  have c4 : nI (nB A) ≤ 4 := nI_le (b := 4) h4 (by omega)
  simp only [lt_e, h.1.n, hw.n, c0, c4, ↓reduceIte]
  refine gv_v (x1_take h9 hb (fun e => hb9 e.symm) hw h) ?_
  intro _ τ1 ⟨t1, t2⟩
  refine gv_v (first_e (c := 92) a92 h4) ?_
  intro _ τ2 ⟨u1, u2⟩
  have f2 : FBs σ τ2 := (FB.s t2).t (FBs_1 (d := 92) (by omega) (by omega) u2)
  refine gv_loop0 (fun m i (a : (Int32 × Nat × Nat) × Sg) => s_X4_leastPrice_42 m a.2 (nI (nB A)) a.1.1 (nI i)) (pm (nB A)).length (fun i a => a.1 = ((pm (nB A)).take i).foldl (srI A) (2147483647, 0, 0) ∧ (∃ B, (∀ j, j < 70 ∨ 86 ≤ j → B j = A j) ∧ RU a.2 90 B ∧ ∀ k, k < nB A → a.2 92 k = nI (dgt (nB A) (pmt (nB A) i) k)) ∧ HD (nB A) a.1 a.2 ∧ FBs σ a.2) (a := ((2147483647, 0, 0), τ2)) (by omega) ⟨rfl, ⟨fun j => if 70 ≤ j ∧ j < 78 then τ2 92 (j - 70) else A j, ?_, ?_, ?_⟩, .inl rfl, f2⟩ ?_ ?_
  · intro j hj; simp only [show ¬ (70 ≤ j ∧ j < 78) by omega, ↓reduceIte]
  · refine RU_r t1.1 hw (fun j hj => by simp only [show ¬ (70 ≤ j ∧ j < 78) by omega, ↓reduceIte]) (fun c h1 h2 h3 h4 => u2 c h3) ?_
    intro k hk
    refine ⟨?_, ?_⟩
    · simp only [show 70 ≤ 70 + k ∧ 70 + k < 78 by omega, and_self, ↓reduceIte, Nat.add_sub_cancel_left]
    · simp only [show ¬ (70 ≤ 78 + k ∧ 78 + k < 78) by omega, ↓reduceIte]
      rw [u2 _ (by omega)]; exact t1.1.oth hk
  · intro k hk
    show τ2 92 k = _
    rw [u1 k hk, pmt_0 h4 k hk]
  · intro m i ⟨a, τ⟩ hi ⟨r1, ⟨B, b1, b2, b3⟩, r3, r4⟩
    have r1 : a = ((pm (nB A)).take i).foldl (srI A) (2147483647, 0, 0) := r1
    have b2 : RU τ 90 B := b2
    have r3 : HD (nB A) a τ := r3
    have r4 : FBs σ τ := r4
    have b3 : ∀ k, k < nB A → τ 92 k = nI (dgt (nB A) (pmt (nB A) i) k) := b3
    have nBB : nB B = nB A := by unfold nB; rw [b1 0 (by omega)]
    obtain ⟨rv, τ', ef, v1, v2⟩ := first_e (σ := τ) (c := 93) (n := nB A) a93 h4
    have hu : RU τ' 90 (rwA A (pmt (nB A) i) (pmt (nB A) 0)) := by
      have nNB : nN B = nN A := by unfold nN; rw [b1 1 (by omega)]
      have n10 := hw.nn10
      have cc : ∀ c, c ≠ 93 → τ' c = τ c := v2
      have nr : nB (rwA A (pmt (nB A) i) (pmt (nB A) 0)) = nB A := rw_n n8
      have mr : nN (rwA A (pmt (nB A) i) (pmt (nB A) 0)) = nN A := by unfold nN; rw [rw_o n8 (by omega)]
      refine ⟨⟨?_, ?_, ?_⟩, ?_, ?_, ?_, ?_⟩
      · rw [cc _ (by omega), b2.n, b1 0 (by omega), rw_o n8 (by omega)]
      · rw [cc _ (by omega), b2.nets, b1 1 (by omega), rw_o n8 (by omega)]
      · rw [cc _ (by omega), b2.z, b1 4 (by omega), rw_o n8 (by omega)]
      · intro k hk
        rw [nr] at hk
        have := b2.br (i := k) (by omega)
        unfold BR at this ⊢
        rw [cc _ (by omega), rw_o n8 (by omega), rw_o n8 (by omega), rw_o n8 (by omega), rw_o n8 (by omega)]
        rw [b1 (20 + 6 * k) (by omega), b1 (20 + 6 * k + 1) (by omega), b1 (20 + 6 * k + 2) (by omega), b1 (20 + 6 * k + 5) (by omega)] at this
        exact ⟨fun q hq => by rw [rw_o n8 (by omega), ← b1 (20 + 6 * k + q) (by omega)]; exact this.1 q hq, this.2⟩
      · intro k hk
        rw [nr] at hk
        refine ⟨?_, ?_⟩
        · rw [cc _ (by omega), b3 k hk, rw_1 hk]
        · rw [v1 k hk, rw_2 n8 hk, pmt_0 h4 k hk]
      · intro k hk; rw [cc _ (by omega), b2.rul hk, b1 (5 + k) (by omega), rw_o n8 (by omega)]
      · intro j hj
        rw [mr] at hj
        rw [cc _ (by omega), cc _ (by omega), b2.set (j := j) (by omega), b2.wgt (j := j) (by omega), b1 (90 + 2 * j) (by omega), b1 (90 + 2 * j + 1) (by omega), rw_o n8 (by omega), rw_o n8 (by omega)]
        exact ⟨rfl, rfl⟩
    have f3 : FBs σ τ' := r4.t (FBs_1 (d := 93) (by omega) (by omega) v2)
    have h3 : HD (nB A) a τ' := r3.imp id (fun q k hk => by rw [v2 108 (by omega), v2 109 (by omega)]; exact q k hk)
    obtain ⟨ρ, ee, ⟨e2, w1⟩, w2, w3⟩ := x4_inner hw h4 (OT_c hO f3) (i := i) (s_X4_leastPrice_42 m) a hu h3 hi
    refine ⟨(srI A a (pmt (nB A) i), ρ), ?_, ?_, ⟨rwA A (pmt (nB A) (i + 1)) e2, fun j hj => rw_o n8 hj, w1, ?_⟩, w2, f3.t w3⟩
    · show s_X4_leastPrice_42 (m + 1) τ (nI (nB A)) a.1 (nI i) = _
      simp only [s_X4_leastPrice_42]
      simp (disch := omega) only [inb_n, cl_nI, ↓reduceIte, OT_c hO r4 _ h4, le_F, ef, bv_some]
      exact ee
    · show _ = ((pm (nB A)).take (i + 1)).foldl (srI A) (2147483647, 0, 0)
      rw [fold_t _ _ _ hi, ← r1]
    · intro k hk
      show ρ 92 k = _
      rw [show ρ 92 k = _ from w1.one (by rw [rw_n n8]; exact hk), rw_1 hk]
  · intro m ⟨a, τ⟩ ⟨r1, _, r3, r4⟩
    have r1 : a = ((pm (nB A)).take (pm (nB A)).length).foldl (srI A) (2147483647, 0, 0) := r1
    rw [List.take_length] at r1
    have r4' : FBs σ τ := r4
    have r3' : HD (nB A) a τ := r3
    have r1' : a = srA A := r1
    rw [r1'] at r3'
    show Gv (s_X4_leastPrice_42 (m + 1) τ (nI (nB A)) a.1 (nI (pm (nB A)).length)) _
    rw [r1']
    simp only [s_X4_leastPrice_42]
    simp (disch := omega) only [inb_n, cl_nI, ↓reduceIte, OT_c hO r4' _ h4, le_T]
    exact gv_i ⟨rfl, r3', r4'⟩
end sea
