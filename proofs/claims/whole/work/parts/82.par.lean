/- a reader of texts, as a plain function -/
abbrev ST : Type := Nat × Nat × Nat × List (Nat × Int32) × Nat
abbrev PR : Type := Bool × ST
def adv (B : Nat → Int32) (len : Nat) (st : ST) : ST := (lxs B len st.2.1, lxe B len st.2.1, lxk B len st.2.1 (st.2.2.1 = 1 ∨ st.2.2.1 = 2), st.2.2.2.1, st.2.2.2.2)
def emt (st : ST) (t : Nat × Int32) : ST := (st.1, st.2.1, st.2.2.1, st.2.2.2.1 ++ [t], st.2.2.2.2)
def emo (st : ST) (t : Nat × Int32) : ST := (st.1, st.2.1, st.2.2.1, st.2.2.2.1 ++ [t], st.2.2.2.2 + 1)
def isNm (key : Nat) (c : Int32) : Bool := if key = 8 then (c == 119 || c == 104 || c == 108 || c == 117) else (c == 120 || c == 121 || c == 119 || c == 104 || c == 112 || c == 116 || c == 103)
section pp
variable (B : Nat → Int32) (len key : Nat)
def pLoop (Q : ST → PR) (S : Int32 → Bool) : Nat → ST → PR
  | 0, st => (true, st)
  | f + 1, st => if st.2.2.1 = 3 ∧ S (B st.1) = true then (if (Q (adv B len st)).1 = true then pLoop Q S f (emt (Q (adv B len st)).2 (2, B st.1)) else (false, (Q (adv B len st)).2)) else (true, st)
def pBin (Q : ST → PR) (S : Int32 → Bool) (st : ST) : PR := if (Q st).1 = true then pLoop B len Q S 96 (Q st).2 else (false, (Q st).2)
def pOnce (Q : ST → PR) (S : Int32 → Bool) (st : ST) : PR := if (Q st).1 = true then pLoop B len Q S 1 (Q st).2 else (false, (Q st).2)
def S1 (c : Int32) : Bool := c == 42 || c == 47
def S2 (c : Int32) : Bool := c == 43 || c == 45
def S3 (c : Int32) : Bool := c == 60 || c == 61 || c == 62
def S4 (c : Int32) : Bool := c == 38
def S5 (c : Int32) : Bool := c == 124
def pTerm (Q : ST → PR) : ST → PR := pBin B len Q S1
def pSum (Q : ST → PR) : ST → PR := pBin B len (pTerm B len Q) S2
def pTest (Q : ST → PR) : ST → PR := pOnce B len (pSum B len Q) S3
def pAnd (Q : ST → PR) : ST → PR := pBin B len (pTest B len Q) S4
def pOr (Q : ST → PR) : ST → PR := pBin B len (pAnd B len Q) S5
def pPiece (Qn Qo : ST → PR) (o n : Nat) (st : ST) : PR :=
  if st.2.2.1 = 2 then (if st.2.1 - st.1 ≤ 4 then (true, adv B len (emo st (0, nmA B st.1 (st.2.1 - st.1)))) else (false, st))
  else if st.2.2.1 = 1 then (if st.2.1 - st.1 = 1 ∧ isNm key (B st.1) = true then (true, adv B len (emo st (1, B st.1))) else (false, st))
  else if st.2.2.1 = 3 ∧ B st.1 = 33 then (if n < 8 then (if (Qn (adv B len st)).1 = true then (true, emt (Qn (adv B len st)).2 (2, 33)) else (false, (Qn (adv B len st)).2)) else (false, st))
  else if st.2.2.1 = 3 ∧ B st.1 = 40 then (if o < 8 then (if (pOr B len Qo (adv B len st)).1 = true ∧ (pOr B len Qo (adv B len st)).2.2.2.1 = 3 ∧ B (pOr B len Qo (adv B len st)).2.1 = 41 then (true, adv B len (pOr B len Qo (adv B len st)).2) else (false, (pOr B len Qo (adv B len st)).2)) else (false, st))
  else (false, st)
def pPc : Nat → Nat → Nat → ST → PR
  | 0, _, _, st => (false, st)
  | f + 1, o, n, st => pPiece B len key (pPc f o (n + 1)) (pPc f (o + 1) n) o n st
end pp
/- postfix rows -/
def dep : List (Nat × Int32) → Nat → Option Nat
  | [], d => some d
  | t :: r, d => if t.1 ≠ 2 then dep r (d + 1) else if t.2 = 33 then (if 1 ≤ d then dep r d else none) else (if 2 ≤ d then dep r (d - 1) else none)
theorem dep_a : ∀ (L M : List (Nat × Int32)) (d : Nat), dep (L ++ M) d = (dep L d).bind (dep M) := by
  intro L M
  induction L with
  | nil => intro d; rfl
  | cons t r ih =>
    intro d
    show dep (t :: (r ++ M)) d = _
    unfold dep
    by_cases c : t.1 ≠ 2
    · rw [if_pos c, if_pos c]; exact ih _
    · rw [if_neg c, if_neg c]
      by_cases c1 : t.2 = 33
      · rw [if_pos c1, if_pos c1]
        by_cases c2 : 1 ≤ d
        · rw [if_pos c2, if_pos c2]; exact ih _
        · rw [if_neg c2, if_neg c2]; rfl
      · rw [if_neg c1, if_neg c1]
        by_cases c2 : 2 ≤ d
        · rw [if_pos c2, if_pos c2]; exact ih _
        · rw [if_neg c2, if_neg c2]; rfl
def bsg (v : Int32) : Prop := v = 38 ∨ v = 42 ∨ v = 43 ∨ v = 45 ∨ v = 47 ∨ v = 60 ∨ v = 61 ∨ v = 62 ∨ v = 124
def vtk (key : Nat) (t : Nat × Int32) : Prop := (t.1 = 0 ∧ sm 9999 t.2) ∨ (t.1 = 1 ∧ isNm key t.2 = true) ∨ (t.1 = 2 ∧ (t.2 = 33 ∨ bsg t.2))
def Ext (key : Nat) (L L' : List (Nat × Int32)) : Prop := ∃ M, L' = L ++ M ∧ (∀ d, dep M d = some (d + 1)) ∧ ∀ t, t ∈ M → vtk key t
def Good (B : Nat → Int32) (len : Nat) (st : ST) : Prop := st.1 ≤ st.2.1 ∧ st.2.1 ≤ len ∧ st.2.2.1 ≤ 4 ∧ (st.2.2.1 ≠ 0 → st.1 < len ∧ st.1 < st.2.1) ∧ (¬ st.1 < len → st.2.2.1 = 0) ∧ st.2.2.2.1.length ≤ st.1 ∧ (st.2.2.1 = 2 → ∀ i, st.1 ≤ i → i < st.2.1 → sk3 (B i) = 2)
def PG (B : Nat → Int32) (len key : Nat) (Q : ST → PR) : Prop := ∀ st, Good B len st → (Q st).1 = true → Good B len (Q st).2 ∧ st.1 ≤ (Q st).2.1 ∧ (Q st).2.2.2.2.1.length + st.1 ≤ st.2.2.2.1.length + (Q st).2.1 ∧ Ext key st.2.2.2.1 (Q st).2.2.2.2.1
section pgs
variable {B : Nat → Int32} {len key : Nat}
theorem lx_2 {p : Nat} (hp : p ≤ len) {w : Prop} [Decidable w] (h : lxk B len p w = 2) : ∀ i, lxs B len p ≤ i → i < lxe B len p → sk3 (B i) = 2 := by
  intro i h1 h2
  unfold lxk at h
  by_cases c : lxs B len p < len
  · rw [if_pos c] at h
    split at h
    · omega
    · unfold lxe at h2
      rw [if_pos c, if_neg (by omega), h] at h2
      by_cases q : i = lxs B len p
      · rw [q]; exact h
      · exact scn_a B len 2 100 _ i (by omega) h2
  · rw [if_neg c] at h; omega
theorem adv_g {st : ST} (L : List (Nat × Int32)) (c : Nat) (he : st.2.1 ≤ len) (hL : L.length ≤ st.2.1) : Good B len (adv B len (st.1, st.2.1, st.2.2.1, L, c)) := by
  have hb := lx_b (B := B) he
  refine ⟨hb.2.2.1, hb.2.2.2.1, lxk_le, fun h => ?_, fun h => lxk_0.mpr h, Nat.le_trans hL hb.1, fun h => lx_2 he h⟩
  have : lxs B len st.2.1 < len := by
    apply Decidable.byContradiction
    intro c; exact h (lxk_0.mpr c)
  exact ⟨this, hb.2.2.2.2 this⟩
theorem adv_s {st : ST} (he : st.2.1 ≤ len) : st.2.1 ≤ (adv B len st).1 := (lx_b (B := B) he).1
theorem ext_r (key : Nat) {L M N : List (Nat × Int32)} (h1 : Ext key L M) (h2 : Ext key M N) {c : Int32} (hc : bsg c) : Ext key L (N ++ [(2, c)]) := by
  obtain ⟨P, rfl, p1, p2⟩ := h1
  obtain ⟨R, rfl, r1, r2⟩ := h2
  refine ⟨P ++ (R ++ [(2, c)]), by simp, fun d => ?_, fun t ht => ?_⟩
  · rw [dep_a, p1]
    show dep (R ++ [(2, c)]) (d + 1) = _
    rw [dep_a, r1]
    show dep [(2, c)] (d + 1 + 1) = _
    have c33 : ¬ c = 33 := by
      rcases hc with rfl | rfl | rfl | rfl | rfl | rfl | rfl | rfl | rfl <;> decide
    simp [dep, c33]
  · simp only [List.mem_append, List.mem_singleton] at ht
    rcases ht with ht | ht | ht
    · exact p2 t ht
    · exact r2 t ht
    · subst ht; exact .inr (.inr ⟨rfl, .inr hc⟩)
def bS (S : Int32 → Bool) : Prop := ∀ c, S c = true → bsg c
/-- what a loop of signs keeps -/
theorem loop_g {Q : ST → PR} (hQ : PG B len key Q) {S : Int32 → Bool} (hS : bS S) (L0 : List (Nat × Int32)) (s0 : Nat) : ∀ f st, Good B len st → s0 ≤ st.1 → st.2.2.2.1.length + s0 ≤ L0.length + st.1 → Ext key L0 st.2.2.2.1 → (pLoop B len Q S f st).1 = true → Good B len (pLoop B len Q S f st).2 ∧ s0 ≤ (pLoop B len Q S f st).2.1 ∧ (pLoop B len Q S f st).2.2.2.2.1.length + s0 ≤ L0.length + (pLoop B len Q S f st).2.1 ∧ Ext key L0 (pLoop B len Q S f st).2.2.2.2.1 := by
  intro f
  induction f with
  | zero => intro st g h1 h2 h3 _; exact ⟨g, h1, h2, h3⟩
  | succ f ih =>
    intro st g h1 h2 h3 h4
    unfold pLoop at h4 ⊢
    by_cases c : st.2.2.1 = 3 ∧ S (B st.1) = true
    · rw [if_pos c] at h4 ⊢
      by_cases c2 : (Q (adv B len st)).1 = true
      · rw [if_pos c2] at h4 ⊢
        obtain ⟨g1, g2, g3, g4, g5, g6, g7⟩ := g
        have hs := g4 (by omega)
        have ga : Good B len (adv B len st) := adv_g st.2.2.2.1 st.2.2.2.2 g2 (by omega)
        have ha := adv_s (B := B) (st := st) g2
        obtain ⟨q1, q2, q3, q4⟩ := hQ (adv B len st) ga c2
        have q3' : (Q (adv B len st)).2.2.2.2.1.length + (adv B len st).1 ≤ st.2.2.2.1.length + (Q (adv B len st)).2.1 := q3
        have q4' : Ext key st.2.2.2.1 (Q (adv B len st)).2.2.2.2.1 := q4
        generalize Q (adv B len st) = r at *
        have el : (emt r.2 (2, B st.1)).2.2.2.1.length = r.2.2.2.2.1.length + 1 := by simp [emt]
        refine ih (emt r.2 (2, B st.1)) ⟨q1.1, q1.2.1, q1.2.2.1, q1.2.2.2.1, q1.2.2.2.2.1, ?_, q1.2.2.2.2.2.2⟩ ?_ ?_ ?_ h4
        · rw [el]; show _ ≤ r.2.1; omega
        · show s0 ≤ r.2.1; omega
        · rw [el]; show _ ≤ L0.length + r.2.1; omega
        · exact ext_r key h3 q4' (hS _ c.2)
      · rw [if_neg c2] at h4; exact absurd h4 (by simp)
    · rw [if_neg c] at h4 ⊢; exact ⟨g, h1, h2, h3⟩
theorem bin_g {Q : ST → PR} (hQ : PG B len key Q) {S : Int32 → Bool} (hS : bS S) : PG B len key (pBin B len Q S) := by
  intro st g h
  unfold pBin at h ⊢
  by_cases c : (Q st).1 = true
  · rw [if_pos c] at h ⊢
    obtain ⟨q1, q2, q3, q4⟩ := hQ st g c
    exact loop_g hQ hS st.2.2.2.1 st.1 96 (Q st).2 q1 q2 q3 q4 h
  · rw [if_neg c] at h; exact absurd h (by simp)
theorem once_g {Q : ST → PR} (hQ : PG B len key Q) {S : Int32 → Bool} (hS : bS S) : PG B len key (pOnce B len Q S) := by
  intro st g h
  unfold pOnce at h ⊢
  by_cases c : (Q st).1 = true
  · rw [if_pos c] at h ⊢
    obtain ⟨q1, q2, q3, q4⟩ := hQ st g c
    exact loop_g hQ hS st.2.2.2.1 st.1 1 (Q st).2 q1 q2 q3 q4 h
  · rw [if_neg c] at h; exact absurd h (by simp)
theorem bS1 : bS S1 := by
  intro c h; simp only [S1, Bool.or_eq_true, beq_iff_eq] at h; unfold bsg; rcases h with h | h <;> simp [h]
theorem bS2 : bS S2 := by
  intro c h; simp only [S2, Bool.or_eq_true, beq_iff_eq] at h; unfold bsg; rcases h with h | h <;> simp [h]
theorem bS3 : bS S3 := by
  intro c h; simp only [S3, Bool.or_eq_true, beq_iff_eq] at h; unfold bsg; rcases h with (h | h) | h <;> simp [h]
theorem bS4 : bS S4 := by
  intro c h; simp only [S4, beq_iff_eq] at h; unfold bsg; simp [h]
theorem bS5 : bS S5 := by
  intro c h; simp only [S5, beq_iff_eq] at h; unfold bsg; simp [h]
theorem term_g {Q : ST → PR} (hQ : PG B len key Q) : PG B len key (pTerm B len Q) := bin_g hQ bS1
theorem sum_g {Q : ST → PR} (hQ : PG B len key Q) : PG B len key (pSum B len Q) := bin_g (term_g hQ) bS2
theorem test_g {Q : ST → PR} (hQ : PG B len key Q) : PG B len key (pTest B len Q) := once_g (sum_g hQ) bS3
theorem and_g {Q : ST → PR} (hQ : PG B len key Q) : PG B len key (pAnd B len Q) := bin_g (test_g hQ) bS4
theorem or_g {Q : ST → PR} (hQ : PG B len key Q) : PG B len key (pOr B len Q) := bin_g (and_g hQ) bS5
theorem dig_n {b : Int32} (h : sk3 b = 2) : ∃ d, d ≤ 9 ∧ b - 48 = nI d := by
  have h1 := wI_d b
  rw [if_pos h] at h1
  unfold wI at h1
  have c1 : ¬ b < 48 := fun c => by rw [if_pos c] at h1; exact absurd h1 (by decide)
  rw [if_neg c1] at h1
  have c2 : ¬ 57 < b := fun c => by rw [if_pos c] at h1; exact absurd h1 (by decide)
  have l1 := lt_le.mp c1
  have l2 := lt_le.mp c2
  obtain ⟨j, hj, rfl⟩ := nI_of (x := b) (fun c => by
    rw [lt_t] at c; rw [le_t] at l1
    have e1 : (48 : Int32).toInt = 48 := by decide
    have e2 : (0 : Int32).toInt = 0 := by decide
    omega)
  have l1' : 48 ≤ j := (nI_leI (a := 48) (by omega) hj).mp l1
  have l2' : j ≤ 57 := (nI_leI (b := 57) hj (by omega)).mp l2
  exact ⟨j - 48, by omega, pk_sub (b := 48) l1'⟩
theorem nmA_b {s e : Nat} (h : ∀ i, s ≤ i → i < e → sk3 (B i) = 2) : ∀ n, s + n ≤ e → sm (10 ^ n - 1) (nmA B s n) := by
  intro n
  induction n with
  | zero => intro _; exact sm_0
  | succ n ih =>
    intro hn
    unfold nmA
    rw [itr_0]
    obtain ⟨d, hd, e⟩ := dig_n (h (s + n) (by omega) (by omega))
    have hp : 1 ≤ 10 ^ n := Nat.pow_pos (by omega)
    rw [e]
    refine sm_w (sm_add (sm_mul (ih (by omega)) (sm_k (N := 10) (t := 10) (by omega))) (sm_k hd)) ?_
    rw [Nat.pow_succ]; omega
theorem ext_1 (key : Nat) (L : List (Nat × Int32)) {t : Nat × Int32} (h2 : t.1 ≠ 2) (hv : vtk key t) : Ext key L (L ++ [t]) :=
  ⟨[t], rfl, fun d => by simp [dep, h2], fun u hu => by simp only [List.mem_singleton] at hu; subst hu; exact hv⟩
theorem ext_n (key : Nat) {L M : List (Nat × Int32)} (h : Ext key L M) : Ext key L (M ++ [(2, 33)]) := by
  obtain ⟨P, rfl, p1, p2⟩ := h
  refine ⟨P ++ [(2, 33)], by simp, fun d => ?_, fun t ht => ?_⟩
  · rw [dep_a, p1]; show dep [(2, 33)] (d + 1) = _; simp [dep]
  · simp only [List.mem_append, List.mem_singleton] at ht
    rcases ht with ht | ht
    · exact p2 t ht
    · subst ht; exact .inr (.inr ⟨rfl, .inl rfl⟩)
theorem piece_g {Qn Qo : ST → PR} (hn : PG B len key Qn) (ho : PG B len key Qo) (o n : Nat) : PG B len key (pPiece B len key Qn Qo o n) := by
  intro st g h
  obtain ⟨g1, g2, g3, g4, g5, g6, g7⟩ := id g
  unfold pPiece at h ⊢
  by_cases c2 : st.2.2.1 = 2
  · simp only [c2, ↓reduceIte] at h ⊢
    by_cases c3 : st.2.1 - st.1 ≤ 4
    · rw [if_pos c3] at h ⊢
      have hs := g4 (by omega)
      have ha := adv_s (B := B) (st := emo st (0, nmA B st.1 (st.2.1 - st.1))) g2
      have ha' : st.2.1 ≤ (adv B len (emo st (0, nmA B st.1 (st.2.1 - st.1)))).1 := ha
      have hb := nmA_b (B := B) (s := st.1) (e := st.2.1) (g7 c2) (st.2.1 - st.1) (by omega)
      have hb2 : sm 9999 (nmA B st.1 (st.2.1 - st.1)) := sm_w hb (by
        have : 10 ^ (st.2.1 - st.1) ≤ 10 ^ 4 := Nat.pow_le_pow_right (by omega) c3
        omega)
      refine ⟨adv_g (st := st) (st.2.2.2.1 ++ [(0, nmA B st.1 (st.2.1 - st.1))]) (st.2.2.2.2 + 1) g2 (by simp; omega), by show st.1 ≤ (adv B len (emo st _)).1; omega, ?_, ext_1 key _ (by simp) (.inl ⟨rfl, hb2⟩)⟩
      show (st.2.2.2.1 ++ [(0, nmA B st.1 (st.2.1 - st.1))]).length + st.1 ≤ st.2.2.2.1.length + (adv B len (emo st _)).1
      simp only [List.length_append, List.length_singleton]; omega
    · rw [if_neg c3] at h; exact absurd h (by simp)
  · simp only [c2, ↓reduceIte] at h ⊢
    by_cases c1 : st.2.2.1 = 1
    · simp only [c1, ↓reduceIte] at h ⊢
      by_cases c3 : st.2.1 - st.1 = 1 ∧ isNm key (B st.1) = true
      · rw [if_pos c3] at h ⊢
        have hs := g4 (by omega)
        have ha : st.2.1 ≤ (adv B len (emo st (1, B st.1))).1 := adv_s (B := B) (st := emo st (1, B st.1)) g2
        refine ⟨adv_g (st := st) (st.2.2.2.1 ++ [(1, B st.1)]) (st.2.2.2.2 + 1) g2 (by simp; omega), by show st.1 ≤ (adv B len (emo st _)).1; omega, ?_, ext_1 key _ (by simp) (.inr (.inl ⟨rfl, c3.2⟩))⟩
        show (st.2.2.2.1 ++ [(1, B st.1)]).length + st.1 ≤ st.2.2.2.1.length + (adv B len (emo st _)).1
        simp only [List.length_append, List.length_singleton]; omega
      · rw [if_neg c3] at h; exact absurd h (by simp)
    · simp only [c1, ↓reduceIte] at h ⊢
      by_cases c33 : st.2.2.1 = 3 ∧ B st.1 = 33
      · rw [if_pos c33] at h ⊢
        by_cases c8 : n < 8
        · rw [if_pos c8] at h ⊢
          by_cases cq : (Qn (adv B len st)).1 = true
          · rw [if_pos cq] at h ⊢
            have hs := g4 (by omega)
            have ha := adv_s (B := B) (st := st) g2
            obtain ⟨q1, q2, q3, q4⟩ := hn (adv B len st) (adv_g st.2.2.2.1 st.2.2.2.2 g2 (by omega)) cq
            have q3' : (Qn (adv B len st)).2.2.2.2.1.length + (adv B len st).1 ≤ st.2.2.2.1.length + (Qn (adv B len st)).2.1 := q3
            have q4' : Ext key st.2.2.2.1 (Qn (adv B len st)).2.2.2.2.1 := q4
            generalize Qn (adv B len st) = r at *
            have el : (emt r.2 (2, 33)).2.2.2.1.length = r.2.2.2.2.1.length + 1 := by simp [emt]
            refine ⟨⟨q1.1, q1.2.1, q1.2.2.1, q1.2.2.2.1, q1.2.2.2.2.1, ?_, q1.2.2.2.2.2.2⟩, ?_, ?_, ext_n key q4'⟩
            · rw [el]; show _ ≤ r.2.1; omega
            · show st.1 ≤ r.2.1; omega
            · show (emt r.2 (2, 33)).2.2.2.1.length + _ ≤ _
              rw [el]; show _ ≤ st.2.2.2.1.length + r.2.1; omega
          · rw [if_neg cq] at h; exact absurd h (by simp)
        · rw [if_neg c8] at h; exact absurd h (by simp)
      · rw [if_neg c33] at h ⊢
        by_cases c40 : st.2.2.1 = 3 ∧ B st.1 = 40
        · rw [if_pos c40] at h ⊢
          by_cases c8 : o < 8
          · rw [if_pos c8] at h ⊢
            by_cases cq : (pOr B len Qo (adv B len st)).1 = true ∧ (pOr B len Qo (adv B len st)).2.2.2.1 = 3 ∧ B (pOr B len Qo (adv B len st)).2.1 = 41
            · rw [if_pos cq] at h ⊢
              have hs := g4 (by omega)
              have ha := adv_s (B := B) (st := st) g2
              obtain ⟨q1, q2, q3, q4⟩ := or_g ho (adv B len st) (adv_g st.2.2.2.1 st.2.2.2.2 g2 (by omega)) cq.1
              have q3' : (pOr B len Qo (adv B len st)).2.2.2.2.1.length + (adv B len st).1 ≤ st.2.2.2.1.length + (pOr B len Qo (adv B len st)).2.1 := q3
              have q4' : Ext key st.2.2.2.1 (pOr B len Qo (adv B len st)).2.2.2.2.1 := q4
              generalize pOr B len Qo (adv B len st) = r at *
              have hb := adv_s (B := B) (st := r.2) q1.2.1
              have q6 := q1.2.2.2.2.2.1
              have q11 := q1.1
              refine ⟨adv_g (st := r.2) r.2.2.2.2.1 r.2.2.2.2.2 q1.2.1 (by omega), ?_, ?_, q4'⟩
              · show st.1 ≤ (adv B len r.2).1; omega
              · show r.2.2.2.2.1.length + st.1 ≤ st.2.2.2.1.length + (adv B len r.2).1; omega
            · rw [if_neg cq] at h; exact absurd h (by simp)
          · rw [if_neg c8] at h; exact absurd h (by simp)
        · rw [if_neg c40] at h; exact absurd h (by simp)
theorem pc_g : ∀ f o n, PG B len key (pPc B len key f o n) := by
  intro f
  induction f with
  | zero => intro o n st g h; exact absurd h (by simp [pPc])
  | succ f ih => intro o n; exact piece_g (ih o (n + 1)) (ih (o + 1) n) o n
end pgs
