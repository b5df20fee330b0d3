/- what an answer fulfils -/
def Gv (o : RO) (Q : Int32 → Sg → Prop) : Prop := ∃ r τ, o = some (r, τ) ∧ Q r τ
theorem gv_i {r : Int32} {τ : Sg} {Q : Int32 → Sg → Prop} (h : Q r τ) : Gv (some (r, τ)) Q := ⟨r, τ, rfl, h⟩
theorem gv_n {o : RO} {f : Int32 → Sg → RO} {P Q : Int32 → Sg → Prop} (h : Gv o P) (k : ∀ r τ, P r τ → Gv (f r τ) Q) : Gv (bn o f) Q := by
  obtain ⟨r, τ, rfl, hp⟩ := h; exact k r τ hp
theorem gv_v {o : RO} {f : Sg → RO} {P Q : Int32 → Sg → Prop} (h : Gv o P) (k : ∀ r τ, P r τ → Gv (f τ) Q) : Gv (bv o f) Q := by
  obtain ⟨r, τ, rfl, hp⟩ := h; exact k r τ hp
theorem gv_w {o : RO} {P Q : Int32 → Sg → Prop} (h : Gv o P) (k : ∀ r τ, P r τ → Q r τ) : Gv o Q := by
  obtain ⟨r, τ, rfl, hp⟩ := h; exact ⟨r, τ, rfl, k r τ hp⟩
theorem gv_e {o o' : RO} {Q : Int32 → Sg → Prop} (e : o = o') (h : Gv o' Q) : Gv o Q := by rw [e]; exact h
theorem gv_loop {α : Type} {F : Nat → Nat → α → RO} {n : Nat} {P : Nat → α → Prop} {Q : Int32 → Sg → Prop} (hs : ∀ m i a, i < n → P i a → ∃ a', F (m + 1) i a = F m (i + 1) a' ∧ P (i + 1) a') (hx : ∀ m a, P n a → Gv (F (m + 1) n a) Q) : ∀ k i m a, i + k = n → k < m → P i a → Gv (F m i a) Q := by
  intro k
  induction k with
  | zero =>
    intro i m a h hm hp
    obtain ⟨m', rfl⟩ : ∃ m', m = m' + 1 := ⟨m - 1, by omega⟩
    have e : i = n := by omega
    subst e
    exact hx m' a hp
  | succ k ih =>
    intro i m a h hm hp
    obtain ⟨m', rfl⟩ : ∃ m', m = m' + 1 := ⟨m - 1, by omega⟩
    obtain ⟨a', e, hp'⟩ := hs m' i a (by omega) hp
    rw [e]
    exact ih (i + 1) m' a' (by omega) (by omega) hp'
theorem gv_loop0 {α : Type} (F : Nat → Nat → α → RO) (n : Nat) (P : Nat → α → Prop) {Q : Int32 → Sg → Prop} {a : α} (hn : n < 4096) (h0 : P 0 a) (hs : ∀ m i a, i < n → P i a → ∃ a', F (m + 1) i a = F m (i + 1) a' ∧ P (i + 1) a') (hx : ∀ m a, P n a → Gv (F (m + 1) n a) Q) : Gv (F FU 0 a) Q :=
  gv_loop hs hx n 0 FU a (by omega) hn h0
theorem le_T {a b : Nat} (h : a ≤ b) (hb : b < 2 ^ 31) : (nI a ≤ nI b) = True := by simp [nI_le h hb]
theorem le_F {a b : Nat} (h : b < a) (hb : a < 2 ^ 31) : (nI a ≤ nI b) = False := by simp [nI_ge h hb]
theorem lt_T {a b : Nat} (h : a < b) (hb : b < 2 ^ 31) : (nI a < nI b) = True := by simp [nI_lt h hb]
theorem lt_F {a b : Nat} (h : b ≤ a) (hb : a < 2 ^ 31) : (nI a < nI b) = False := by simp [nI_nlt h hb]
/- the program's floors -/
def FL (b : Nat) : Prop := b = 2 ∨ b = 46 ∨ b = 90
theorem FK {b : Nat} (h : FL b) : (rt b 0 = b + 1 ∧ rt b 2 = b + 2 ∧ rt b 3 = b + 3 ∧ rt b 4 = b + 4 ∧ rt b 5 = b + 5 ∧ rt b 6 = b + 6 ∧ rt b 7 = b + 7 ∧ rt b 8 = b + 8 ∧ rt b 9 = b + 9) ∧ (aln 0 (b + 1) = 8 ∧ aln 0 (b + 2) = 8 ∧ aln 0 (b + 3) = 8 ∧ aln 0 (b + 4) = 8 ∧ aln 0 (b + 5) = 8 ∧ aln 0 (b + 6) = 8 ∧ aln 0 (b + 7) = 5 ∧ aln 0 (b + 8) = 10 ∧ aln 0 (b + 9) = 10) := by
  rcases h with rfl | rfl | rfl <;> exact ⟨⟨rfl, rfl, rfl, rfl, rfl, rfl, rfl, rfl, rfl⟩, rfl, rfl, rfl, rfl, rfl, rfl, rfl, rfl, rfl⟩
theorem rtb2 : ∀ i, i < 8 → rt (2 + 1) i = 2 + 10 + i := by decide
theorem rtb46 : ∀ i, i < 8 → rt (46 + 1) i = 46 + 10 + i := by decide
theorem rtb90 : ∀ i, i < 8 → rt (90 + 1) i = 90 + 10 + i := by decide
theorem rtb {b i : Nat} (h : FL b) (hi : i < 8) : rt (b + 1) i = b + 10 + i := by
  rcases h with rfl | rfl | rfl
  · exact rtb2 i hi
  · exact rtb46 i hi
  · exact rtb90 i hi
/- rows of names -/
def pos (f : Nat → Nat) : Nat → Nat → Nat
  | 0, _ => 0
  | n + 1, j => if f n = j then n else pos f n j
def PM (f : Nat → Nat) (n : Nat) : Prop := (∀ i, i < n → f i < n) ∧ (∀ i j, i < n → j < n → f i = f j → i = j) ∧ (∀ j, j < n → ∃ i, i < n ∧ f i = j)
theorem pos_f {f : Nat → Nat} {n : Nat} (h : ∀ i j, i < n → j < n → f i = f j → i = j) : ∀ m i, m ≤ n → i < m → pos f m (f i) = i := by
  intro m
  induction m with
  | zero => intro i _ hi; omega
  | succ m ih =>
    intro i hm hi
    unfold pos
    by_cases e : f m = f i
    · rw [if_pos e]; exact h m i (by omega) (by omega) e
    · rw [if_neg e]
      refine ih i (by omega) ?_
      by_cases e2 : i = m
      · subst e2; exact absurd rfl e
      · omega
theorem PM_p {f : Nat → Nat} {n i : Nat} (h : PM f n) (hi : i < n) : pos f n (f i) = i := pos_f h.2.1 n i (Nat.le_refl n) hi
theorem PM_q {f : Nat → Nat} {n j : Nat} (h : PM f n) (hj : j < n) : pos f n j < n ∧ f (pos f n j) = j := by
  obtain ⟨i, hi, e⟩ := h.2.2 j hj
  subst e
  rw [PM_p h hi]
  exact ⟨hi, rfl⟩
def nB (A : Nat → Int32) : Nat := (A 0).toNatClampNeg
def nN (A : Nat → Int32) : Nat := (A 1).toNatClampNeg
def o1 (A : Nat → Int32) (i : Nat) : Nat := (A (70 + i)).toNatClampNeg
def o2 (A : Nat → Int32) (i : Nat) : Nat := (A (78 + i)).toNatClampNeg
def p1 (A : Nat → Int32) (j : Nat) : Nat := pos (o1 A) (nB A) j
def p2 (A : Nat → Int32) (j : Nat) : Nat := pos (o2 A) (nB A) j
/-- a floor's numbers are such as can be -/
def W1 (A : Nat → Int32) : Prop := A 0 = nI (nB A) ∧ nB A ≤ 8
def W2 (A : Nat → Int32) : Prop := (∀ i, i < nB A → A (70 + i) = nI (o1 A i)) ∧ (∀ i, i < nB A → A (78 + i) = nI (o2 A i)) ∧ PM (o1 A) (nB A) ∧ PM (o2 A) (nB A)
def W3 (A : Nat → Int32) : Prop := ∀ i, i < nB A → VA A (20 + 6 * i) ∧ sm 99 (pw A i) ∧ (ly A i = 0 ∨ ly A i = 1)
def W4 (A : Nat → Int32) : Prop := A 1 = nI (nN A) ∧ nN A ≤ 10 ∧ ∀ j, j < nN A → sm 255 (A (90 + 2 * j)) ∧ sm 9 (A (90 + 2 * j + 1))
def W5 (A : Nat → Int32) : Prop := sm 9 (A 5) ∧ sm 9 (A 6) ∧ sm 9 (A 7) ∧ sm 99 (A 8) ∧ sm 240 (A 9)
def WF (A : Nat → Int32) : Prop := W1 A ∧ W2 A ∧ W3 A ∧ W4 A ∧ W5 A
section wfs
variable {A : Nat → Int32}
theorem WF.n (h : WF A) : A 0 = nI (nB A) := h.1.1
theorem WF.n8 (h : WF A) : nB A ≤ 8 := h.1.2
theorem WF.e1 (h : WF A) {i : Nat} (hi : i < nB A) : A (70 + i) = nI (o1 A i) := h.2.1.1 i hi
theorem WF.e2 (h : WF A) {i : Nat} (hi : i < nB A) : A (78 + i) = nI (o2 A i) := h.2.1.2.1 i hi
theorem WF.m1 (h : WF A) : PM (o1 A) (nB A) := h.2.1.2.2.1
theorem WF.m2 (h : WF A) : PM (o2 A) (nB A) := h.2.1.2.2.2
theorem WF.l1 (h : WF A) {i : Nat} (hi : i < nB A) : o1 A i < nB A := h.m1.1 i hi
theorem WF.l2 (h : WF A) {i : Nat} (hi : i < nB A) : o2 A i < nB A := h.m2.1 i hi
theorem WF.j2 (h : WF A) {i j : Nat} (hi : i < nB A) (hj : j < nB A) (e : o2 A i = o2 A j) : i = j := h.m2.2.1 i j hi hj e
theorem WF.pl1 (h : WF A) {j : Nat} (hj : j < nB A) : p1 A j < nB A := (PM_q h.m1 hj).1
theorem WF.pl2 (h : WF A) {j : Nat} (hj : j < nB A) : p2 A j < nB A := (PM_q h.m2 hj).1
theorem WF.v (h : WF A) {i : Nat} (hi : i < nB A) : VA A (20 + 6 * i) := (h.2.2.1 i hi).1
theorem WF.lyv (h : WF A) {i : Nat} (hi : i < nB A) : ly A i = 0 ∨ ly A i = 1 := (h.2.2.1 i hi).2.2
theorem WF.pwv (h : WF A) {i : Nat} (hi : i < nB A) : sm 99 (pw A i) := (h.2.2.1 i hi).2.1
theorem WF.nn (h : WF A) : A 1 = nI (nN A) := h.2.2.2.1.1
theorem WF.nn10 (h : WF A) : nN A ≤ 10 := h.2.2.2.1.2.1
end wfs
/- places -/
abbrev PL : Type := (Nat → Int32) × (Nat → Int32) × Int32 × Int32
def sxy (A : Nat → Int32) (P : PL) (b : Nat) (i : Nat) (a : Int32 × Int32) : Int32 × Int32 := if ly A (o2 A i) = ly A b then (if p1 A (o2 A i) < p1 A b then (mx a.1 (P.1 (o2 A i) + wd A (o2 A i)), a.2) else (a.1, mx a.2 (P.2.1 (o2 A i) + ht A (o2 A i)))) else a
def sxr (A : Nat → Int32) (P : PL) (k : Nat) : Int32 × Int32 := itr (sxy A P (o2 A k)) k 0 (0, 0)
def seatA (A : Nat → Int32) (k : Nat) (P : PL) : PL := (ua P.1 (o2 A k) (sxr A P k).1, ua P.2.1 (o2 A k) (sxr A P k).2, mx P.2.2.1 ((sxr A P k).1 + wd A (o2 A k)), mx P.2.2.2 ((sxr A P k).2 + ht A (o2 A k)))
def PLk (A : Nat → Int32) (k : Nat) : PL := itr (seatA A) k 0 (fun _ => 0, fun _ => 0, 0, 0)
def PLA (A : Nat → Int32) : PL := PLk A (nB A)
def XX (A : Nat → Int32) : Nat → Int32 := (PLA A).1
def YY (A : Nat → Int32) : Nat → Int32 := (PLA A).2.1
def WW (A : Nat → Int32) : Int32 := (PLA A).2.2.1
def HH (A : Nat → Int32) : Int32 := (PLA A).2.2.2
theorem PLk_s (A : Nat → Int32) (k : Nat) : PLk A (k + 1) = seatA A k (PLk A k) := itr_0 _ _ _
/- the program's floor beside a row -/
def RU (σ : Sg) (b : Nat) (A : Nat → Int32) : Prop := (σ b 1 = A 0 ∧ σ b 10 = A 1 ∧ σ b 11 = A 4) ∧ (∀ i, i < nB A → BR σ (b + 10 + i) A (20 + 6 * i)) ∧ (∀ i, i < nB A → σ (b + 2) i = A (70 + i) ∧ σ (b + 3) i = A (78 + i)) ∧ (∀ k, k < 5 → σ (b + 7) k = A (5 + k)) ∧ (∀ j, j < nN A → σ (b + 8) j = A (90 + 2 * j) ∧ σ (b + 9) j = A (90 + 2 * j + 1))
def RI (σ : Sg) (b : Nat) (A : Nat → Int32) : Prop := ∀ i, i < nB A → σ (b + 4) i = nI (p1 A i) ∧ σ (b + 5) i = nI (p2 A i)
def RX (σ : Sg) (b : Nat) (A : Nat → Int32) : Prop := (∀ i, i < nB A → σ (b + 10 + i) 8 = XX A i ∧ σ (b + 10 + i) 9 = YY A i) ∧ σ b 12 = WW A ∧ σ b 13 = HH A
def RF (σ : Sg) (b : Nat) (A : Nat → Int32) : Prop := RU σ b A ∧ RI σ b A ∧ RX σ b A
section rus
variable {σ : Sg} {b : Nat} {A : Nat → Int32}
theorem RU.n (h : RU σ b A) : σ b 1 = A 0 := h.1.1
theorem RU.nets (h : RU σ b A) : σ b 10 = A 1 := h.1.2.1
theorem RU.z (h : RU σ b A) : σ b 11 = A 4 := h.1.2.2
theorem RU.br (h : RU σ b A) {i : Nat} (hi : i < nB A) : BR σ (b + 10 + i) A (20 + 6 * i) := h.2.1 i hi
theorem RU.f (h : RU σ b A) {i k : Nat} (hi : i < nB A) (hk : k < 6) : σ (b + 10 + i) k = A (20 + 6 * i + k) := (h.2.1 i hi).1 k hk
theorem RU.lyv (h : RU σ b A) {i : Nat} (hi : i < nB A) : σ (b + 10 + i) 4 = ly A i := (h.2.1 i hi).1 4 (by omega)
theorem RU.pwv (h : RU σ b A) {i : Nat} (hi : i < nB A) : σ (b + 10 + i) 3 = pw A i := (h.2.1 i hi).1 3 (by omega)
theorem RU.w (h : RU σ b A) {i : Nat} (hi : i < nB A) : σ (b + 10 + i) 6 = wd A i := (h.2.1 i hi).2.1
theorem RU.hh (h : RU σ b A) {i : Nat} (hi : i < nB A) : σ (b + 10 + i) 7 = ht A i := (h.2.1 i hi).2.2
theorem RU.one (h : RU σ b A) {i : Nat} (hi : i < nB A) : σ (b + 2) i = A (70 + i) := (h.2.2.1 i hi).1
theorem RU.oth (h : RU σ b A) {i : Nat} (hi : i < nB A) : σ (b + 3) i = A (78 + i) := (h.2.2.1 i hi).2
theorem RU.rul (h : RU σ b A) {k : Nat} (hk : k < 5) : σ (b + 7) k = A (5 + k) := h.2.2.2.1 k hk
theorem RU.set (h : RU σ b A) {j : Nat} (hj : j < nN A) : σ (b + 8) j = A (90 + 2 * j) := (h.2.2.2.2 j hj).1
theorem RU.wgt (h : RU σ b A) {j : Nat} (hj : j < nN A) : σ (b + 9) j = A (90 + 2 * j + 1) := (h.2.2.2.2 j hj).2
end rus
theorem BR_c {σ τ : Sg} {c : Nat} {A : Nat → Int32} {o : Nat} (h : BR σ c A o) (e : ∀ k, k < 8 → τ c k = σ c k) : BR τ c A o :=
  ⟨fun k hk => by rw [e k (by omega)]; exact h.1 k hk, by rw [e 6 (by omega)]; exact h.2.1, by rw [e 7 (by omega)]; exact h.2.2⟩
theorem RU_c {σ τ : Sg} {b : Nat} {A : Nat → Int32} (h : RU σ b A) (e0 : ∀ k, k < 12 → τ b k = σ b k) (e1 : ∀ c, b + 2 ≤ c → c < b + 10 → c ≠ b + 4 → c ≠ b + 5 → c ≠ b + 6 → τ c = σ c) (e2 : ∀ i k, i < 8 → k < 8 → τ (b + 10 + i) k = σ (b + 10 + i) k) (hn : nB A ≤ 8) : RU τ b A := by
  refine ⟨⟨?_, ?_, ?_⟩, ?_, ?_, ?_, ?_⟩
  · rw [e0 1 (by omega)]; exact h.n
  · rw [e0 10 (by omega)]; exact h.nets
  · rw [e0 11 (by omega)]; exact h.z
  · intro i hi; exact BR_c (h.br hi) (fun k hk => e2 i k (by omega) hk)
  · intro i hi
    rw [e1 (b + 2) (by omega) (by omega) (by omega) (by omega) (by omega), e1 (b + 3) (by omega) (by omega) (by omega) (by omega) (by omega)]
    exact h.2.2.1 i hi
  · intro k hk; rw [e1 (b + 7) (by omega) (by omega) (by omega) (by omega) (by omega)]; exact h.rul hk
  · intro j hj
    rw [e1 (b + 8) (by omega) (by omega) (by omega) (by omega) (by omega), e1 (b + 9) (by omega) (by omega) (by omega) (by omega) (by omega)]
    exact h.2.2.2.2 j hj
theorem RF_c {σ τ : Sg} {b : Nat} {A : Nat → Int32} (h : RF σ b A) (hn : nB A ≤ 8) (e : ∀ c, b ≤ c → c < b + 18 → c ≠ b + 6 → τ c = σ c) : RF τ b A := by
  refine ⟨RU_c h.1 (fun k _ => by rw [e b (by omega) (by omega) (by omega)]) (fun c h1 h2 _ _ h5 => e c (by omega) (by omega) h5) (fun i k hi _ => by rw [e (b + 10 + i) (by omega) (by omega) (by omega)]) hn, ?_, ?_, ?_, ?_⟩
  · intro i hi
    rw [e (b + 4) (by omega) (by omega) (by omega), e (b + 5) (by omega) (by omega) (by omega)]
    exact h.2.1 i hi
  · intro i hi
    rw [e (b + 10 + i) (by omega) (by omega) (by omega)]
    exact h.2.2.1 i hi
  · rw [e b (by omega) (by omega) (by omega)]; exact h.2.2.2.1
  · rw [e b (by omega) (by omega) (by omega)]; exact h.2.2.2.2
/- the program settles -/
theorem seat_e {σ : Sg} {b : Nat} {A : Nat → Int32} {P : PL} {k : Nat} (hb : FL b) (hw : WF A) (h : RU σ b A) (hi1 : ∀ i, i < nB A → σ (b + 4) i = nI (p1 A i)) (hk : k < nB A) (hx : ∀ i, i < k → σ (b + 10 + o2 A i) 8 = P.1 (o2 A i) ∧ σ (b + 10 + o2 A i) 9 = P.2.1 (o2 A i)) (h12 : σ b 12 = P.2.2.1) (h13 : σ b 13 = P.2.2.2) :
    s_X1_seat σ b (nI k) = some (0, up (up (up (up σ (b + 10 + o2 A k) 8 (sxr A P k).1) (b + 10 + o2 A k) 9 (sxr A P k).2) b 12 (seatA A k P).2.2.1) b 13 (seatA A k P).2.2.2) := by
  have n8 := hw.n8
  have lk := hw.l2 hk
  have ek : σ (b + 3) k = nI (o2 A k) := by rw [h.oth hk, hw.e2 hk]
  unfold s_X1_seat
  simp (disch := omega) only [FK hb, cl_nI, inb_n, ek, hi1 _ lk, rtb hb, ↓reduceIte, lt_e]
  refine loop0 (fun m i (a : Int32 × Int32) => s_X1_seat_33 m σ b (nI k) (b + 10 + o2 A k) (nI (p1 A (o2 A k))) a.1 a.2 (nI i)) (fun a => some (0, up (up (up (up σ (b + 10 + o2 A k) 8 a.1) (b + 10 + o2 A k) 9 a.2) b 12 (mx P.2.2.1 (a.1 + wd A (o2 A k)))) b 13 (mx P.2.2.2 (a.2 + ht A (o2 A k))))) (sxy A P (o2 A k)) k (0, 0) (by omega) ?_ ?_
  · intro m i a hi
    have hin : i < nB A := by omega
    have li := hw.l2 hin
    have ei : σ (b + 3) i = nI (o2 A i) := by rw [h.oth hin, hw.e2 hin]
    have q1 := hw.pl1 li
    have q2 := hw.pl1 lk
    simp only [s_X1_seat_33]
    simp (disch := omega) only [FK hb, cl_nI, inb_n, ei, hi1 _ li, rtb hb, le_F, ↓reduceIte, lt_e, h.lyv li, h.lyv lk, (hx i hi).1, (hx i hi).2, h.w li, h.hh li, nI_1]
    unfold sxy
    by_cases e : ly A (o2 A i) = ly A (o2 A k)
    · by_cases e2 : p1 A (o2 A i) < p1 A (o2 A k)
      · simp (disch := omega) only [e, e2, le_F, ↓reduceIte, mx]
      · simp (disch := omega) only [e, e2, le_T, ↓reduceIte, mx]
    · simp only [e, ↓reduceIte]
  · intro m a
    have hne : b ≠ b + 10 + o2 A k := by omega
    simp only [s_X1_seat_33]
    simp (disch := omega) only [le_T, ↓reduceIte, lt_e]
    simp only [up, hne, hne.symm, ↓reduceIte, h12, h13, h.w lk, h.hh lk, mx]
    simp
