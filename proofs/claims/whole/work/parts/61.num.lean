/- loops as folds -/
def itr {α : Type} (f : Nat → α → α) : Nat → Nat → α → α
  | 0, _, a => a
  | k + 1, i, a => itr f k (i + 1) (f i a)
theorem itr_snoc {α : Type} (f : Nat → α → α) : ∀ k i a, itr f (k + 1) i a = f (i + k) (itr f k i a) := by
  intro k
  induction k with
  | zero => intro i a; rfl
  | succ k ih =>
    intro i a
    show itr f (k + 1) (i + 1) (f i a) = _
    rw [ih (i + 1) (f i a), show i + 1 + k = i + (k + 1) by omega]
    rfl
theorem itr_0 {α : Type} (f : Nat → α → α) (k : Nat) (a : α) : itr f (k + 1) 0 a = f k (itr f k 0 a) := by
  rw [itr_snoc, Nat.zero_add]
theorem itr_inv {α : Type} {f : Nat → α → α} {P : Nat → α → Prop} {n : Nat} (hs : ∀ i a, i < n → P i a → P (i + 1) (f i a)) : ∀ k i a, i + k ≤ n → P i a → P (i + k) (itr f k i a) := by
  intro k
  induction k with
  | zero => intro i a _ h; exact h
  | succ k ih =>
    intro i a hk h
    have := ih (i + 1) (f i a) (by omega) (hs i a (by omega) h)
    rw [show i + (k + 1) = i + 1 + k by omega]
    exact this
theorem itr_inv0 {α : Type} {f : Nat → α → α} (P : Nat → α → Prop) {n : Nat} {a : α} (h0 : P 0 a) (hs : ∀ i a, i < n → P i a → P (i + 1) (f i a)) : P n (itr f n 0 a) := by
  have := itr_inv (P := P) hs n 0 a (by omega) h0
  rwa [Nat.zero_add] at this
theorem itr_rel {α β : Type} {f : Nat → α → α} {g : Nat → β → β} {P : Nat → α → β → Prop} {n : Nat} (hs : ∀ i a b, i < n → P i a b → P (i + 1) (f i a) (g i b)) : ∀ k i a b, i + k ≤ n → P i a b → P (i + k) (itr f k i a) (itr g k i b) := by
  intro k
  induction k with
  | zero => intro i a b _ h; exact h
  | succ k ih =>
    intro i a b hk h
    have := ih (i + 1) (f i a) (g i b) (by omega) (hs i a b (by omega) h)
    rw [show i + (k + 1) = i + 1 + k by omega]
    exact this
theorem itr_rel0 {α β : Type} {f : Nat → α → α} {g : Nat → β → β} (P : Nat → α → β → Prop) {n : Nat} {a : α} {b : β} (h0 : P 0 a b) (hs : ∀ i a b, i < n → P i a b → P (i + 1) (f i a) (g i b)) : P n (itr f n 0 a) (itr g n 0 b) := by
  have := itr_rel (P := P) hs n 0 a b (by omega) h0
  rwa [Nat.zero_add] at this
theorem itr_congr {α : Type} {f g : Nat → α → α} {n : Nat} (h : ∀ i a, i < n → f i a = g i a) (a : α) : itr f n 0 a = itr g n 0 a :=
  itr_rel0 (fun _ a b => a = b) rfl (fun i a b hi e => by rw [e]; exact h i b hi)
theorem loopE {α : Type} {F : Nat → Nat → α → RO} {fin : α → RO} {f : Nat → α → α} {n : Nat} {P : Nat → α → Prop} (hs : ∀ m i a, i < n → P i a → F (m + 1) i a = F m (i + 1) (f i a) ∧ P (i + 1) (f i a)) (hx : ∀ m a, P n a → F (m + 1) n a = fin a) : ∀ k i m a, i + k = n → k < m → P i a → F m i a = fin (itr f k i a) ∧ P n (itr f k i a) := by
  intro k
  induction k with
  | zero =>
    intro i m a h hm hp
    obtain ⟨m', rfl⟩ : ∃ m', m = m' + 1 := ⟨m - 1, by omega⟩
    have e : i = n := by omega
    subst e
    exact ⟨hx m' a hp, hp⟩
  | succ k ih =>
    intro i m a h hm hp
    obtain ⟨m', rfl⟩ : ∃ m', m = m' + 1 := ⟨m - 1, by omega⟩
    have := hs m' i a (by omega) hp
    rw [this.1]
    exact ih (i + 1) m' (f i a) (by omega) (by omega) this.2
theorem loop0P {α : Type} (F : Nat → Nat → α → RO) (fin : α → RO) (f : Nat → α → α) (n : Nat) (P : Nat → α → Prop) (a : α) (hn : n < 4096) (h0 : P 0 a) (hs : ∀ m i a, i < n → P i a → F (m + 1) i a = F m (i + 1) (f i a) ∧ P (i + 1) (f i a)) (hx : ∀ m a, P n a → F (m + 1) n a = fin a) : F FU 0 a = fin (itr f n 0 a) ∧ P n (itr f n 0 a) :=
  loopE hs hx n 0 FU a (by omega) hn h0
theorem loop0 {α : Type} (F : Nat → Nat → α → RO) (fin : α → RO) (f : Nat → α → α) (n : Nat) (a : α) (hn : n < 4096) (hs : ∀ m i a, i < n → F (m + 1) i a = F m (i + 1) (f i a)) (hx : ∀ m a, F (m + 1) n a = fin a) : F FU 0 a = fin (itr f n 0 a) :=
  (loopE (P := fun _ _ => True) (fun m i a hi _ => ⟨hs m i a hi, trivial⟩) (fun m a _ => hx m a) n 0 FU a (by omega) hn trivial).1
/- numbers -/
theorem NK : (∀ a : Nat, (1 : Int32) + nI a = nI (1 + a)) ∧ (∀ a : Nat, (5 : Int32) + nI a = nI (5 + a)) ∧ (∀ a : Nat, (20 : Int32) + nI a = nI (20 + a)) ∧ (∀ a : Nat, (70 : Int32) + nI a = nI (70 + a)) ∧ (∀ a : Nat, (78 : Int32) + nI a = nI (78 + a)) ∧ (∀ a : Nat, (90 : Int32) + nI a = nI (90 + a)) ∧ (∀ a : Nat, (110 : Int32) + nI a = nI (110 + a)) ∧ (∀ a : Nat, (140 : Int32) + nI a = nI (140 + a)) ∧ (∀ a : Nat, (2 : Int32) * nI a = nI (2 * a)) ∧ (∀ a : Nat, (3 : Int32) * nI a = nI (3 * a)) ∧ (∀ a : Nat, (6 : Int32) * nI a = nI (6 * a)) ∧ (∀ a : Nat, (8 : Int32) * nI a = nI (8 * a)) ∧ (∀ a : Nat, (10 : Int32) * nI a = nI (10 * a)) ∧ (∀ a : Nat, (24 : Int32) * nI a = nI (24 * a)) ∧ (∀ a : Nat, (200 : Int32) * nI a = nI (200 * a)) ∧ (∀ a : Nat, nI a + (1 : Int32) = nI (a + 1)) ∧ (∀ a : Nat, nI a + (2 : Int32) = nI (a + 2)) ∧ (∀ a : Nat, nI a + (3 : Int32) = nI (a + 3)) ∧ (∀ a : Nat, nI a + (4 : Int32) = nI (a + 4)) ∧ (∀ a : Nat, nI a + (5 : Int32) = nI (a + 5)) ∧ (∀ a : Nat, nI a + (6 : Int32) = nI (a + 6)) ∧ (∀ a : Nat, nI a + (12 : Int32) = nI (a + 12)) := ⟨fun a => nI_add 1 a, fun a => nI_add 5 a, fun a => nI_add 20 a, fun a => nI_add 70 a, fun a => nI_add 78 a, fun a => nI_add 90 a, fun a => nI_add 110 a, fun a => nI_add 140 a, fun a => pk_mul 2 a, fun a => pk_mul 3 a, fun a => pk_mul 6 a, fun a => pk_mul 8 a, fun a => pk_mul 10 a, fun a => pk_mul 24 a, fun a => pk_mul 200 a, fun a => nI_add a 1, fun a => nI_add a 2, fun a => nI_add a 3, fun a => nI_add a 4, fun a => nI_add a 5, fun a => nI_add a 6, fun a => nI_add a 12⟩
theorem li1 : (1 : Int32) = nI 1 := rfl
theorem ieq {a b : Nat} (ha : a < 2 ^ 31) (hb : b < 2 ^ 31) : (nI a = nI b) = (a = b) := propext (nI_eq ha hb)
theorem ieqk {a k : Nat} (ha : a < 2 ^ 31) (hk : k < 2 ^ 31) : (nI a = (OfNat.ofNat k : Int32)) = (a = OfNat.ofNat k) := propext (nI_eq ha hk)
theorem lt_le {a b : Int32} : ¬ a < b ↔ b ≤ a := Int32.not_lt
theorem le_lt {a b : Int32} : ¬ a ≤ b ↔ b < a := Int32.not_le
theorem le_t {a b : Int32} : a ≤ b ↔ a.toInt ≤ b.toInt := Int32.le_iff_toInt_le
theorem lt_t {a b : Int32} : a < b ↔ a.toInt < b.toInt := Int32.lt_iff_toInt_lt
def mn (x y : Int32) : Int32 := if y < x then y else x
def mx (x y : Int32) : Int32 := if x < y then y else x
theorem mn_le (x y : Int32) : (if y ≤ x then y else x) = mn x y := by
  unfold mn
  by_cases h : y < x
  · rw [if_pos h, if_pos (Int32.le_of_lt h)]
  · rw [if_neg h]
    by_cases h2 : y ≤ x
    · rw [if_pos h2]; exact Int32.le_antisymm h2 (lt_le.mp h)
    · rw [if_neg h2]
theorem mx_le (x y : Int32) : (if x ≤ y then y else x) = mx x y := by
  unfold mx
  by_cases h : x < y
  · rw [if_pos h, if_pos (Int32.le_of_lt h)]
  · rw [if_neg h]
    by_cases h2 : x ≤ y
    · rw [if_pos h2]; exact Int32.le_antisymm (lt_le.mp h) h2
    · rw [if_neg h2]
theorem mn_top (v : Int32) : mn 2147483647 v = v := by
  unfold mn
  by_cases h : v < 2147483647
  · rw [if_pos h]
  · rw [if_neg h]
    have h1 := lt_le.mp h
    rw [le_t] at h1
    have h2 := Int32.toInt_lt v
    apply Int32.toInt_inj.mp
    have h3 : (2147483647 : Int32).toInt = 2147483647 := by decide
    omega
theorem mx_bot (v : Int32) : mx (-2147483648) v = v := by
  unfold mx
  by_cases h : (-2147483648) < v
  · rw [if_pos h]
  · rw [if_neg h]
    have h1 := lt_le.mp h
    rw [le_t] at h1
    have h2 := Int32.le_toInt v
    apply Int32.toInt_inj.mp
    have h3 : (-2147483648 : Int32).toInt = -2147483648 := by decide
    omega
theorem mx_nI {a b : Nat} (ha : a < 2 ^ 31) (hb : b < 2 ^ 31) : mx (nI a) (nI b) = nI (max a b) := by
  unfold mx
  by_cases h : a < b
  · rw [if_pos (nI_lt h hb), Nat.max_eq_right (by omega)]
  · rw [if_neg (nI_nlt (by omega) ha), Nat.max_eq_left (by omega)]
theorem mn_nI {a b : Nat} (ha : a < 2 ^ 31) (hb : b < 2 ^ 31) : mn (nI a) (nI b) = nI (min a b) := by
  unfold mn
  by_cases h : b < a
  · rw [if_pos (nI_lt h ha), Nat.min_eq_right (by omega)]
  · rw [if_neg (nI_nlt (by omega) hb), Nat.min_eq_left (by omega)]
/-- between two numbers -/
def win (x a b : Int32) : Prop := a ≤ x ∧ x ≤ b
def wI (x a b : Int32) : Int32 := if x < a then 0 else if b < x then 0 else 1
theorem wI_1 {x a b : Int32} (h : win x a b) : wI x a b = 1 := by
  unfold wI; rw [if_neg (lt_le.mpr h.1), if_neg (lt_le.mpr h.2)]
theorem wI_0 {x a b : Int32} (h : ¬ win x a b) : wI x a b = 0 := by
  unfold wI
  by_cases h1 : x < a
  · rw [if_pos h1]
  · rw [if_neg h1]
    by_cases h2 : b < x
    · rw [if_pos h2]
    · exact absurd ⟨lt_le.mp h1, lt_le.mp h2⟩ h
theorem within_e (σ : Sg) (x a b : Int32) : s_X10_within σ x a b = some (wI x a b, σ) := by
  unfold s_X10_within wI
  by_cases h1 : x < a
  · rw [if_pos h1, if_pos h1]
  · rw [if_neg h1, if_neg h1]
    by_cases h2 : b < x
    · rw [if_pos h2, if_pos h2]
    · rw [if_neg h2, if_neg h2]
theorem wI_01 (x a b : Int32) : (wI x a b = 0 ∨ wI x a b = 1) = True := by
  unfold wI
  by_cases h1 : x < a
  · simp [h1]
  · by_cases h2 : b < x <;> simp [h1, h2]
theorem l64 (x : Int32) : x.toInt64.toInt = x.toInt := Int32.toInt_toInt64 x
theorem isIn_e (σ : Sg) (x : Int32) (a b : Int64) (a' b' : Int32) (ha : a = a'.toInt64) (hb : b = b'.toInt64) : s_X11_isIn σ x.toInt64 a b = some (wI x a' b', σ) := by
  subst ha hb
  unfold s_X11_isIn wI
  simp only [lg_cmp_lt, lg_cmp_gt, Int64.lt_iff_toInt_lt, l64]
  simp only [lt_t]
  by_cases h1 : x.toInt < a'.toInt
  · rw [if_pos h1, if_pos h1]
  · rw [if_neg h1, if_neg h1]
    by_cases h2 : b'.toInt < x.toInt
    · rw [if_pos h2, if_pos h2]
    · rw [if_neg h2, if_neg h2]
theorem isIn_0_5 (σ : Sg) (x : Int32) : s_X11_isIn σ x.toInt64 0 5 = some (wI x 0 5, σ) := isIn_e σ x 0 5 0 5 (by decide) (by decide)
theorem isIn_1_30 (σ : Sg) (x : Int32) : s_X11_isIn σ x.toInt64 1 30 = some (wI x 1 30, σ) := isIn_e σ x 1 30 1 30 (by decide) (by decide)
theorem isIn_0_99 (σ : Sg) (x : Int32) : s_X11_isIn σ x.toInt64 0 99 = some (wI x 0 99, σ) := isIn_e σ x 0 99 0 99 (by decide) (by decide)
theorem isIn_0_4 (σ : Sg) (x : Int32) : s_X11_isIn σ x.toInt64 0 4 = some (wI x 0 4, σ) := isIn_e σ x 0 4 0 4 (by decide) (by decide)
theorem isIn_0_255 (σ : Sg) (x : Int32) : s_X11_isIn σ x.toInt64 0 255 = some (wI x 0 255, σ) := isIn_e σ x 0 255 0 255 (by decide) (by decide)
theorem isIn_1_9 (σ : Sg) (x : Int32) : s_X11_isIn σ x.toInt64 1 9 = some (wI x 1 9, σ) := isIn_e σ x 1 9 1 9 (by decide) (by decide)
theorem isIn_0_2 (σ : Sg) (x : Int32) : s_X11_isIn σ x.toInt64 0 2 = some (wI x 0 2, σ) := isIn_e σ x 0 2 0 2 (by decide) (by decide)
theorem isIn_0_1 (σ : Sg) (x : Int32) : s_X11_isIn σ x.toInt64 0 1 = some (wI x 0 1, σ) := isIn_e σ x 0 1 0 1 (by decide) (by decide)
theorem isIn_0_3 (σ : Sg) (x : Int32) : s_X11_isIn σ x.toInt64 0 3 = some (wI x 0 3, σ) := isIn_e σ x 0 3 0 3 (by decide) (by decide)
theorem isIn_1_200 (σ : Sg) (x : Int32) : s_X11_isIn σ x.toInt64 1 200 = some (wI x 1 200, σ) := isIn_e σ x 1 200 1 200 (by decide) (by decide)
theorem isIn_0_9999 (σ : Sg) (x : Int32) : s_X11_isIn σ x.toInt64 0 9999 = some (wI x 0 9999, σ) := isIn_e σ x 0 9999 0 9999 (by decide) (by decide)
theorem isIn_m1_2 (σ : Sg) (x : Int32) : s_X11_isIn σ x.toInt64 (-1) 2 = some (wI x (-1) 2, σ) := isIn_e σ x (-1) 2 (-1) 2 (by decide) (by decide)
theorem isIn_97_122 (σ : Sg) (x : Int32) : s_X11_isIn σ x.toInt64 97 122 = some (wI x 97 122, σ) := isIn_e σ x 97 122 97 122 (by decide) (by decide)
theorem isIn_48_57 (σ : Sg) (x : Int32) : s_X11_isIn σ x.toInt64 48 57 = some (wI x 48 57, σ) := isIn_e σ x 48 57 48 57 (by decide) (by decide)
theorem isIn_1_60 (σ : Sg) (x : Int32) : s_X11_isIn σ x.toInt64 1 60 = some (wI x 1 60, σ) := isIn_e σ x 1 60 1 60 (by decide) (by decide)
theorem isIn_0y (σ : Sg) (x y : Int32) : s_X11_isIn σ x.toInt64 0 y.toInt64 = some (wI x 0 y, σ) := isIn_e σ x 0 _ 0 y (by decide) rfl
theorem isIn_1y (σ : Sg) (x y : Int32) : s_X11_isIn σ x.toInt64 1 y.toInt64 = some (wI x 1 y, σ) := isIn_e σ x 1 _ 1 y (by decide) rfl
theorem least_e (σ : Sg) (x y : Int32) : s_X11_least σ x y = some (mn x y, σ) := by
  unfold s_X11_least; rw [← mn_le]; split <;> rfl
theorem most_e (σ : Sg) (x y : Int32) : s_X11_most σ x y = some (mx x y, σ) := by
  unfold s_X11_most; rw [← mx_le]; split <;> rfl
/- memory -/
def ua (f : Nat → Int32) (k : Nat) (v : Int32) : Nat → Int32 := fun j => if j = k then v else f j
theorem ua_s {f : Nat → Int32} {k : Nat} {v : Int32} : ua f k v k = v := by simp [ua]
theorem ua_n {f : Nat → Int32} {k j : Nat} {v : Int32} (h : j ≠ k) : ua f k v j = f j := by simp [ua, h]
theorem up_f (σ : Sg) (c k : Nat) (v : Int32) : up σ c k v c = ua (σ c) k v := by funext j; simp [up, ua]
theorem up_d {σ : Sg} {c k d : Nat} {v : Int32} (h : d ≠ c) : up σ c k v d = σ d := by funext j; simp [up, h]
def ub (f g : Nat → Int32) (sp dp n : Nat) : Nat → Int32 := fun j => if dp ≤ j ∧ j < dp + n then f (sp + (j - dp)) else g j
theorem cpy_f (σ : Sg) (c d sp dp n : Nat) : cpy σ c d sp dp n d = ub (σ c) (σ d) sp dp n := by funext j; simp [cpy, ub]
theorem cpy_d {σ : Sg} {c d sp dp n e : Nat} (h : e ≠ d) : cpy σ c d sp dp n e = σ e := by funext j; simp [cpy, h]
theorem ub0 {f g : Nat → Int32} {n j : Nat} (h : j < n) : ub f g 0 0 n j = f j := by simp [ub, h]
theorem lt_e {α β : Type} (v : α) (b : α → β) : lt v b = b v := Eq.trans rfl rfl
theorem ifT {α : Type} {c : Prop} {dc : Decidable c} {a b : α} (h : c) : @ite α c dc a b = a := if_pos h
theorem ifF {α : Type} {c : Prop} {dc : Decidable c} {a b : α} (h : ¬ c) : @ite α c dc a b = b := if_neg h
theorem inb_n {i n : Nat} (h : i < n) (hn : n < 2 ^ 31) : (inb (nI i) n = true) = True := by rw [inb_nI h hn]; simp
/-- all cells in a stretch are as they were -/
def same (σ τ : Sg) (lo hi : Nat) : Prop := ∀ c, lo ≤ c → c < hi → τ c = σ c
/-- small numbers -/
def sm (N : Nat) (v : Int32) : Prop := ∃ t, t ≤ N ∧ v = nI t
theorem sm_k {N t : Nat} (h : t ≤ N) : sm N (nI t) := ⟨t, h, rfl⟩
theorem sm_w {N M : Nat} {v : Int32} (h : sm N v) (hm : N ≤ M) : sm M v := by
  obtain ⟨t, ht, e⟩ := h; exact ⟨t, by omega, e⟩
theorem sm_add {N M : Nat} {v w : Int32} (h : sm N v) (h2 : sm M w) : sm (N + M) (v + w) := by
  obtain ⟨t, ht, rfl⟩ := h; obtain ⟨u, hu, rfl⟩ := h2; exact ⟨t + u, by omega, nI_add t u⟩
theorem sm_mul {N M : Nat} {v w : Int32} (h : sm N v) (h2 : sm M w) : sm (N * M) (v * w) := by
  obtain ⟨t, ht, rfl⟩ := h; obtain ⟨u, hu, rfl⟩ := h2; exact ⟨t * u, Nat.mul_le_mul ht hu, pk_mul t u⟩
theorem sm_mx {N M : Nat} {v w : Int32} (h : sm N v) (h2 : sm M w) (hN : N < 2 ^ 31) (hM : M < 2 ^ 31) : sm (max N M) (mx v w) := by
  obtain ⟨t, ht, rfl⟩ := h; obtain ⟨u, hu, rfl⟩ := h2
  rw [mx_nI (by omega) (by omega)]; exact ⟨max t u, by omega, rfl⟩
theorem sm_0 {N : Nat} : sm N 0 := ⟨0, by omega, rfl⟩
theorem sm_ge {N : Nat} {v : Int32} (h : sm N v) (hN : N < 2 ^ 31) : 0 ≤ v := by
  obtain ⟨t, ht, rfl⟩ := h; exact nI_pos' (by omega)
theorem sm_le {N M : Nat} {v : Int32} (h : sm N v) (hN : N ≤ M) (hM : M < 2 ^ 31) : v ≤ nI M := by
  obtain ⟨t, ht, rfl⟩ := h; exact nI_le (by omega) hM
