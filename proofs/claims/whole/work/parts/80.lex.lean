/- words of a text, as both readers see them: 0 the end, 1 letters, 2 digits, 3 a sign, 4 a word right behind a word -/
def sk3 (b : Int32) : Nat := if b < 97 then (if b < 48 then 3 else if 57 < b then 3 else 2) else if 122 < b then (if b < 48 then 3 else if 57 < b then 3 else 2) else 1
def skp (B : Nat → Int32) (len : Nat) : Nat → Nat → Nat
  | 0, p => p
  | f + 1, p => if p < len ∧ B p = 32 then skp B len f (p + 1) else p
def scn (B : Nat → Int32) (len k : Nat) : Nat → Nat → Nat
  | 0, p => p
  | f + 1, p => if p < len ∧ sk3 (B p) = k then scn B len k f (p + 1) else p
def lxs (B : Nat → Int32) (len p : Nat) : Nat := skp B len 100 p
def lxk (B : Nat → Int32) (len p : Nat) (w : Prop) [Decidable w] : Nat := if lxs B len p < len then (if sk3 (B (lxs B len p)) ≠ 3 ∧ w ∧ lxs B len p = p then 4 else sk3 (B (lxs B len p))) else 0
def lxe (B : Nat → Int32) (len p : Nat) : Nat := if lxs B len p < len then (if sk3 (B (lxs B len p)) = 3 then lxs B len p + 1 else scn B len (sk3 (B (lxs B len p))) 100 (lxs B len p + 1)) else len
theorem skp_b (B : Nat → Int32) (len : Nat) : ∀ f p, p ≤ len → p ≤ skp B len f p ∧ skp B len f p ≤ len := by
  intro f
  induction f with
  | zero => intro p hp; exact ⟨Nat.le_refl _, hp⟩
  | succ f ih =>
    intro p hp
    unfold skp
    split
    · rename_i h
      have := ih (p + 1) (by omega)
      omega
    · omega
theorem scn_b (B : Nat → Int32) (len k : Nat) : ∀ f p, p ≤ len → p ≤ scn B len k f p ∧ scn B len k f p ≤ len := by
  intro f
  induction f with
  | zero => intro p hp; exact ⟨Nat.le_refl _, hp⟩
  | succ f ih =>
    intro p hp
    unfold scn
    split
    · rename_i h
      have := ih (p + 1) (by omega)
      omega
    · omega
theorem scn_a (B : Nat → Int32) (len k : Nat) : ∀ f p i, p ≤ i → i < scn B len k f p → sk3 (B i) = k := by
  intro f
  induction f with
  | zero => intro p i h1 h2; unfold scn at h2; omega
  | succ f ih =>
    intro p i h1 h2
    unfold scn at h2
    split at h2
    · rename_i h
      by_cases c : i = p
      · subst c; exact h.2
      · exact ih (p + 1) i (by omega) h2
    · omega
theorem sk3_r (b : Int32) : sk3 b = 1 ∨ sk3 b = 2 ∨ sk3 b = 3 := by
  unfold sk3; repeat' split
  all_goals simp
theorem lx_b {B : Nat → Int32} {len p : Nat} (hp : p ≤ len) : p ≤ lxs B len p ∧ lxs B len p ≤ len ∧ lxs B len p ≤ lxe B len p ∧ lxe B len p ≤ len ∧ (lxs B len p < len → lxs B len p < lxe B len p) := by
  have h1 := skp_b B len 100 p hp
  unfold lxe lxs
  have h2 := scn_b B len (sk3 (B (skp B len 100 p))) 100 (skp B len 100 p + 1)
  split
  · rename_i h
    split
    · omega
    · have := h2 (by omega); omega
  · omega
theorem lxk_0 {B : Nat → Int32} {len p : Nat} {w : Prop} [Decidable w] : lxk B len p w = 0 ↔ ¬ lxs B len p < len := by
  unfold lxk
  have := sk3_r (B (lxs B len p))
  by_cases c : lxs B len p < len
  · rw [if_pos c]
    constructor
    · intro h; split at h <;> omega
    · intro h; exact absurd c h
  · rw [if_neg c]; simp [c]
theorem lxk_le {B : Nat → Int32} {len p : Nat} {w : Prop} [Decidable w] : lxk B len p w ≤ 4 := by
  unfold lxk
  have := sk3_r (B (lxs B len p))
  repeat' split
  all_goals omega
/- the program's reader -/
def CB (τ : Sg) (B : Nat → Int32) (len : Nat) : Prop := τ 114 1 = nI len ∧ len ≤ 96 ∧ ∀ i, i < len → τ 115 i = B i ∧ sm 255 (B i)
def tkC (B : Nat → Int32) (k s : Nat) : Int32 := if k = 0 then -1 else if k = 1 then -2 else if k = 2 then -3 else if k = 4 then -4 else B s
def CTk (τ : Sg) (B : Nat → Int32) (s e k : Nat) : Prop := τ 114 3 = nI s ∧ τ 114 4 = nI e ∧ τ 114 5 = tkC B k s
theorem sm_ne {v : Int32} (h : sm 255 v) : v ≠ -1 ∧ v ≠ -2 ∧ v ≠ -3 ∧ v ≠ -4 := by
  have h0 := sm_ge h (by omega)
  refine ⟨?_, ?_, ?_, ?_⟩ <;> intro e <;> rw [e] at h0 <;> exact absurd h0 (by decide)
section tk
variable {B : Nat → Int32} {k s : Nat}
theorem tk_2 (hk : k ≤ 4) (h : k = 3 → sm 255 (B s)) : (tkC B k s = -2) = (k = 1) := by
  have : k = 0 ∨ k = 1 ∨ k = 2 ∨ k = 3 ∨ k = 4 := by omega
  rcases this with rfl | rfl | rfl | rfl | rfl <;> simp [tkC]
  exact (sm_ne (h rfl)).2.1
theorem tk_3 (hk : k ≤ 4) (h : k = 3 → sm 255 (B s)) : (tkC B k s = -3) = (k = 2) := by
  have : k = 0 ∨ k = 1 ∨ k = 2 ∨ k = 3 ∨ k = 4 := by omega
  rcases this with rfl | rfl | rfl | rfl | rfl <;> simp [tkC]
  exact (sm_ne (h rfl)).2.2.1
theorem tk_1 (hk : k ≤ 4) (h : k = 3 → sm 255 (B s)) : (tkC B k s = -1) = (k = 0) := by
  have : k = 0 ∨ k = 1 ∨ k = 2 ∨ k = 3 ∨ k = 4 := by omega
  rcases this with rfl | rfl | rfl | rfl | rfl <;> simp [tkC]
  exact (sm_ne (h rfl)).1
end tk
theorem sort_e (σ : Sg) (b : Int32) : s_X3_sortOf σ b = some (if sk3 b = 1 then -2 else if sk3 b = 2 then -3 else b, σ) := by
  unfold s_X3_sortOf s_X3_sortOf_15 sk3
  by_cases c1 : b < 97
  · by_cases c2 : b < 48
    · simp [c1, c2]
    · by_cases c3 : 57 < b <;> simp [c1, c2, c3]
  · by_cases c4 : 122 < b
    · by_cases c2 : b < 48
      · simp [c1, c2, c4]
      · by_cases c3 : 57 < b <;> simp [c1, c2, c3, c4]
    · simp [c1, c4]
theorem up_up (σ : Sg) (c k : Nat) (v w : Int32) : up (up σ c k v) c k w = up σ c k w := by
  funext d j
  unfold up
  split
  · split <;> rfl
  · rfl
section adv
variable {τ : Sg} {B : Nat → Int32} {len : Nat}
theorem adv32 (hc : CB τ B len) (x : Int32) : ∀ f p m, p ≤ len → len - p ≤ f → f < m → s_X3_advance_32 m (up τ 114 3 (nI p)) x = s_X3_advance_70 (up τ 114 3 (nI (skp B len f p))) x := by
  obtain ⟨c1, c2, c3⟩ := hc
  intro f
  induction f with
  | zero =>
    intro p m hp hf hm
    obtain ⟨m', rfl⟩ : ∃ m', m = m' + 1 := ⟨m - 1, by omega⟩
    have g1 : up τ 114 3 (nI p) 114 1 = nI len := by rw [up_f, ua_n (by omega), c1]
    have g3 : up τ 114 3 (nI p) 114 3 = nI p := by rw [up_f, ua_s]
    simp only [s_X3_advance_32]
    simp (disch := omega) only [g1, g3, le_T, ↓reduceIte, skp]
  | succ f ih =>
    intro p m hp hf hm
    obtain ⟨m', rfl⟩ : ∃ m', m = m' + 1 := ⟨m - 1, by omega⟩
    have g1 : up τ 114 3 (nI p) 114 1 = nI len := by rw [up_f, ua_n (by omega), c1]
    have g3 : up τ 114 3 (nI p) 114 3 = nI p := by rw [up_f, ua_s]
    have g5 : up τ 114 3 (nI p) 115 = τ 115 := up_d (by omega)
    simp only [s_X3_advance_32]
    by_cases c : p < len
    · by_cases c32 : B p = 32
      · simp (disch := omega) only [g1, g3, le_F, ↓reduceIte, inb_n, cl_nI, g5, (c3 p c).1, c32, lt_e, up_up, nI_1]
        rw [ih (p + 1) m' (by omega) (by omega) (by omega)]
        rw [show skp B len (f + 1) p = skp B len f (p + 1) by unfold skp; rw [if_pos ⟨c, c32⟩]; cases f <;> rfl]
      · simp (disch := omega) only [g1, g3, le_F, ↓reduceIte, inb_n, cl_nI, g5, (c3 p c).1, c32]
        rw [show skp B len (f + 1) p = p by unfold skp; rw [if_neg (fun h => c32 h.2)]]
    · simp (disch := omega) only [g1, g3, le_T, ↓reduceIte]
      rw [show skp B len (f + 1) p = p by unfold skp; rw [if_neg (fun h => c h.1)]]
theorem adv165 (hc : CB τ B len) {k : Nat} (hk : k = 1 ∨ k = 2) {x : Int32} (hx : x = if k = 1 then -2 else -3) : ∀ f p m, p ≤ len → len - p ≤ f → f < m → s_X3_advance_165 m (up τ 114 4 (nI p)) x 1 = some (0, up τ 114 4 (nI (scn B len k f p))) := by
  obtain ⟨c1, c2, c3⟩ := hc
  intro f
  induction f with
  | zero =>
    intro p m hp hf hm
    obtain ⟨m', rfl⟩ : ∃ m', m = m' + 1 := ⟨m - 1, by omega⟩
    have g1 : up τ 114 4 (nI p) 114 1 = nI len := by rw [up_f, ua_n (by omega), c1]
    have g3 : up τ 114 4 (nI p) 114 4 = nI p := by rw [up_f, ua_s]
    simp only [s_X3_advance_165]
    simp (disch := omega) only [g1, g3, le_T, ↓reduceIte, scn, show ¬ (1 : Int32) = 0 by decide]
  | succ f ih =>
    intro p m hp hf hm
    obtain ⟨m', rfl⟩ : ∃ m', m = m' + 1 := ⟨m - 1, by omega⟩
    have g1 : up τ 114 4 (nI p) 114 1 = nI len := by rw [up_f, ua_n (by omega), c1]
    have g3 : up τ 114 4 (nI p) 114 4 = nI p := by rw [up_f, ua_s]
    have g5 : up τ 114 4 (nI p) 115 = τ 115 := up_d (by omega)
    simp only [s_X3_advance_165]
    by_cases c : p < len
    · obtain ⟨n1, n2, n3, n4⟩ := sm_ne (c3 p c).2
      have key : ((if sk3 (B p) = 1 then (-2 : Int32) else if sk3 (B p) = 2 then -3 else B p) = x) = (sk3 (B p) = k) := by
        rw [hx]
        rcases sk3_r (B p) with e | e | e <;> rcases hk with rfl | rfl <;> simp [e, n2, n3]
      by_cases c32 : sk3 (B p) = k
      · have kt : ((if sk3 (B p) = 1 then (-2 : Int32) else if sk3 (B p) = 2 then -3 else B p) = x) = True := by rw [key]; simp [c32]
        simp (disch := omega) only [g1, g3, le_F, ↓reduceIte, inb_n, cl_nI, g5, (c3 p c).1, sort_e, bn_some, kt, lt_e, up_up, nI_1, show ¬ (1 : Int32) = 0 by decide]
        rw [ih (p + 1) m' (by omega) (by omega) (by omega)]
        rw [show scn B len k (f + 1) p = scn B len k f (p + 1) by unfold scn; rw [if_pos ⟨c, c32⟩]; cases f <;> rfl]
      · have kt : ((if sk3 (B p) = 1 then (-2 : Int32) else if sk3 (B p) = 2 then -3 else B p) = x) = False := by rw [key]; simp [c32]
        simp (disch := omega) only [g1, g3, le_F, ↓reduceIte, inb_n, cl_nI, g5, (c3 p c).1, sort_e, bn_some, kt, show ¬ (1 : Int32) = 0 by decide]
        rw [show scn B len k (f + 1) p = p by unfold scn; rw [if_neg (fun h => c32 h.2)]]
    · simp (disch := omega) only [g1, g3, le_T, ↓reduceIte, show ¬ (1 : Int32) = 0 by decide]
      rw [show scn B len k (f + 1) p = p by unfold scn; rw [if_neg (fun h => c h.1)]]
def FA (τ ρ : Sg) : Prop := (∀ c, c ≠ 114 → ρ c = τ c) ∧ ∀ j, j ≠ 3 → j ≠ 4 → j ≠ 5 → ρ 114 j = τ 114 j
theorem adv70 (hc : CB τ B len) {p : Nat} (hp : p ≤ len) {w : Prop} [Decidable w] {x : Int32} (hx : x = if w then 1 else 0) (h4 : τ 114 4 = nI p) : Gv (s_X3_advance_70 (up τ 114 3 (nI (lxs B len p))) x) (fun _ ρ => CTk ρ B (lxs B len p) (lxe B len p) (lxk B len p w) ∧ FA τ ρ) := by
  have hc0 := hc
  obtain ⟨c1, c2, c3⟩ := hc
  have hb := lx_b (B := B) hp
  unfold s_X3_advance_70
  generalize hs : lxs B len p = s at hb
  have g1 : up τ 114 3 (nI s) 114 1 = nI len := by rw [up_f, ua_n (by omega), c1]
  have g3 : up τ 114 3 (nI s) 114 3 = nI s := by rw [up_f, ua_s]
  have g4 : up τ 114 3 (nI s) 114 4 = nI p := by rw [up_f, ua_n (by omega), h4]
  have g5 : up τ 114 3 (nI s) 115 = τ 115 := up_d (by omega)
  by_cases c : s < len
  · have hB := (c3 s c).2
    simp (disch := omega) only [g1, g3, lt_T, ↓reduceIte, inb_n, cl_nI, g5, (c3 s c).1, sort_e, bn_some]
    obtain ⟨n1, n2, n3, n4⟩ := sm_ne hB
    have CBu : ∀ t, CB (up (up τ 114 3 (nI s)) 114 5 t) B len := fun t => ⟨by rw [up_f, ua_n (by omega), up_f, ua_n (by omega), c1], c2, fun i hi => by rw [up_d (by omega), up_d (by omega)]; exact c3 i hi⟩
    have ees : sk3 (B s) = 1 ∨ sk3 (B s) = 2 → ∀ t, t = tkC B (lxk B len p w) s → Gv (s_X3_advance_165 FU (up (up (up τ 114 3 (nI s)) 114 5 t) 114 4 (nI (s + 1))) (if sk3 (B s) = 1 then -2 else -3) 1) (fun _ ρ => CTk ρ B s (lxe B len p) (lxk B len p w) ∧ FA τ ρ) := by
      intro hk t ht
      rw [adv165 (CBu t) hk rfl 100 (s + 1) FU (by omega) (by omega) (by decide)]
      refine gv_i ⟨⟨?_, ?_, ?_⟩, ?_, ?_⟩
      · rw [up_f, ua_n (by omega), up_f, ua_n (by omega), up_f, ua_s]
      · rw [up_f, ua_s]
        unfold lxe; rw [hs, if_pos c, if_neg (by omega)]
      · rw [up_f, ua_n (by omega), up_f, ua_s, ht]
      · intro d hd; rw [up_d hd, up_d hd, up_d hd]
      · intro j j1 j2 j3; rw [up_f, ua_n j2, up_f, ua_n j3, up_f, ua_n j1]
    have f1 : ∀ t, up (up τ 114 3 (nI s)) 114 5 t 114 3 = nI s := fun t => by rw [up_f, ua_n (by omega), g3]
    unfold s_X3_advance_125 s_X3_advance_151
    rcases sk3_r (B s) with e | e | e
    · simp only [e, ↓reduceIte, show ¬ (1 : Int32) = 0 by decide, lt_e, g3, g4, f1, nI_1]
      by_cases cw : w
      · have hx1 : x = 1 := by rw [hx, if_pos cw]
        by_cases cs : s = p
        · have ek : lxk B len p w = 4 := by unfold lxk; rw [hs, if_pos c, if_pos ⟨by omega, cw, cs⟩]
          simp only [hx1, ↓reduceIte, show ¬ (1 : Int32) = 0 by decide, cs]
          have := ees (.inl e) (-4) (by rw [ek]; rfl)
          rw [e] at this
          rw [cs] at this
          exact this
        · have ek : lxk B len p w = 1 := by unfold lxk; rw [hs, if_pos c, if_neg (fun h => cs h.2.2), e]
          have ne : (nI s = nI p) = False := by rw [ieq (by omega) (by omega)]; simp [cs]
          simp only [hx1, ↓reduceIte, show ¬ (1 : Int32) = 0 by decide, ne]
          have := ees (.inl e) (-2) (by rw [ek]; rfl)
          rw [e] at this
          exact this
      · have ek : lxk B len p w = 1 := by unfold lxk; rw [hs, if_pos c, if_neg (fun h => cw h.2.1), e]
        have hx1 : x = 0 := by rw [hx, if_neg cw]
        simp only [hx1, ↓reduceIte]
        have := ees (.inl e) (-2) (by rw [ek]; rfl)
        rw [e] at this
        exact this
    · simp only [e, ↓reduceIte, show ¬ (1 : Int32) = 0 by decide, show ¬ (-3 : Int32) = -2 by decide, show ¬ 2 = 1 by decide, lt_e, g3, g4, f1, nI_1]
      by_cases cw : w
      · have hx1 : x = 1 := by rw [hx, if_pos cw]
        by_cases cs : s = p
        · have ek : lxk B len p w = 4 := by unfold lxk; rw [hs, if_pos c, if_pos ⟨by omega, cw, cs⟩]
          simp only [hx1, ↓reduceIte, show ¬ (1 : Int32) = 0 by decide, cs]
          have := ees (.inr e) (-4) (by rw [ek]; rfl)
          rw [e] at this
          rw [cs] at this
          exact this
        · have ek : lxk B len p w = 2 := by unfold lxk; rw [hs, if_pos c, if_neg (fun h => cs h.2.2), e]
          have ne : (nI s = nI p) = False := by rw [ieq (by omega) (by omega)]; simp [cs]
          simp only [hx1, ↓reduceIte, show ¬ (1 : Int32) = 0 by decide, ne]
          have := ees (.inr e) (-3) (by rw [ek]; rfl)
          rw [e] at this
          exact this
      · have ek : lxk B len p w = 2 := by unfold lxk; rw [hs, if_pos c, if_neg (fun h => cw h.2.1), e]
        have hx1 : x = 0 := by rw [hx, if_neg cw]
        simp only [hx1, ↓reduceIte]
        have := ees (.inr e) (-3) (by rw [ek]; rfl)
        rw [e] at this
        exact this
    · have ek : lxk B len p w = 3 := by unfold lxk; rw [hs, if_pos c, if_neg (fun h => h.1 e), e]
      simp only [e, ↓reduceIte, show ¬ 3 = 1 by decide, show ¬ 3 = 2 by decide, n2, n3, lt_e, f1, nI_1, s_X3_advance_165, FU]
      refine gv_i ⟨⟨?_, ?_, ?_⟩, ?_, ?_⟩
      · rw [up_f, ua_n (by omega), f1]
      · rw [up_f, ua_s]
        unfold lxe; rw [hs, if_pos c, if_pos e]
      · rw [up_f, ua_n (by omega), up_f, ua_s, ek]; rfl
      · intro d hd; rw [up_d hd, up_d hd, up_d hd]
      · intro j j1 j2 j3; rw [up_f, ua_n j2, up_f, ua_n j3, up_f, ua_n j1]
  · have el : s = len := by omega
    have ek : lxk B len p w = 0 := lxk_0.mpr (by rw [hs]; exact c)
    have ee : lxe B len p = len := by unfold lxe; rw [hs, if_neg c]
    simp (disch := omega) only [g1, g3, lt_F, ↓reduceIte, lt_e]
    refine gv_i ⟨⟨?_, ?_, ?_⟩, ?_, ?_⟩
    · rw [up_f, ua_n (by omega), up_f, ua_n (by omega), g3]
    · rw [up_f, ua_s, up_f, ua_n (by omega), g1, ee]
    · rw [up_f, ua_n (by omega), up_f, ua_s, ek]; rfl
    · intro d hd; rw [up_d hd, up_d hd, up_d hd]
    · intro j j1 j2 j3; rw [up_f, ua_n j2, up_f, ua_n j3, up_f, ua_n j1]
theorem x3_advance (hc : CB τ B len) {s e k : Nat} (ht : CTk τ B s e k) (he : e ≤ len) (hk : k ≤ 4) (h3 : k = 3 → s < len) : Gv (s_X3_advance τ) (fun _ ρ => CTk ρ B (lxs B len e) (lxe B len e) (lxk B len e (k = 1 ∨ k = 2)) ∧ FA τ ρ) := by
  obtain ⟨t3, t4, t5⟩ := ht
  have hs : k = 3 → sm 255 (B s) := fun h => (hc.2.2 s (h3 h)).2
  unfold s_X3_advance
  simp only [t5, tk_2 hk hs, tk_3 hk hs, t4, lt_e]
  have key : ∀ x : Int32, (x = if k = 1 ∨ k = 2 then 1 else 0) → Gv (s_X3_advance_32 FU (up τ 114 3 (nI e)) x) (fun _ ρ => CTk ρ B (lxs B len e) (lxe B len e) (lxk B len e (k = 1 ∨ k = 2)) ∧ FA τ ρ) := by
    intro x hx
    rw [adv32 hc x 100 e FU he (by have := hc.2.1; omega) (by decide)]
    exact adv70 hc he hx t4
  by_cases c1 : k = 1
  · rw [if_pos c1]; exact key 1 (by simp [c1])
  · rw [if_neg c1]
    by_cases c2 : k = 2
    · rw [if_pos c2]; exact key 1 (by simp [c2])
    · rw [if_neg c2]; exact key 0 (by simp [c1, c2])
end adv
