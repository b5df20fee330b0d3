def MB (τ : Sg) (B : Nat → Int32) (len : Nat) : Prop := τ 150 23 = nI len ∧ len ≤ 96 ∧ ∀ i, i < len → τ 167 i = B i ∧ sm 255 (B i)
def tkM (k d : Nat) : Int32 := if k = 0 then 0 else if k = 1 then 1 else if k = 2 then (if d ≤ 4 then 2 else 4) else if k = 3 then 3 else 4
def nmA (B : Nat → Int32) (s n : Nat) : Int32 := itr (fun i v => v * 10 + (B (s + i) - 48)) n 0 0
def MTk (τ : Sg) (B : Nat → Int32) (s e k : Nat) : Prop := τ 150 24 = nI s ∧ τ 150 25 = nI e ∧ τ 150 26 = tkM k (e - s) ∧ (k = 1 → τ 150 28 = if e - s = 1 then B s else 0) ∧ (k = 3 → τ 150 28 = B s) ∧ (k = 2 → e - s ≤ 4 → τ 150 27 = nmA B s (e - s))
theorem wI_l (b : Int32) : wI b 97 122 = if sk3 b = 1 then 1 else 0 := by
  unfold wI sk3
  by_cases c1 : b < 97
  · simp only [c1, ↓reduceIte]; repeat' split
    all_goals simp_all
  · by_cases c2 : 122 < b
    · simp only [c1, c2, ↓reduceIte]; repeat' split
      all_goals simp_all
    · simp [c1, c2]
theorem i_lt {b : Int32} {a c : Int32} (h : a < b) (hc : c.toInt ≤ a.toInt) : c < b := by
  rw [lt_t] at h ⊢; omega
theorem wI_d (b : Int32) : wI b 48 57 = if sk3 b = 2 then 1 else 0 := by
  unfold wI sk3
  by_cases c1 : b < 97
  · by_cases c2 : b < 48
    · simp [c1, c2]
    · by_cases c3 : 57 < b <;> simp [c1, c2, c3]
  · have c4 : 57 < b := by
      have := lt_le.mp c1
      rw [le_t] at this; rw [lt_t]
      have e1 : (97 : Int32).toInt = 97 := by decide
      have e2 : (57 : Int32).toInt = 57 := by decide
      omega
    by_cases c2 : 122 < b
    · by_cases c5 : b < 48 <;> simp [c1, c2, c4, c5]
    · by_cases c5 : b < 48 <;> simp [c1, c2, c4, c5]
section mad
variable {τ : Sg} {B : Nat → Int32} {len : Nat}
theorem isLet_e (hc : MB τ B len) {p : Nat} (hp : p ≤ len) : s_X11_isLetter τ (nI p) = some (if p < len ∧ sk3 (B p) = 1 then 1 else 0, τ) := by
  obtain ⟨c1, c2, c3⟩ := hc
  unfold s_X11_isLetter
  by_cases c : p < len
  · simp (disch := omega) only [c1, le_F, ↓reduceIte, inb_n, cl_nI, (c3 p c).1, isIn_97_122, bn_some, wI_l]
    by_cases c4 : sk3 (B p) = 1 <;> simp [c, c4]
  · simp (disch := omega) only [c1, le_T, ↓reduceIte]
    simp [c]
theorem isDig_e (hc : MB τ B len) {p : Nat} (hp : p ≤ len) : s_X11_isDigit τ (nI p) = some (if p < len ∧ sk3 (B p) = 2 then 1 else 0, τ) := by
  obtain ⟨c1, c2, c3⟩ := hc
  unfold s_X11_isDigit
  by_cases c : p < len
  · simp (disch := omega) only [c1, le_F, ↓reduceIte, inb_n, cl_nI, (c3 p c).1, isIn_48_57, bn_some, wI_d]
    by_cases c4 : sk3 (B p) = 2 <;> simp [c, c4]
  · simp (disch := omega) only [c1, le_T, ↓reduceIte]
    simp [c]
theorem MB_u (hc : MB τ B len) {k : Nat} (hk : k ≠ 23) (v : Int32) : MB (up τ 150 k v) B len :=
  ⟨by rw [up_f, ua_n (fun h => hk h.symm)]; exact hc.1, hc.2.1, fun i hi => by rw [up_d (by omega)]; exact hc.2.2 i hi⟩
theorem nxt34 (hc : MB τ B len) (x y : Int32) : ∀ f p m, p ≤ len → len - p ≤ f → f < m → s_X11_next_34 m (up τ 150 25 (nI p)) x y = s_X11_next_72 (up τ 150 25 (nI (skp B len f p))) x y := by
  obtain ⟨c1, c2, c3⟩ := hc
  intro f
  induction f with
  | zero =>
    intro p m hp hf hm
    obtain ⟨m', rfl⟩ : ∃ m', m = m' + 1 := ⟨m - 1, by omega⟩
    have g1 : up τ 150 25 (nI p) 150 23 = nI len := by rw [up_f, ua_n (by omega), c1]
    have g3 : up τ 150 25 (nI p) 150 25 = nI p := by rw [up_f, ua_s]
    simp only [s_X11_next_34]
    simp (disch := omega) only [g1, g3, le_T, ↓reduceIte, skp]
  | succ f ih =>
    intro p m hp hf hm
    obtain ⟨m', rfl⟩ : ∃ m', m = m' + 1 := ⟨m - 1, by omega⟩
    have g1 : up τ 150 25 (nI p) 150 23 = nI len := by rw [up_f, ua_n (by omega), c1]
    have g3 : up τ 150 25 (nI p) 150 25 = nI p := by rw [up_f, ua_s]
    have g5 : up τ 150 25 (nI p) 167 = τ 167 := up_d (by omega)
    simp only [s_X11_next_34]
    by_cases c : p < len
    · by_cases c32 : B p = 32
      · simp (disch := omega) only [g1, g3, le_F, ↓reduceIte, inb_n, cl_nI, g5, (c3 p c).1, c32, lt_e, up_up, nI_1]
        rw [ih (p + 1) m' (by omega) (by omega) (by omega)]
        rw [show skp B len (f + 1) p = skp B len f (p + 1) by unfold skp; rw [if_pos ⟨c, c32⟩]; cases f <;> rfl]
      · simp (disch := omega) only [g1, g3, le_F, ↓reduceIte, inb_n, cl_nI, g5, (c3 p c).1, c32]
        rw [show skp B len (f + 1) p = p by unfold skp; rw [if_neg (fun h => c32 h.2)]]
    · simp (disch := omega) only [g1, g3, le_T, ↓reduceIte]
      rw [show skp B len (f + 1) p = p by unfold skp; rw [if_neg (fun h => c h.1)]]
theorem nxt128 (hc : MB τ B len) (x : Int32) : ∀ f p m, p ≤ len → len - p ≤ f → f < m → s_X11_next_128 m (up τ 150 25 (nI p)) x = if x = 0 then s_X11_next_162 (up τ 150 25 (nI (scn B len 1 f p))) 150 1 else s_X11_next_162 (up τ 150 25 (nI (scn B len 1 f p))) 150 4 := by
  intro f
  induction f with
  | zero =>
    intro p m hp hf hm
    obtain ⟨m', rfl⟩ : ∃ m', m = m' + 1 := ⟨m - 1, by omega⟩
    have g3 : up τ 150 25 (nI p) 150 25 = nI p := by rw [up_f, ua_s]
    have c : ¬ p < len := by omega
    simp only [s_X11_next_128, g3, isLet_e (MB_u (k := 25) hc (by omega) (nI p)) hp, bn_some, c, false_and, ↓reduceIte, scn]
  | succ f ih =>
    intro p m hp hf hm
    obtain ⟨m', rfl⟩ : ∃ m', m = m' + 1 := ⟨m - 1, by omega⟩
    have g3 : up τ 150 25 (nI p) 150 25 = nI p := by rw [up_f, ua_s]
    simp only [s_X11_next_128, g3, isLet_e (MB_u (k := 25) hc (by omega) (nI p)) hp, bn_some]
    by_cases c : p < len ∧ sk3 (B p) = 1
    · simp only [c, and_self, ↓reduceIte, show ¬ (1 : Int32) = 0 by decide, lt_e, up_up, nI_1, g3]
      rw [ih (p + 1) m' (by omega) (by omega) (by omega)]
      rw [show scn B len 1 (f + 1) p = scn B len 1 f (p + 1) by unfold scn; rw [if_pos c]; cases f <;> rfl]
    · simp only [c, ↓reduceIte]
      rw [show scn B len 1 (f + 1) p = p by unfold scn; rw [if_neg c]]
theorem num_r (v b : Int32) : 10 * v + b - 48 = v * 10 + (b - 48) := by
  rw [Int32.mul_comm, Int32.sub_eq_add_neg, Int32.sub_eq_add_neg, Int32.add_assoc]
theorem up_cm (σ : Sg) (c : Nat) {k j : Nat} (h : k ≠ j) (v w : Int32) : up (up σ c k v) c j w = up (up σ c j w) c k v := by
  funext d i
  unfold up
  by_cases hd : d = c
  · by_cases h1 : i = k
    · have : i ≠ j := fun e => h (h1.symm.trans e)
      simp [hd, h1, h]
    · by_cases h2 : i = j
      · subst h2; simp [hd, h1]
      · simp [hd, h1, h2]
  · simp [hd]
theorem nxt214 (hc : MB τ B len) {s : Nat} (h24 : τ 150 24 = nI s) (x : Int32) : ∀ f p m, s ≤ p → p ≤ len → len - p ≤ f → f < m → Gv (s_X11_next_214 m (up (up τ 150 27 (nmA B s (min (p - s) 4))) 150 25 (nI p)) x) (fun _ ρ => ρ = up (up (up τ 150 27 (nmA B s (min (scn B len 2 f p - s) 4))) 150 25 (nI (scn B len 2 f p))) 150 26 (if x = 0 ∧ scn B len 2 f p - s ≤ 4 then 2 else 4)) := by
  have fin : ∀ m' p, s ≤ p → p ≤ len → ¬ (p < len ∧ sk3 (B p) = 2) → Gv (s_X11_next_214 (m' + 1) (up (up τ 150 27 (nmA B s (min (p - s) 4))) 150 25 (nI p)) x) (fun _ ρ => ρ = up (up (up τ 150 27 (nmA B s (min (p - s) 4))) 150 25 (nI p)) 150 26 (if x = 0 ∧ p - s ≤ 4 then 2 else 4)) := by
    intro m' p hs hp c
    have hl := hc.2.1
    have g3 : up (up τ 150 27 (nmA B s (min (p - s) 4))) 150 25 (nI p) 150 25 = nI p := by rw [up_f, ua_s]
    have g4 : up (up τ 150 27 (nmA B s (min (p - s) 4))) 150 25 (nI p) 150 24 = nI s := by rw [up_f, ua_n (by omega), up_f, ua_n (by omega), h24]
    have e4 : (nI (p - s) ≤ 4) = (p - s ≤ 4) := propext (nI_leI (b := 4) (by omega) (by omega))
    simp only [s_X11_next_214, g3, g4, isDig_e (MB_u (k := 25) (MB_u (k := 27) hc (by omega) (nmA B s (min (p - s) 4))) (by omega) (nI p)) hp, bn_some, c, ↓reduceIte, pk_sub hs, e4, lt_e]
    by_cases cx : x = 0
    · by_cases c4 : p - s ≤ 4
      · simp only [cx, c4, ↓reduceIte, and_self]; exact gv_i rfl
      · simp only [cx, c4, ↓reduceIte, and_false]; exact gv_i rfl
    · simp only [cx, ↓reduceIte, false_and]; exact gv_i rfl
  intro f
  induction f with
  | zero =>
    intro p m hs hp hf hm
    obtain ⟨m', rfl⟩ : ∃ m', m = m' + 1 := ⟨m - 1, by omega⟩
    exact fin m' p hs hp (by omega)
  | succ f ih =>
    intro p m hs hp hf hm
    obtain ⟨m', rfl⟩ : ∃ m', m = m' + 1 := ⟨m - 1, by omega⟩
    by_cases c : p < len ∧ sk3 (B p) = 2
    · rw [show scn B len 2 (f + 1) p = scn B len 2 f (p + 1) by unfold scn; rw [if_pos c]; cases f <;> rfl]
      refine gv_e ?_ (ih (p + 1) m' (by omega) (by omega) (by omega) (by omega))
      have hl := hc.2.1
      have g3 : up (up τ 150 27 (nmA B s (min (p - s) 4))) 150 25 (nI p) 150 25 = nI p := by rw [up_f, ua_s]
      have g4 : up (up τ 150 27 (nmA B s (min (p - s) 4))) 150 25 (nI p) 150 24 = nI s := by rw [up_f, ua_n (by omega), up_f, ua_n (by omega), h24]
      have g7 : up (up τ 150 27 (nmA B s (min (p - s) 4))) 150 25 (nI p) 150 27 = nmA B s (min (p - s) 4) := by rw [up_f, ua_n (by omega), up_f, ua_s]
      have g6 : up (up τ 150 27 (nmA B s (min (p - s) 4))) 150 25 (nI p) 167 p = B p := by rw [up_d (by omega), up_d (by omega)]; exact (hc.2.2 p c.1).1
      have e4 : ((4 : Int32) ≤ nI (p - s)) = (4 ≤ p - s) := propext (nI_leI (a := 4) (by omega) (by omega))
      have u3 : ∀ v, up (up (up τ 150 27 (nmA B s (min (p - s) 4))) 150 25 (nI p)) 150 27 v 150 25 = nI p := fun v => by rw [up_f, ua_n (by omega), g3]
      simp (disch := omega) only [s_X11_next_214, g3, g4, isDig_e (MB_u (k := 25) (MB_u (k := 27) hc (by omega) (nmA B s (min (p - s) 4))) (by omega) (nI p)) hp, bn_some, c, and_self, ↓reduceIte, show ¬ (1 : Int32) = 0 by decide, pk_sub hs, e4, lt_e, g7, u3, inb_n, cl_nI, g6, num_r, nI_1]
      by_cases c4 : 4 ≤ p - s
      · simp only [c4, ↓reduceIte]
        rw [show min (p + 1 - s) 4 = min (p - s) 4 by omega]
        congr 1
        rw [up_cm _ _ (show 25 ≠ 27 by omega), up_up, up_up]
      · simp only [c4, ↓reduceIte]
        rw [show min (p + 1 - s) 4 = (p - s) + 1 by omega, show min (p - s) 4 = p - s by omega]
        congr 1
        rw [up_cm _ _ (show 25 ≠ 27 by omega), up_up, up_up]
        congr 2
        unfold nmA
        rw [itr_0, show s + (p - s) = p by omega]
    · rw [show scn B len 2 (f + 1) p = p by unfold scn; rw [if_neg c]]
      exact fin m' p hs hp c
def FN (τ ρ : Sg) : Prop := (∀ c, c ≠ 150 → ρ c = τ c) ∧ ∀ j, j ≠ 24 → j ≠ 25 → j ≠ 26 → j ≠ 27 → j ≠ 28 → ρ 150 j = τ 150 j
theorem scn_s {k p : Nat} (hp : p < len) (h : sk3 (B p) = k) (f : Nat) : scn B len k (f + 1) p = scn B len k f (p + 1) := by
  rw [show scn B len k (f + 1) p = if p < len ∧ sk3 (B p) = k then scn B len k f (p + 1) else p from rfl, if_pos ⟨hp, h⟩]
theorem scn_f {k : Nat} : ∀ f p, p ≤ len → len - p ≤ f → scn B len k (f + 1) p = scn B len k f p := by
  intro f
  induction f with
  | zero =>
    intro p hp hf
    show (if p < len ∧ sk3 (B p) = k then scn B len k 0 (p + 1) else p) = p
    rw [if_neg (by omega)]
  | succ f ih =>
    intro p hp hf
    show (if p < len ∧ sk3 (B p) = k then scn B len k (f + 1) (p + 1) else p) = (if p < len ∧ sk3 (B p) = k then scn B len k f (p + 1) else p)
    by_cases c : p < len ∧ sk3 (B p) = k
    · rw [if_pos c, if_pos c]; exact ih (p + 1) (by omega) (by omega)
    · rw [if_neg c, if_neg c]
theorem nxt89 (hc : MB τ B len) {p : Nat} (hp : p ≤ len) {w : Prop} [Decidable w] {t : Int32} (ht : t = if w ∧ lxs B len p = p then 1 else 0) : Gv (s_X11_next_89 (up τ 150 25 (nI (lxs B len p))) t) (fun _ ρ => MTk ρ B (lxs B len p) (lxe B len p) (lxk B len p w) ∧ FN τ ρ) := by
  have hc0 := hc
  obtain ⟨c1, c2, c3⟩ := hc
  have hb := lx_b (B := B) hp
  unfold s_X11_next_89
  generalize hs : lxs B len p = s at hb ht
  have g25 : up τ 150 25 (nI s) 150 25 = nI s := by rw [up_f, ua_s]
  have hM : MB (up (up τ 150 25 (nI s)) 150 24 (nI s)) B len := MB_u (MB_u hc0 (by omega) _) (by omega) _
  have g24 : up (up τ 150 25 (nI s)) 150 24 (nI s) 150 24 = nI s := by rw [up_f, ua_s]
  have g24' : up (up τ 150 25 (nI s)) 150 24 (nI s) 150 25 = nI s := by rw [up_f, ua_n (by omega), g25]
  have g23 : up (up τ 150 25 (nI s)) 150 24 (nI s) 150 23 = nI len := hM.1
  have esl : (nI s = nI len) = (s = len) := ieq (by omega) (by omega)
  simp only [g25, lt_e, g24, g23, esl]
  have frm : ∀ u : Sg, (∀ c, c ≠ 150 → u c = τ c) → (∀ j, j ≠ 24 → j ≠ 25 → j ≠ 26 → j ≠ 27 → j ≠ 28 → u 150 j = τ 150 j) → FN τ u := fun u a b => ⟨a, b⟩
  by_cases c : s = len
  · have ek : lxk B len p w = 0 := lxk_0.mpr (by rw [hs]; omega)
    have ee : lxe B len p = len := by unfold lxe; rw [hs, if_neg (by omega)]
    simp only [c, ↓reduceIte]
    rw [ek, ee]
    subst c
    refine gv_i ⟨⟨?_, ?_, ?_, fun h => absurd h (by omega), fun h => absurd h (by omega), fun h => absurd h (by omega)⟩, ?_, ?_⟩
    · rw [up_f, ua_n (by omega), g24]
    · rw [up_f, ua_n (by omega), g24']
    · rw [up_f, ua_s]; rfl
    · intro d hd; rw [up_d hd, up_d hd, up_d hd]
    · intro j j1 j2 j3 j4 j5; rw [up_f, ua_n j3, up_f, ua_n j1, up_f, ua_n j2]
  · have cl : s < len := by omega
    have hB := (c3 s cl).2
    simp only [c, ↓reduceIte, isLet_e hM hb.2.1, isDig_e hM hb.2.1, bn_some, cl, true_and, g24]
    rcases sk3_r (B s) with e | e | e
    · have ek : lxk B len p w = if w ∧ s = p then 4 else 1 := by
        unfold lxk; rw [hs, if_pos cl, e]
        by_cases q : w ∧ s = p
        · rw [if_pos q, if_pos ⟨by omega, q⟩]
        · rw [if_neg q, if_neg (fun h => q h.2)]
      have ee : lxe B len p = scn B len 1 100 (s + 1) := by unfold lxe; rw [hs, if_pos cl, if_neg (by omega), e]
      have key := nxt128 (τ := up τ 150 24 (nI s)) (MB_u hc0 (by omega) _) t 101 s FU (by omega) (by omega) (by decide)
      rw [up_cm _ _ (show 24 ≠ 25 by omega), scn_s cl e] at key
      simp only [e, ↓reduceIte, show ¬ (1 : Int32) = 0 by decide]
      rw [key, ee]
      have hb2 := scn_b B len 1 100 (s + 1) (by omega)
      generalize scn B len 1 100 (s + 1) = q at hb2
      have fin : ∀ kk : Nat, kk = (if w ∧ s = p then 4 else 1) → Gv (s_X11_next_162 (up (up τ 150 24 (nI s)) 150 25 (nI q)) 150 (nI kk)) (fun _ ρ => MTk ρ B s q (lxk B len p w) ∧ FN τ ρ) := by
        intro kk hkk
        rw [ek, ← hkk]
        have hk14 : kk = 1 ∨ kk = 4 := by rw [hkk]; split <;> simp
        unfold s_X11_next_162
        have a24 : up (up (up τ 150 24 (nI s)) 150 25 (nI q)) 150 26 (nI kk) 150 24 = nI s := by rw [up_f, ua_n (by omega), up_f, ua_n (by omega), up_f, ua_s]
        have a25 : up (up (up τ 150 24 (nI s)) 150 25 (nI q)) 150 26 (nI kk) 150 25 = nI q := by rw [up_f, ua_n (by omega), up_f, ua_s]
        have a26 : up (up (up τ 150 24 (nI s)) 150 25 (nI q)) 150 26 (nI kk) 150 26 = nI kk := by rw [up_f, ua_s]
        have a67 : up (up (up τ 150 24 (nI s)) 150 25 (nI q)) 150 26 (nI kk) 167 s = B s := by rw [up_d (by omega), up_d (by omega), up_d (by omega)]; exact (c3 s cl).1
        have e1 : (nI (q - s) = 1) = (q - s = 1) := ieq (b := 1) (by omega) (by omega)
        have etk : nI kk = tkM kk (q - s) := by rcases hk14 with h | h <;> rw [h] <;> rfl
        simp (disch := omega) only [lt_e, a24, a25, pk_sub (show s ≤ q by omega), e1, inb_n, cl_nI, ↓reduceIte, a67]
        by_cases c1 : q - s = 1
        · simp only [c1, ↓reduceIte]
          refine gv_i ⟨⟨?_, ?_, ?_, fun h => ?_, fun h => absurd h (by omega), fun h => absurd h (by omega)⟩, frm _ ?_ ?_⟩
          · rw [up_f, ua_n (by omega), a24]
          · rw [up_f, ua_n (by omega), a25]
          · rw [up_f, ua_n (by omega), a26, etk]
          · rw [up_f, ua_s, if_pos c1]
          · intro d hd; rw [up_d hd, up_d hd, up_d hd, up_d hd]
          · intro j j1 j2 j3 j4 j5; rw [up_f, ua_n j5, up_f, ua_n j3, up_f, ua_n j2, up_f, ua_n j1]
        · simp only [c1, ↓reduceIte]
          refine gv_i ⟨⟨?_, ?_, ?_, fun h => ?_, fun h => absurd h (by omega), fun h => absurd h (by omega)⟩, frm _ ?_ ?_⟩
          · rw [up_f, ua_n (by omega), a24]
          · rw [up_f, ua_n (by omega), a25]
          · rw [up_f, ua_n (by omega), a26, etk]
          · rw [up_f, ua_s, if_neg c1]
          · intro d hd; rw [up_d hd, up_d hd, up_d hd, up_d hd]
          · intro j j1 j2 j3 j4 j5; rw [up_f, ua_n j5, up_f, ua_n j3, up_f, ua_n j2, up_f, ua_n j1]
      by_cases cw : w ∧ s = p
      · have t1 : ¬ t = 0 := by rw [ht, if_pos cw]; decide
        rw [if_neg t1]
        exact fin 4 (by rw [if_pos cw])
      · have t1 : t = 0 := by rw [ht, if_neg cw]
        rw [if_pos t1]
        exact fin 1 (by rw [if_neg cw])
    · have ek : lxk B len p w = if w ∧ s = p then 4 else 2 := by
        unfold lxk; rw [hs, if_pos cl, e]
        by_cases q : w ∧ s = p
        · rw [if_pos q, if_pos ⟨by omega, q⟩]
        · rw [if_neg q, if_neg (fun h => q h.2)]
      have ee : lxe B len p = scn B len 2 100 (s + 1) := by unfold lxe; rw [hs, if_pos cl, if_neg (by omega), e]
      have key := nxt214 (τ := up (up τ 150 25 (nI s)) 150 24 (nI s)) hM g24 t 101 s FU (by omega) (by omega) (by omega) (by decide)
      rw [scn_s cl e] at key
      have e0 : up (up (up (up τ 150 25 (nI s)) 150 24 (nI s)) 150 27 (nmA B s (min (s - s) 4))) 150 25 (nI s) = up (up (up τ 150 25 (nI s)) 150 24 (nI s)) 150 27 0 := by
        rw [show min (s - s) 4 = 0 by omega, up_cm _ _ (show 27 ≠ 25 by omega), up_cm _ _ (show 24 ≠ 25 by omega), up_up]; rfl
      rw [e0] at key
      simp only [e, ↓reduceIte, show ¬ 2 = 1 by decide, show ¬ (1 : Int32) = 0 by decide]
      rw [ee]
      have hb2 := scn_b B len 2 100 (s + 1) (by omega)
      generalize scn B len 2 100 (s + 1) = q at hb2 key
      refine gv_w key ?_
      intro _ ρ hρ
      subst hρ
      have t1 : (t = 0) = ¬ (w ∧ s = p) := by
        rw [ht]; by_cases cw : w ∧ s = p <;> simp [cw]
      refine ⟨⟨?_, ?_, ?_, fun h => ?_, fun h => ?_, fun h h4 => ?_⟩, frm _ ?_ ?_⟩
      · rw [up_f, ua_n (by omega), up_f, ua_n (by omega), up_f, ua_n (by omega), g24]
      · rw [up_f, ua_n (by omega), up_f, ua_s]
      · rw [up_f, ua_s, ek]
        simp only [t1]
        by_cases cw : w ∧ s = p
        · rw [if_neg (fun h => h.1 cw), if_pos cw]; rfl
        · by_cases c4 : q - s ≤ 4
          · rw [if_pos ⟨cw, c4⟩, if_neg cw]; simp [tkM, c4]
          · rw [if_neg (fun h => c4 h.2), if_neg cw]; simp [tkM, c4]
      · rw [ek] at h; split at h <;> omega
      · rw [ek] at h; split at h <;> omega
      · rw [up_f, ua_n (by omega), up_f, ua_n (by omega), up_f, ua_s, Nat.min_eq_left h4]
      · intro d hd; rw [up_d hd, up_d hd, up_d hd, up_d hd, up_d hd]
      · intro j j1 j2 j3 j4 j5; rw [up_f, ua_n j3, up_f, ua_n j2, up_f, ua_n j4, up_f, ua_n j1, up_f, ua_n j2]
    · have ek : lxk B len p w = 3 := by unfold lxk; rw [hs, if_pos cl, if_neg (fun h => h.1 e), e]
      have ee : lxe B len p = s + 1 := by unfold lxe; rw [hs, if_pos cl, if_pos e]
      rw [ek, ee]
      have a24 : ∀ v, up (up (up τ 150 25 (nI s)) 150 24 (nI s)) 150 26 v 150 24 = nI s := fun v => by rw [up_f, ua_n (by omega), g24]
      have a67 : ∀ v, up (up (up τ 150 25 (nI s)) 150 24 (nI s)) 150 26 v 167 s = B s := fun v => by rw [up_d (by omega), up_d (by omega), up_d (by omega)]; exact (c3 s cl).1
      have a25 : ∀ v u, up (up (up (up τ 150 25 (nI s)) 150 24 (nI s)) 150 26 v) 150 28 u 150 25 = nI s := fun v u => by rw [up_f, ua_n (by omega), up_f, ua_n (by omega), g24']
      simp (disch := omega) only [e, ↓reduceIte, show ¬ 3 = 1 by decide, show ¬ 3 = 2 by decide, lt_e, a24, inb_n, cl_nI, a67, a25, nI_1]
      refine gv_i ⟨⟨?_, ?_, ?_, fun h => absurd h (by omega), fun h => ?_, fun h => absurd h (by omega)⟩, frm _ ?_ ?_⟩
      · rw [up_f, ua_n (by omega), up_f, ua_n (by omega), a24]
      · rw [up_f, ua_s]
      · rw [up_f, ua_n (by omega), up_f, ua_n (by omega), up_f, ua_s]; rfl
      · rw [up_f, ua_n (by omega), up_f, ua_s]
      · intro d hd; rw [up_d hd, up_d hd, up_d hd, up_d hd, up_d hd]
      · intro j j1 j2 j3 j4 j5; rw [up_f, ua_n j2, up_f, ua_n j5, up_f, ua_n j3, up_f, ua_n j1, up_f, ua_n j2]
theorem up_id {σ : Sg} {c k : Nat} {v : Int32} (h : σ c k = v) : up σ c k v = σ := by
  funext d j
  unfold up
  split
  · rename_i hd
    split
    · rename_i hj; rw [hd, hj, h]
    · rfl
  · rfl
theorem m_next (hc : MB τ B len) {s e k : Nat} (ht : MTk τ B s e k) (he : e ≤ len) (hk : k ≤ 4) (h0 : k = 1 ∨ k = 2 → 0 < e) (h2 : k = 2 → e - s ≤ 4) : Gv (s_X11_next τ) (fun _ ρ => MTk ρ B (lxs B len e) (lxe B len e) (lxk B len e (k = 1 ∨ k = 2)) ∧ FN τ ρ) := by
  obtain ⟨t4, t5, t6, _⟩ := ht
  have hl := hc.2.1
  unfold s_X11_next
  have e1 : (tkM k (e - s) = 1) = (k = 1) := by
    have : k = 0 ∨ k = 1 ∨ k = 2 ∨ k = 3 ∨ k = 4 := by omega
    rcases this with rfl | rfl | rfl | rfl | rfl <;> simp [tkM]
    split <;> simp
  have e2 : (tkM k (e - s) = 2) = (k = 2) := by
    have : k = 0 ∨ k = 1 ∨ k = 2 ∨ k = 3 ∨ k = 4 := by omega
    rcases this with rfl | rfl | rfl | rfl | rfl <;> simp [tkM]
    have := h2 rfl; omega
  have e0 : (nI e ≤ 0) = (e ≤ 0) := propext (nI_leI (b := 0) (by omega) (by omega))
  simp only [t5, t6, e0, e1, e2, lt_e]
  have key : ∀ x : Int32, (x = if k = 1 ∨ k = 2 then 1 else 0) → Gv (s_X11_next_34 FU τ x (nI e)) (fun _ ρ => MTk ρ B (lxs B len e) (lxe B len e) (lxk B len e (k = 1 ∨ k = 2)) ∧ FN τ ρ) := by
    intro x hx
    have a := nxt34 hc x (nI e) 100 e FU he (by omega) (by decide)
    rw [up_id t5] at a
    rw [a]
    have hb := lx_b (B := B) he
    unfold s_X11_next_72
    have g : up τ 150 25 (nI (skp B len 100 e)) 150 25 = nI (lxs B len e) := by rw [up_f, ua_s]; rfl
    rw [g]
    have es : (nI e = nI (lxs B len e)) = (lxs B len e = e) := by rw [ieq (by omega) (by omega)]; exact propext ⟨fun h => h.symm, fun h => h.symm⟩
    simp only [es]
    by_cases cw : k = 1 ∨ k = 2
    · have hx1 : ¬ x = 0 := by rw [hx, if_pos cw]; decide
      rw [if_neg hx1]
      by_cases cs : lxs B len e = e
      · rw [if_pos cs]; exact nxt89 hc he (by rw [if_pos ⟨cw, cs⟩])
      · rw [if_neg cs]; exact nxt89 hc he (by rw [if_neg (fun h => cs h.2)])
    · have hx1 : x = 0 := by rw [hx, if_neg cw]
      rw [if_pos hx1]; exact nxt89 hc he (by rw [if_neg (fun h => cw h.1)])
  by_cases c0 : e ≤ 0
  · rw [if_pos c0]; exact key 0 (by rw [if_neg (fun h => by have := h0 h; omega)])
  · rw [if_neg c0]
    by_cases c1 : k = 1
    · rw [if_pos c1]; exact key 1 (by simp [c1])
    · rw [if_neg c1]
      by_cases c2 : k = 2
      · rw [if_pos c2]; exact key 1 (by simp [c2])
      · rw [if_neg c2]; exact key 0 (by simp [c1, c2])
end mad
