theorem EX.go {ad : Nat → Nat} {B0 L : Nat} {xs : Nat → Int32} {s U : State} {H H1 : Heap} (h : EX ad B0 L xs s H) (hW : s.WarmedH U.vm) (hz : H.size ≤ H1.size) (hq : ∀ a : Nat, a < H.size → ¬ B0 ≤ a → H1[a]? = H[a]?) : EX ad B0 L xs U H1 := by
  obtain ⟨h1, h2, h3, ⟨h4, h5, h6⟩, ⟨adV, h7⟩, h8, h9⟩ := h
  have ha := hW.alike
  refine ⟨fun j hj => ⟨((h1 j hj).1.moved ha).kept hq, ((h1 j hj).2.moved ha).kept hq⟩, fun j hj => (h2 j hj).warm hW, ?_, ⟨(h4.moved ha).kept (hq _ h5 h6), Nat.lt_of_lt_of_le h5 hz, h6⟩, ⟨adV, (h7.moved ha).kept hq⟩, (h8.moved ha).kept hq, (h9.moved ha).kept hq⟩
  intro w hw
  have h3' := h3 w hw
  simp only [NW, List.mem_cons, List.not_mem_nil, or_false] at hw
  rcases hw with rfl | rfl | rfl | rfl
  · exact va_Nw.warmM hW h3'
  · exact va_Nw.warmM hW h3'
  · exact va_Nw.warmF hW h3'
  · exact va_Nw.warmF hW h3'
theorem kd_lt {c t : Nat} (h : kd c = t) (ht : t ≠ 0) (h1 : t ≤ 24) : c < 173 := by
  unfold kd at h
  by_cases hc : c < 173
  · exact hc
  · have : Nat.blt c 173 = false := by
      cases hb : Nat.blt c 173 with
      | false => rfl
      | true => exact absurd (by simpa [Nat.blt_eq] using hb) hc
    rw [this] at h
    simp only at h
    split at h
    · omega
    · split at h
      · omega
      · split at h <;> omega
theorem aln_w {L c : Nat} (h : c < 173) : aln L c = aln 0 c := by
  unfold aln
  have : Nat.blt c 173 = true := by simpa [Nat.blt_eq] using h
  rw [this]
theorem wsl_get {ad : Nat → Nat} {cA : Nat → ClassId} {σ : Sg} {c : Nat} (h : c < 173) : (wsl ad cA σ)[c]? = some (ad c, cex ad cA (σ c) c) := by
  unfold wsl
  simp [List.getElem?_map, List.getElem?_range h]
theorem wsl_set {ad : Nat → Nat} {cA : Nat → ClassId} {σ σ' : Sg} {c : Nat} (hσ : ∀ q, q ≠ c → σ' q = σ q) : (wsl ad cA σ).set c (ad c, cex ad cA (σ' c) c) = wsl ad cA σ' := by
  apply List.ext_getElem?
  intro j
  rw [List.getElem?_set]
  by_cases hj : j < 173
  · rw [wsl_get hj]
    by_cases e : c = j
    · subst e
      rw [if_pos rfl, if_pos (by simpa [wsl] using hj), wsl_get hj]
    · rw [if_neg e, wsl_get hj, hσ j (fun h => e h.symm)]
  · have h1 : ∀ τ : Sg, (wsl ad cA τ)[j]? = none := fun τ => List.getElem?_eq_none (by simp [wsl]; omega)
    rw [h1 σ, h1 σ']
    by_cases e : c = j
    · rw [if_pos e, if_neg (by simp [wsl]; omega)]
    · rw [if_neg e]
theorem up_row {σ : Sg} {c k : Nat} {v : Int32} : up σ c k v c = upd (σ c) k v := by
  funext j; simp [up, upd]
theorem up_ne {σ : Sg} {c k q : Nat} {v : Int32} (h : q ≠ c) : up σ c k v q = σ q := by
  funext j; simp [up, h]
theorem cpy_row {σ : Sg} {c d sp dp n : Nat} : cpy σ c d sp dp n d = va_cpy (σ c) (σ d) sp dp n := by
  funext j; simp [cpy, va_cpy]
theorem cpy_ne {σ : Sg} {c d sp dp n q : Nat} (h : q ≠ d) : cpy σ c d sp dp n q = σ q := by
  funext j; simp [cpy, h]
theorem SX.ne {L : Nat} {xs : Nat → Int32} {σ σ' : Sg} {c : Nat} (h : SX L xs σ) (hc : c < 173) (hσ : ∀ q, q ≠ c → σ' q = σ q) : SX L xs σ' :=
  ⟨fun j i hj hi => by rw [hσ _ (by omega)]; exact h.1 j i hj hi, fun i hi => by rw [hσ _ (by omega)]; exact h.2 i hi⟩
theorem wslD {ad : Nat → Nat} {cA : Nat → ClassId} {B0 : Nat} (h : ADok ad B0) (σ : Sg) : va_D (fun q => B0 ≤ q) (wsl ad cA σ) := by
  have key : ∀ (i : Nat) (q : Nat × va_E), (wsl ad cA σ)[i]? = some q → i < 173 ∧ q.1 = ad i := by
    intro i q hi
    by_cases h1 : i < 173
    · rw [wsl_get h1] at hi
      exact ⟨h1, by rw [← Option.some.inj hi]⟩
    · rw [List.getElem?_eq_none (by simp [wsl]; omega)] at hi
      cases hi
  refine ⟨fun i j p q hi hj e => ?_, fun k q hk => ?_⟩
  · obtain ⟨i1, i2⟩ := key i p hi
    obtain ⟨j1, j2⟩ := key j q hj
    exact h.1 i j i1 j1 (by rw [← i2, ← j2, e])
  · obtain ⟨k1, k2⟩ := key k q hk
    show B0 ≤ q.1
    rw [k2]; exact h.2 k k1
theorem cex_arr {ad : Nat → Nat} {cA : Nat → ClassId} {g : Nat → Int32} {c : Nat} (h : kd c = 20) : cex ad cA g c = .inl (cA 0, aln 0 c, .inl g) := by simp [cex, h]
theorem cex_ref {ad : Nat → Nat} {cA : Nat → ClassId} {g : Nat → Int32} {c : Nat} (h : 20 < kd c) : cex ad cA g c = .inl (cA (kd c - 20), aln 0 c, .inr (.inr (.inr (.inr (fun i => some (ad (rt c i))))))) := by
  unfold cex
  rw [if_neg (by omega), if_pos h]
def fls (ad : Nat → Nat) (g : Nat → Int32) (c : Nat) : List Value := (List.range (cN (kd c - 1))).map (fun k => if ftg (kd c) k = 0 then .int (g k) else .ref (ad (rt c k)))
theorem cex_obj {ad : Nat → Nat} {cA : Nat → ClassId} {g : Nat → Int32} {c : Nat} (h : kd c ≤ 12) : cex ad cA g c = .inr (kd c - 1, fls ad g c) := by
  unfold cex fls
  rw [if_neg (by omega), if_neg (by omega)]
theorem fls_get {ad : Nat → Nat} {g : Nat → Int32} {c k : Nat} (hk : k < cN (kd c - 1)) : (fls ad g c)[k]? = some (if ftg (kd c) k = 0 then .int (g k) else .ref (ad (rt c k))) := by
  unfold fls
  simp [List.getElem?_map, List.getElem?_range hk]
theorem fls_len {ad : Nat → Nat} {g : Nat → Int32} {c : Nat} : (fls ad g c).length = cN (kd c - 1) := by simp [fls]
theorem fls_set {ad : Nat → Nat} {g : Nat → Int32} {c k : Nat} {v : Int32} (hf : ftg (kd c) k = 0) : (fls ad g c).set k (.int v) = fls ad (upd g k v) c := by
  apply List.ext_getElem?
  intro j
  rw [List.getElem?_set, fls_len]
  by_cases hj : j < cN (kd c - 1)
  · by_cases e : k = j
    · subst e
      rw [if_pos rfl, if_pos hj, fls_get hj, if_pos hf]
      simp [upd]
    · have : upd g k v j = g j := by unfold upd; rw [if_neg (fun h => e h.symm)]
      rw [if_neg e, fls_get hj, fls_get hj, this]
  · rw [List.getElem?_eq_none (l := fls ad (upd g k v) c) (by rw [fls_len]; omega), List.getElem?_eq_none (l := fls ad g c) (by rw [fls_len]; omega)]
    by_cases e : k = j
    · rw [if_pos e, if_neg (by omega)]
    · rw [if_neg e]
theorem lg_mem {lo : LO} {i : Nat} {v : AV} (h : lg lo i = some v) : some v ∈ lo := by
  induction lo generalizing i with
  | nil => simp [lg] at h
  | cons a r ih =>
    cases i with
    | zero => simp [lg] at h; simp [h]
    | succ n => simp [lg] at h; exact List.mem_cons_of_mem _ (ih h)
theorem prs_mem {ad : Nat → Nat} {lo : LO} {i j : Nat} {v : AV} (h : lg lo i = some v) : (j + i, cv ad v) ∈ prs ad j lo := by
  induction lo generalizing i j with
  | nil => simp [lg] at h
  | cons a r ih =>
    cases i with
    | zero =>
      simp [lg] at h
      subst h
      simp [prs]
    | succ n =>
      simp [lg] at h
      have := ih (j := j + 1) h
      rw [show j + 1 + n = j + (n + 1) by omega] at this
      cases a with
      | none => simpa [prs] using this
      | some w => simp [prs, this]
theorem prs_lg {ad : Nat → Nat} {lo : LO} {j : Nat} {q : Nat × Value} (h : q ∈ prs ad j lo) : ∃ i v, q = (j + i, cv ad v) ∧ lg lo i = some v := by
  induction lo generalizing j with
  | nil => simp [prs] at h
  | cons a r ih =>
    cases a with
    | none =>
      simp only [prs] at h
      obtain ⟨i, v, e, hl⟩ := ih h
      exact ⟨i + 1, v, by rw [e]; congr 1; omega, by simpa [lg] using hl⟩
    | some w =>
      simp only [prs, List.mem_cons] at h
      rcases h with h | h
      · exact ⟨0, w, by simpa using h, by simp [lg]⟩
      · obtain ⟨i, v, e, hl⟩ := ih h
        exact ⟨i + 1, v, by rw [e]; congr 1; omega, by simpa [lg] using hl⟩
theorem lst_len {lo : LO} {i : Nat} {v : AV} : (lst lo i v).length = lo.length := by
  induction lo generalizing i with
  | nil => simp [lst]
  | cons a r ih => cases i <;> simp [lst, ih]
theorem lle_len {lo : LO} : lle lo = lo.length := by
  induction lo with
  | nil => rfl
  | cons a r ih => simp [lle, ih]
theorem lst_mem {lo : LO} {i : Nat} {v w : AV} (h : some w ∈ lst lo i v) : w = v ∨ some w ∈ lo := by
  induction lo generalizing i with
  | nil => simp [lst] at h
  | cons a r ih =>
    cases i with
    | zero =>
      simp only [lst, List.mem_cons, Option.some.injEq] at h
      rcases h with h | h
      · exact Or.inl h
      · exact Or.inr (List.mem_cons_of_mem _ h)
    | succ n =>
      simp only [lst, List.mem_cons] at h
      rcases h with h | h
      · exact Or.inr (by rw [h]; exact List.mem_cons_self)
      · rcases ih h with h | h
        · exact Or.inl h
        · exact Or.inr (List.mem_cons_of_mem _ h)
theorem lg_lst {lo : LO} {i j : Nat} {v w : AV} (h : lg (lst lo i v) j = some w) : (j = i ∧ w = v) ∨ (j ≠ i ∧ lg lo j = some w) := by
  induction lo generalizing i j with
  | nil => simp [lst, lg] at h
  | cons a r ih =>
    cases i with
    | zero =>
      cases j with
      | zero => simp [lst, lg] at h; exact Or.inl ⟨rfl, h.symm⟩
      | succ n => simp [lst, lg] at h; exact Or.inr ⟨by omega, by simpa [lg] using h⟩
    | succ i =>
      cases j with
      | zero => simp [lst, lg] at h; exact Or.inr ⟨by omega, by simpa [lg] using h⟩
      | succ n =>
        simp [lst, lg] at h
        rcases ih h with ⟨e, e2⟩ | ⟨e, e2⟩
        · exact Or.inl ⟨by omega, e2⟩
        · exact Or.inr ⟨by omega, by simpa [lg] using e2⟩
theorem noL_lg {lo : LO} {j : Nat} {w : AV} (hn : noL lo = true) (h : lg lo j = some w) : w.2.category = 1 := by
  induction lo generalizing j with
  | nil => simp [lg] at h
  | cons a r ih =>
    cases a with
    | none =>
      cases j with
      | zero => simp [lg] at h
      | succ n => exact ih (by simpa [noL] using hn) (by simpa [lg] using h)
    | some v =>
      simp only [noL, Bool.and_eq_true] at hn
      cases j with
      | zero =>
        simp [lg] at h
        subst h
        exact Nat.eq_of_beq_eq_true hn.1
      | succ n => exact ih hn.2 (by simpa [lg] using h)
theorem lv_sto {ad : Nat → Nat} {ls : Array Slot} {nL i : Nat} {lo : LO} {v : AV} (hn : noL lo = true) (h : lv_has ls nL ((i, cv ad v) :: (prs ad 0 lo).filter (fun q => !(q.1 == i) && !(q.1 + 1 == i && q.2.category == 2)))) : lv_has ls nL (prs ad 0 (lst lo i v)) := by
  refine ⟨h.1, h.2.1, fun q hq => ?_⟩
  obtain ⟨j, w, e, hl⟩ := prs_lg hq
  rcases lg_lst hl with ⟨e1, e2⟩ | ⟨e1, e2⟩
  · subst e1; subst e2
    rw [e, Nat.zero_add]
    exact h.2.2 _ List.mem_cons_self
  · apply h.2.2
    apply List.mem_cons_of_mem
    rw [List.mem_filter]
    rw [e]
    refine ⟨prs_mem e2, ?_⟩
    have hc : (cv ad w).category = 1 := by
      have := noL_lg hn e2
      obtain ⟨t, u⟩ := w
      cases u <;> simp_all [cv, Value.category]
    simp [hc, e1]
theorem jok_eq {pc : Nat} {off : Int} (h : jok pc off = true) : (pc : Int) + off = ((jt pc off : Nat) : Int) := by
  unfold jok at h
  unfold jt
  have := of_decide_eq_true h
  omega
