def cexd (ad : Nat → Nat) (cA : Nat → ClassId) (g : Nat → Int32) (r : Nat → Option Nat) (c : Nat) : va_E :=
  if kd c = 20 then .inl (cA 0, aln 0 c, .inl g)
  else if 20 < kd c then .inl (cA (kd c - 20), aln 0 c, .inr (.inr (.inr (.inr (fun i => (r i).map ad)))))
  else .inr (kd c - 1, (List.range (cN (kd c - 1))).map (fun k => if ftg (kd c) k = 0 then .int (g k) else va_rf ((r k).map ad)))
def wsd (n : Nat) (ad : Nat → Nat) (cA : Nat → ClassId) (σ : Sg) (ρ : Rh) : va_W := (List.range n).map (fun c => (ad c, cexd ad cA (σ c) (ρ c) c))
def ADn (ad : Nat → Nat) (B0 n : Nat) : Prop := (∀ i j, i < n → j < n → ad i = ad j → i = j) ∧ ∀ i, i < n → B0 ≤ ad i
def GDd (nL : Nat) (q : DS) : Prop := q.2.1.length = nL ∧ (∀ v, some v ∈ q.2.1 → vokd q.2.2.2.1 v ∨ v = (33, .ref 990)) ∧ (∀ v ∈ q.2.2.1, vokd q.2.2.2.1 v) ∧ (∀ c k r, q.2.2.2.2.2 c k = some r → r < q.2.2.2.1 ∧ c < q.2.2.2.1) ∧ (∀ c, q.2.2.2.1 ≤ c → ∀ k, q.2.2.2.2.1 c k = 0) ∧ q.2.2.2.1 ≤ 173
def DK (D : va_G) (cA : Nat → ClassId) (U : State) : Prop := va_K D cl12 (tysL cA) U ∧ (va_AO RX0 U ∧ va_AO RX9 U ∧ va_AO RX5 U ∧ va_AO RX6 U) ∧ ∀ w ∈ NWc, va_Nw w U
theorem DK.moved {D : va_G} {cA : Nat → ClassId} {s U : State} (hW : s.WarmedH U.vm) (h : DK D cA s) : DK D cA U := by
  obtain ⟨h1, ⟨a1, a2, a3, a4⟩, h3⟩ := h
  refine ⟨va_K.moved hW.alike h1, ⟨a1.moved hW.alike, a2.moved hW.alike, a3.moved hW.alike, a4.moved hW.alike⟩, fun w hw => ?_⟩
  have h3' := h3 w hw
  simp only [NWc, List.mem_cons, List.not_mem_nil, or_false] at hw
  rcases hw with rfl | rfl | rfl | rfl | rfl | rfl | rfl | rfl | rfl | rfl | rfl <;> exact va_Nw.warmM hW h3'
theorem DK.calling {D : va_G} {cA : Nat → ClassId} {U : State} {f : JFrame} {mk : MethodId} {a : Array Value} (h : DK D cA U) : DK D cA (U.calling f mk a) := by
  obtain ⟨h1, ⟨a1, a2, a3, a4⟩, h3⟩ := h
  have ha : U.vm.Alike (U.calling f mk a).vm := Vm.Alike.refl U.vm
  refine ⟨va_K.moved ha h1, ⟨a1.moved ha, a2.moved ha, a3.moved ha, a4.moved ha⟩, fun w hw => ?_⟩
  have h3' := h3 w hw
  simp only [NWc, List.mem_cons, List.not_mem_nil, or_false] at hw
  rcases hw with rfl | rfl | rfl | rfl | rfl | rfl | rfl | rfl | rfl | rfl | rfl <;> exact va_Nw.same rfl rfl h3'
theorem wsd_get {n : Nat} {ad : Nat → Nat} {cA : Nat → ClassId} {σ : Sg} {ρ : Rh} {c : Nat} (h : c < n) : (wsd n ad cA σ ρ)[c]? = some (ad c, cexd ad cA (σ c) (ρ c) c) := by
  unfold wsd
  simp [List.getElem?_map, List.getElem?_range h]
theorem wsd_len {n : Nat} {ad : Nat → Nat} {cA : Nat → ClassId} {σ : Sg} {ρ : Rh} : (wsd n ad cA σ ρ).length = n := by simp [wsd]
theorem wsdD {n : Nat} {ad : Nat → Nat} {cA : Nat → ClassId} {σ : Sg} {ρ : Rh} {B0 : Nat} (h : ADn ad B0 n) : va_D (fun q => B0 ≤ q) (wsd n ad cA σ ρ) := by
  have key : ∀ (i : Nat) (q : Nat × va_E), (wsd n ad cA σ ρ)[i]? = some q → i < n ∧ q.1 = ad i := by
    intro i q hi
    by_cases h1 : i < n
    · rw [wsd_get h1] at hi
      exact ⟨h1, by rw [← Option.some.inj hi]⟩
    · rw [List.getElem?_eq_none (by rw [wsd_len]; omega)] at hi
      cases hi
  refine ⟨fun i j p q hi hj e => ?_, fun k q hk => ?_⟩
  · obtain ⟨i1, i2⟩ := key i p hi
    obtain ⟨j1, j2⟩ := key j q hj
    exact h.1 i j i1 j1 (by rw [← i2, ← j2, e])
  · obtain ⟨k1, k2⟩ := key k q hk
    show B0 ≤ q.1
    rw [k2]; exact h.2 k k1
theorem wsd_set {n : Nat} {ad : Nat → Nat} {cA : Nat → ClassId} {σ σ' : Sg} {ρ ρ' : Rh} {c : Nat} (h1 : ∀ q, q ≠ c → σ' q = σ q) (h2 : ∀ q, q ≠ c → ρ' q = ρ q) : (wsd n ad cA σ ρ).set c (ad c, cexd ad cA (σ' c) (ρ' c) c) = wsd n ad cA σ' ρ' := by
  apply List.ext_getElem?
  intro j
  rw [List.getElem?_set, wsd_len]
  by_cases hj : j < n
  · by_cases e : c = j
    · subst e
      rw [if_pos rfl, if_pos hj, wsd_get hj]
    · rw [if_neg e, wsd_get hj, wsd_get hj, h1 j (fun h => e h.symm), h2 j (fun h => e h.symm)]
  · have hn : ∀ (τ : Sg) (π : Rh), (wsd n ad cA τ π)[j]? = none := fun τ π => List.getElem?_eq_none (by rw [wsd_len]; omega)
    rw [hn, hn]
    by_cases e : c = j
    · rw [if_pos e, if_neg (by omega)]
    · rw [if_neg e]
theorem cexd_ad {ad ad' : Nat → Nat} {cA : Nat → ClassId} {g : Nat → Int32} {r : Nat → Option Nat} {c n : Nat} (hr : ∀ k z, r k = some z → z < n) (h : ∀ i, i < n → ad' i = ad i) : cexd ad' cA g r c = cexd ad cA g r c := by
  have hm : ∀ k, (r k).map ad' = (r k).map ad := by
    intro k
    cases hk : r k with
    | none => rfl
    | some z => simp [h z (hr k z hk)]
  unfold cexd
  simp only [hm]
theorem wsd_push {n : Nat} {ad : Nat → Nat} {cA : Nat → ClassId} {σ : Sg} {ρ : Rh} {q : Nat} (hr : ∀ c k r, ρ c k = some r → r < n ∧ c < n) : wsd n ad cA σ ρ ++ [(q, cexd ad cA (σ n) (ρ n) n)] = wsd (n + 1) (fun i => if i = n then q else ad i) cA σ ρ := by
  have hag : ∀ i, i < n → (fun i => if i = n then q else ad i) i = ad i := fun i hi => by simp [Nat.ne_of_lt hi]
  apply List.ext_getElem?
  intro j
  by_cases hj : j < n
  · rw [List.getElem?_append_left (by rw [wsd_len]; exact hj), wsd_get hj, wsd_get (by omega), cexd_ad (n := n) (fun k z hz => (hr j k z hz).1) hag, if_neg (Nat.ne_of_lt hj)]
  · by_cases e : j = n
    · subst e
      rw [List.getElem?_append_right (by rw [wsd_len]; omega), wsd_len, Nat.sub_self, wsd_get (by omega), cexd_ad (n := j) (fun k z hz => (hr j k z hz).1) hag]
      simp
    · rw [List.getElem?_append_right (by rw [wsd_len]; omega), wsd_len, List.getElem?_eq_none (by simp; omega), List.getElem?_eq_none (by rw [wsd_len]; omega)]
theorem ADn.push {ad : Nat → Nat} {B0 n q : Nat} {cA : Nat → ClassId} {σ : Sg} {ρ : Rh} {e : va_E} (h : ADn ad B0 n) (hD : va_D (fun x => B0 ≤ x) (wsd n ad cA σ ρ ++ [(q, e)])) : ADn (fun i => if i = n then q else ad i) B0 (n + 1) := by
  have hq : (wsd n ad cA σ ρ ++ [(q, e)])[n]? = some (q, e) := by rw [List.getElem?_append_right (by rw [wsd_len]; exact Nat.le_refl n), wsd_len, Nat.sub_self]; rfl
  have hi : ∀ i, i < n → (wsd n ad cA σ ρ ++ [(q, e)])[i]? = some (ad i, cexd ad cA (σ i) (ρ i) i) := fun i hi => by rw [List.getElem?_append_left (by rw [wsd_len]; exact hi), wsd_get hi]
  refine ⟨fun i j h1 h2 heq => ?_, fun i h1 => ?_⟩
  · simp only at heq
    by_cases e1 : i = n
    · by_cases e2 : j = n
      · omega
      · rw [if_pos e1, if_neg e2] at heq
        have := hD.1 n j _ _ hq (hi j (by omega)) heq
        omega
    · by_cases e2 : j = n
      · rw [if_neg e1, if_pos e2] at heq
        have := hD.1 i n _ _ (hi i (by omega)) hq heq
        omega
      · rw [if_neg e1, if_neg e2] at heq
        exact h.1 i j (by omega) (by omega) heq
  · simp only
    by_cases e1 : i = n
    · rw [if_pos e1]; exact hD.2 n _ hq
    · rw [if_neg e1]; exact h.2 i (by omega)
theorem cexd_arr {ad : Nat → Nat} {cA : Nat → ClassId} {g : Nat → Int32} {r : Nat → Option Nat} {c : Nat} (h : kd c = 20) : cexd ad cA g r c = .inl (cA 0, aln 0 c, .inl g) := by simp [cexd, h]
theorem cexd_ref {ad : Nat → Nat} {cA : Nat → ClassId} {g : Nat → Int32} {r : Nat → Option Nat} {c : Nat} (h : 20 < kd c) : cexd ad cA g r c = .inl (cA (kd c - 20), aln 0 c, .inr (.inr (.inr (.inr (fun i => (r i).map ad))))) := by
  unfold cexd
  rw [if_neg (by omega), if_pos h]
def flsd (ad : Nat → Nat) (g : Nat → Int32) (r : Nat → Option Nat) (c : Nat) : List Value := (List.range (cN (kd c - 1))).map (fun k => if ftg (kd c) k = 0 then .int (g k) else va_rf ((r k).map ad))
theorem cexd_obj {ad : Nat → Nat} {cA : Nat → ClassId} {g : Nat → Int32} {r : Nat → Option Nat} {c : Nat} (h : kd c ≤ 12) : cexd ad cA g r c = .inr (kd c - 1, flsd ad g r c) := by
  unfold cexd flsd
  rw [if_neg (by omega), if_neg (by omega)]
theorem flsd_get {ad : Nat → Nat} {g : Nat → Int32} {r : Nat → Option Nat} {c k : Nat} (hk : k < cN (kd c - 1)) : (flsd ad g r c)[k]? = some (if ftg (kd c) k = 0 then .int (g k) else va_rf ((r k).map ad)) := by
  unfold flsd
  simp [List.getElem?_map, List.getElem?_range hk]
theorem flsd_len {ad : Nat → Nat} {g : Nat → Int32} {r : Nat → Option Nat} {c : Nat} : (flsd ad g r c).length = cN (kd c - 1) := by simp [flsd]
theorem flsd_set {ad : Nat → Nat} {g g' : Nat → Int32} {r r' : Nat → Option Nat} {c k : Nat} {v : Value} (hg : ∀ j, j ≠ k → g' j = g j) (hr : ∀ j, j ≠ k → r' j = r j) (hv : v = if ftg (kd c) k = 0 then .int (g' k) else va_rf ((r' k).map ad)) : (flsd ad g r c).set k v = flsd ad g' r' c := by
  apply List.ext_getElem?
  intro j
  rw [List.getElem?_set, flsd_len]
  by_cases hj : j < cN (kd c - 1)
  · by_cases e : k = j
    · subst e
      rw [if_pos rfl, if_pos hj, flsd_get hj, hv]
    · rw [if_neg e, flsd_get hj, flsd_get hj, hg j (fun h => e h.symm), hr j (fun h => e h.symm)]
  · rw [List.getElem?_eq_none (l := flsd ad g' r' c) (by rw [flsd_len]; omega), List.getElem?_eq_none (l := flsd ad g r c) (by rw [flsd_len]; omega)]
    by_cases e : k = j
    · rw [if_pos e, if_neg (by omega)]
    · rw [if_neg e]
theorem upR_row {ρ : Rh} {c k r : Nat} : upR ρ c k r c = va_up (ρ c) k (some r) := by
  funext j; simp [upR, va_up]
theorem upR_ne {ρ : Rh} {c k r q : Nat} (h : q ≠ c) : upR ρ c k r q = ρ q := by
  funext j; simp [upR, h]
theorem defv : ∀ t, t < 12 → ∀ j, j < cN t → defaultValue (cTy t j) = (if ftg (t + 1) j = 0 then .int 0 else .null) := by decide +kernel
theorem aln_le : ∀ n, n < 173 → aln 0 n ≤ 2350 := by decide +kernel
theorem pr_isref : ∀ t, t < 12 → ∀ k, k < cN t → ftg (t + 1) k ≠ 0 → (match parseFieldDescriptor (cT t k).2.2.1 with | some (.object _) => true | some (.array _) => true | _ => false) = true ∧ (cT t k).1 = cR t := by decide +kernel
theorem pr_ok : ∀ t, t < 12 → ∀ k, k < cN t → ftg (t + 1) k ≠ 0 → ∃ ty, parseFieldDescriptor (cT t k).2.2.1 = some ty ∧ (∀ a : Nat, narrow ty (.ref a) = .ref a) ∧ (∀ a : Nat, fits ty (.ref a) = true) ∧ (cT t k).1 = cR t := by
  intro t ht k hk hf
  obtain ⟨h1, h2⟩ := pr_isref t ht k hk hf
  split at h1
  · rename_i C hC
    exact ⟨_, hC, fun _ => rfl, fun _ => rfl, h2⟩
  · rename_i C hC
    exact ⟨_, hC, fun _ => rfl, fun _ => rfl, h2⟩
  · cases h1
theorem mt_one : ∀ m, m < 259 → (mY m).name = "<init>" → 1 ≤ mL m := by decide +kernel
theorem mt_ow : ∀ m, m < 259 → mO m < 13 := by decide +kernel
