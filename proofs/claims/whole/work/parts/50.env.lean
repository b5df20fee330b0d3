abbrev NF : List Cond := flatC (Jvm.Cond.and given_1 narrow_1)
theorem nf_arr : ∀ j, j < 4 → Cond.arrayOf (.static RX10 (snm j) "[I") .int ∈ NF := by decide +kernel
theorem nf_len : ∀ j, j < 4 → Cond.eq (.length (.static RX10 (snm j) "[I")) (.int (Int32.ofNat (aln 0 (900 + j)))) ∈ NF := by decide +kernel
theorem nf_el : ∀ j, j < 4 → ∀ i, i < aln 0 (900 + j) → Cond.eq (.elem (.static RX10 (snm j) "[I") (.int (Int32.ofNat i))) (.int (sva j i)) ∈ NF := by decide +kernel
theorem nf_sx : ∀ i, i < 4 → Cond.exactly (.string RX3 (six i)) "java/lang/String" ∈ NF := by decide +kernel
theorem nf_co : ∀ i, i < 4 → Cond.eq (.field (.string RX3 (six i)) "java/lang/String" "coder" "B") (.int 0) ∈ NF := by decide +kernel
theorem nf_ar : ∀ i, i < 4 → Cond.arrayOf (.field (.string RX3 (six i)) "java/lang/String" "value" "[B") .byte ∈ NF := by decide +kernel
theorem nf_le : ∀ i, i < 4 → Cond.eq (.length (.field (.string RX3 (six i)) "java/lang/String" "value" "[B")) (.int (Int32.ofNat (slen.getD i 0))) ∈ NF := by decide +kernel
theorem nf_be : ∀ i, i < 4 → ∀ j, j < slen.getD i 0 → Cond.eq (.elem (.field (.string RX3 (six i)) "java/lang/String" "value" "[B") (.int (Int32.ofNat j))) (.int ((sbyt.getD i []).getD j 0)) ∈ NF := by decide +kernel
theorem nf_ne : ∀ i, i < 4 → ∀ j, j < 4 → i < j → Cond.not (Cond.eq (.string RX3 (six i)) (.string RX3 (six j))) ∈ NF := by decide +kernel
theorem nf_cs : Cond.eq (.static "java/lang/String" "COMPACT_STRINGS" "Z") (.int 1) ∈ NF := by decide +kernel
theorem nf_si : Cond.isRef (.static "jdk/internal/util/Preconditions" "SIOOBE_FORMATTER" "Ljava/util/function/BiFunction;") ∈ NF := by decide +kernel
theorem al9 : ∀ j, j < 4 → aln 0 (900 + j) ≤ 6 := by decide +kernel
theorem ls_ok : ∀ j, j < 4 → lw_tbl[([565, 579, 581, 751] : List Nat).getD j 0]? = some (Cond.laysStatic RX10 (snm j) "[I") := by decide +kernel
theorem wd_stat : (∀ j, j < 4 → Cond.laysStatic RX10 (snm j) "[I" ∈ lw_tbl) ∧ Cond.initialized RX10 ∈ lw_tbl ∧ Cond.laysStatic "java/lang/String" "COMPACT_STRINGS" "Z" ∈ lw_tbl ∧ Cond.initialized "java/lang/String" ∈ lw_tbl ∧ Cond.laysStatic "jdk/internal/util/Preconditions" "SIOOBE_FORMATTER" "Ljava/util/function/BiFunction;" ∈ lw_tbl ∧ Cond.initialized "jdk/internal/util/Preconditions" ∈ lw_tbl := ⟨fun j hj => List.mem_of_getElem? (i := ([565, 579, 581, 751] : List Nat).getD j 0) (ls_ok j hj), List.mem_of_getElem? (i := 75) (by decide +kernel), List.mem_of_getElem? (i := 826) (by decide +kernel), List.mem_of_getElem? (i := 90) (by decide +kernel), List.mem_of_getElem? (i := 842) (by decide +kernel), List.mem_of_getElem? (i := 92) (by decide +kernel)⟩
theorem wd_srf : ∀ j, j < 4 → lw_tbl[([812, 869, 914, 915] : List Nat).getD j 0]? = some (Cond.stringRef RX3 (six j) (stx j)) := by decide +kernel
theorem wd_nw : ∀ j, j < 4 → lw_tbl[([659, 762, 564, 750] : List Nat).getD j 0]? = NW[j]? := by decide +kernel
theorem wd_nwc : ∀ j, j < 11 → lw_tbl[([297, 318, 341, 372, 391, 118, 346, 396, 398, 237, 259] : List Nat).getD j 0]? = NWc[j]? := by decide +kernel
theorem wd_over : lw_tbl[116]? = some (Cond.arrayOver (.object RX0)) ∧ lw_tbl[234]? = some (Cond.arrayOver (.object RX9)) ∧ lw_tbl[370]? = some (Cond.arrayOver (.object RX5)) ∧ lw_tbl[389]? = some (Cond.arrayOver (.object RX6)) := by decide +kernel
theorem env_K {args : Array Value} {s : State} (hts : ∀ w ∈ lw_tbl, w.before args s = true) : ∃ (D : va_G) (cA : Nat → ClassId), DK D cA s := by
  have htb : ∀ w ∈ TB, w.before args s = true := fun w h => hts w (List.mem_filter.mp h).1
  have h0 : ∀ t : Nat, ∃ q : ClassId × (Nat → Nat), t < 12 → u_Kn s (cR t) (cT t) (cN t) q.1 q.2 := by
    intro t
    by_cases ht : t < 12
    · obtain ⟨i1, i2⟩ := ins_ok t ht
      obtain ⟨cC, iS, h⟩ := u_known (C := cR t) (T := cT t) (N := cN t) (n := cN t) htb (lay_in t ht) (hts _ (List.mem_of_getElem? i1))
      exact ⟨(cC, iS), fun _ => h⟩
    · exact ⟨(0, fun _ => 0), fun h => absurd h ht⟩
  obtain ⟨f, hf⟩ := Classical.axiomOfChoice h0
  obtain ⟨cI, kI, compI, hI1, hI2, hI3⟩ := Cond.arrayClass_spec (hts _ (List.mem_of_getElem? wd_obj.2))
  obtain ⟨o0, o9, o5, o6⟩ := wd_over
  have hov : ∀ C : String, Cond.arrayOver (.object C) ∈ lw_tbl → ∃ cA : ClassId, ArrOfT s cA (.object C) ∧ va_RA s cA (.object C) := by
    intro C hC
    obtain ⟨comp, cc, k, e1, e2, e3, e4, e5⟩ := Cond.arrayOver_spec (hts _ hC)
    exact ⟨cc, fun n z => ⟨(fun k h => by cases h), k, e3, comp, e4⟩, k, comp, e3, e4, e1, e5⟩
  obtain ⟨c0, a0, b0⟩ := hov _ (List.mem_of_getElem? o0)
  obtain ⟨c9, a9, b9⟩ := hov _ (List.mem_of_getElem? o9)
  obtain ⟨c5, a5, b5⟩ := hov _ (List.mem_of_getElem? o5)
  obtain ⟨c6, a6, b6⟩ := hov _ (List.mem_of_getElem? o6)
  refine ⟨(fun t => (f t).1, fun t => (f t).2), fun i => [cI, c0, c9, c5, c6].getD i 0, ⟨fun c q hq => ?_, fun k q hk => ?_⟩, ⟨va_AO.of (hts _ (List.mem_of_getElem? o0)), va_AO.of (hts _ (List.mem_of_getElem? o9)), va_AO.of (hts _ (List.mem_of_getElem? o5)), va_AO.of (hts _ (List.mem_of_getElem? o6))⟩, fun w hw => ?_⟩
  · by_cases hc : c < 12
    · rw [cl_at c hc] at hq
      cases hq
      exact hf c hc
    · rw [List.getElem?_eq_none (by simp [cl12]; omega)] at hq
      cases hq
  · match k, hk with
    | 0, hk => cases hk; exact ⟨fun n z => ⟨(fun k h => by cases h), kI, hI2, compI, hI3⟩, hI1⟩
    | 1, hk => cases hk; exact ⟨a0, b0⟩
    | 2, hk => cases hk; exact ⟨a9, b9⟩
    | 3, hk => cases hk; exact ⟨a5, b5⟩
    | 4, hk => cases hk; exact ⟨a6, b6⟩
    | k + 5, hk => simp [tysL] at hk
  · obtain ⟨j, hj⟩ := List.mem_iff_getElem?.mp hw
    have hlt : j < 11 := (List.getElem?_eq_some_iff.mp hj).1
    have h1 := wd_nwc j hlt
    rw [hj] at h1
    have hb := hts _ (List.mem_of_getElem? h1)
    simp only [NWc, List.mem_cons, List.not_mem_nil, or_false] at hw
    rcases hw with rfl | rfl | rfl | rfl | rfl | rfl | rfl | rfl | rfl | rfl | rfl <;> exact va_Nw.of rfl hb
theorem env_E {args : Array Value} {s : State} {b L : Nat} {xs : Nat → Int32} (hts : ∀ w ∈ lw_tbl, w.before args s = true) (hX : va_X b L xs s s.heap) (hbl : b < s.heap.size) (hgv : (Jvm.Cond.and given_1 narrow_1).before args s = true) : ∃ ad0 : Nat → Nat, ad0 990 = b ∧ EX ad0 s.heap.size L xs s s.heap := by
  have hs := flat_of_before _ hgv
  have hA : ∀ a : Nat, a < s.heap.size → ¬ (fun q => s.heap.size ≤ q) a := fun a h => Nat.not_le.mpr h
  obtain ⟨q1, q2, q3, q4, q5, q6⟩ := wd_stat
  have h0 : ∀ j : Nat, ∃ t : Nat, j < 4 → va_Z RX10 (snm j) "[I" (.ref t) (fun q => s.heap.size ≤ q) s s.heap ∧ va_T .int t (aln 0 (900 + j)) (fun i => .int (sva j i)) (fun q => s.heap.size ≤ q) s s.heap := by
    intro j
    by_cases hj : j < 4
    · obtain ⟨t, e1, e2⟩ := va_Tof (f := fun i => .int (sva j i)) (A := fun q => s.heap.size ≤ q) (N := aln 0 (900 + j)) (by have := al9 j hj; omega) (hs _ (nf_arr j hj)) (va_eqt (hs _ (nf_len j hj))) (fun i hi => va_eqt (hs _ (nf_el j hj i hi))) hA
      exact ⟨t, fun _ => ⟨va_Zof (hts _ (q1 j hj)) (hts _ q2) e1 hA, e2⟩⟩
    · exact ⟨0, fun h => absurd h hj⟩
  obtain ⟨f, hf⟩ := Classical.axiomOfChoice h0
  obtain ⟨adK, adV, hS, hK⟩ := vk_Sof (args := args) (s := s) (N := 4) (tm := fun i => .string RX3 (six i)) (len := slen) (byt := sbyt) (A := fun q => s.heap.size ≤ q) (by decide) (fun i hi => hs _ (nf_sx i hi)) (fun i hi => hs _ (nf_co i hi)) (fun i hi => hs _ (nf_ar i hi)) (fun i hi => hs _ (nf_le i hi)) (fun i hi j hj => hs _ (nf_be i hi j hj)) (fun i j hi hj hij => by
    rcases Nat.lt_or_gt_of_ne hij with h | h
    · exact Or.inl (hs _ (nf_ne i hi j hj h))
    · exact Or.inr (hs _ (nf_ne j hj i hi h))) hA
  refine ⟨fun i => if i = 990 then b else if i < 904 then f (i - 900) else adK (i - 950), rfl, fun j hj => ?_, fun j hj => ?_, fun w hw => ?_, ⟨?_, ?_, ?_⟩, ⟨adV, ?_⟩, ?_, ?_⟩
  · have e : (if 900 + j = 990 then b else if 900 + j < 904 then f (900 + j - 900) else adK (900 + j - 950)) = f j := by rw [if_neg (by omega), if_pos (by omega), Nat.add_sub_cancel_left]
    simp only [e]
    exact hf j hj
  · have e : (if 950 + j = 990 then b else if 950 + j < 904 then f (950 + j - 900) else adK (950 + j - 950)) = adK j := by rw [if_neg (by omega), if_neg (by omega), Nat.add_sub_cancel_left]
    simp only [e]
    exact vk_R.of (hts _ (List.mem_of_getElem? (wd_srf j hj))) (hK j hj)
  · obtain ⟨j, hj⟩ := List.mem_iff_getElem?.mp hw
    have hlt : j < 4 := (List.getElem?_eq_some_iff.mp hj).1
    have h1 := wd_nw j hlt
    rw [hj] at h1
    have hb := hts _ (List.mem_of_getElem? h1)
    simp only [NW, List.mem_cons, List.not_mem_nil, or_false] at hw
    rcases hw with rfl | rfl | rfl | rfl <;> exact va_Nw.of rfl hb
  · exact hX
  · exact hbl
  · exact Nat.not_le.mpr hbl
  · have e : (fun j => if 950 + j = 990 then b else if 950 + j < 904 then f (950 + j - 900) else adK (950 + j - 950)) = fun j => if j = 40 then b else adK j := by
      funext j
      by_cases h40 : j = 40
      · rw [if_pos (by omega), if_pos h40]
      · rw [if_neg (by omega), if_neg (by omega), if_neg h40, Nat.add_sub_cancel_left]
    simp only [e]
    refine ⟨fun i hi => ?_, fun i j hi hj h => ?_⟩
    · have : (if i = 40 then b else adK i) = adK i := if_neg (by omega)
      simp only [this]; exact hS.1 i hi
    · simp only at h
      rw [if_neg (by omega), if_neg (by omega)] at h
      exact hS.2 i j hi hj h
  · exact va_Zof (hts _ q3) (hts _ q4) (va_eqt (hs _ nf_cs)) hA
  · exact va_Zqof (hts _ q5) (hts _ q6) (hs _ nf_si) hA
theorem EX_ad {ad ad0 : Nat → Nat} {B0 L : Nat} {xs : Nat → Int32} {U : State} {H : Heap} (h : ∀ i, 173 ≤ i → ad i = ad0 i) (hE : EX ad0 B0 L xs U H) : EX ad B0 L xs U H := by
  have h9 : ∀ j, ad (900 + j) = ad0 (900 + j) := fun j => h _ (by omega)
  have h5 : ∀ j, ad (950 + j) = ad0 (950 + j) := fun j => h _ (by omega)
  have h0 : ad 990 = ad0 990 := h _ (by omega)
  unfold EX at hE ⊢
  simp only [h9, h5, h0]
  exact hE
