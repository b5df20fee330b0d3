theorem lit_nI (n : Nat) : (OfNat.ofNat n : Int32) = nI n := rfl
theorem inb_nI {i n : Nat} (h : i < n) (hn : n < 2 ^ 31) : inb (nI i) n = true := inb_iff.mpr (vp_in_nI h hn)
theorem inb_of {x : Int32} {n : Nat} (h : inb x n = true) (hn : n < 2 ^ 31) : ∃ j, j < n ∧ x = nI j := vp_in_of (inb_iff.mp h) hn
theorem cl_nI {i : Nat} (h : i < 2 ^ 31) : (nI i).toNatClampNeg = i := nI_clamp h
theorem up_s {σ : Sg} {c k : Nat} {v : Int32} : up σ c k v c k = v := by simp [up]
theorem up_c {σ : Sg} {c k d j : Nat} {v : Int32} (h : d ≠ c) : up σ c k v d j = σ d j := by simp [up, h]
theorem up_k {σ : Sg} {c k d j : Nat} {v : Int32} (h : j ≠ k) : up σ c k v d j = σ d j := by simp [up, h]
theorem bn_some {v : Int32} {σ : Sg} {f : Int32 → Sg → RO} : bn (some (v, σ)) f = f v σ := Eq.trans rfl rfl
theorem bv_some {v : Int32} {σ : Sg} {f : Sg → RO} : bv (some (v, σ)) f = f σ := Eq.trans rfl rfl
theorem ti_of {x k : Int32} {z : Int} (h : k.toInt = z) : (x.toInt = z) ↔ x = k := by rw [← h]; exact Int32.toInt_inj
theorem FU_s : FU = 4095 + 1 := rfl
theorem ti_m3 {x : Int32} : (x.toInt = -3) ↔ x = -3 := ti_of rfl
theorem ti_m2 {x : Int32} : (x.toInt = -2) ↔ x = -2 := ti_of rfl
theorem ti_0 {x : Int32} : (x.toInt = 0) ↔ x = 0 := ti_of rfl
theorem ti_1 {x : Int32} : (x.toInt = 1) ↔ x = 1 := ti_of rfl
theorem ti_2 {x : Int32} : (x.toInt = 2) ↔ x = 2 := ti_of rfl
theorem ti_3 {x : Int32} : (x.toInt = 3) ↔ x = 3 := ti_of rfl
theorem ti_4 {x : Int32} : (x.toInt = 4) ↔ x = 4 := ti_of rfl
theorem ti_5 {x : Int32} : (x.toInt = 5) ↔ x = 5 := ti_of rfl
theorem ti_6 {x : Int32} : (x.toInt = 6) ↔ x = 6 := ti_of rfl
theorem ti_7 {x : Int32} : (x.toInt = 7) ↔ x = 7 := ti_of rfl
theorem ti_8 {x : Int32} : (x.toInt = 8) ↔ x = 8 := ti_of rfl
theorem ti_9 {x : Int32} : (x.toInt = 9) ↔ x = 9 := ti_of rfl
theorem ti_10 {x : Int32} : (x.toInt = 10) ↔ x = 10 := ti_of rfl
theorem ti_11 {x : Int32} : (x.toInt = 11) ↔ x = 11 := ti_of rfl
theorem ti_12 {x : Int32} : (x.toInt = 12) ↔ x = 12 := ti_of rfl
theorem ti_13 {x : Int32} : (x.toInt = 13) ↔ x = 13 := ti_of rfl
theorem ti_14 {x : Int32} : (x.toInt = 14) ↔ x = 14 := ti_of rfl
theorem ti_15 {x : Int32} : (x.toInt = 15) ↔ x = 15 := ti_of rfl
theorem ti_16 {x : Int32} : (x.toInt = 16) ↔ x = 16 := ti_of rfl
theorem ti_17 {x : Int32} : (x.toInt = 17) ↔ x = 17 := ti_of rfl
theorem ti_18 {x : Int32} : (x.toInt = 18) ↔ x = 18 := ti_of rfl
theorem ti_19 {x : Int32} : (x.toInt = 19) ↔ x = 19 := ti_of rfl
theorem ti_20 {x : Int32} : (x.toInt = 20) ↔ x = 20 := ti_of rfl
theorem ti_21 {x : Int32} : (x.toInt = 21) ↔ x = 21 := ti_of rfl
theorem ti_22 {x : Int32} : (x.toInt = 22) ↔ x = 22 := ti_of rfl
theorem ti_23 {x : Int32} : (x.toInt = 23) ↔ x = 23 := ti_of rfl
theorem ti_24 {x : Int32} : (x.toInt = 24) ↔ x = 24 := ti_of rfl
theorem ti_25 {x : Int32} : (x.toInt = 25) ↔ x = 25 := ti_of rfl
theorem ti_26 {x : Int32} : (x.toInt = 26) ↔ x = 26 := ti_of rfl
theorem ti_27 {x : Int32} : (x.toInt = 27) ↔ x = 27 := ti_of rfl
theorem ti_28 {x : Int32} : (x.toInt = 28) ↔ x = 28 := ti_of rfl
theorem ti_29 {x : Int32} : (x.toInt = 29) ↔ x = 29 := ti_of rfl
theorem ti_30 {x : Int32} : (x.toInt = 30) ↔ x = 30 := ti_of rfl
theorem ti_31 {x : Int32} : (x.toInt = 31) ↔ x = 31 := ti_of rfl
theorem ti_32 {x : Int32} : (x.toInt = 32) ↔ x = 32 := ti_of rfl
theorem ti_33 {x : Int32} : (x.toInt = 33) ↔ x = 33 := ti_of rfl
theorem ti_34 {x : Int32} : (x.toInt = 34) ↔ x = 34 := ti_of rfl
theorem ti_35 {x : Int32} : (x.toInt = 35) ↔ x = 35 := ti_of rfl
theorem ti_36 {x : Int32} : (x.toInt = 36) ↔ x = 36 := ti_of rfl
theorem ti_37 {x : Int32} : (x.toInt = 37) ↔ x = 37 := ti_of rfl
theorem ti_38 {x : Int32} : (x.toInt = 38) ↔ x = 38 := ti_of rfl
theorem ti_39 {x : Int32} : (x.toInt = 39) ↔ x = 39 := ti_of rfl
theorem ti_40 {x : Int32} : (x.toInt = 40) ↔ x = 40 := ti_of rfl
theorem ti_41 {x : Int32} : (x.toInt = 41) ↔ x = 41 := ti_of rfl
theorem ti_42 {x : Int32} : (x.toInt = 42) ↔ x = 42 := ti_of rfl
theorem ti_43 {x : Int32} : (x.toInt = 43) ↔ x = 43 := ti_of rfl
theorem ti_44 {x : Int32} : (x.toInt = 44) ↔ x = 44 := ti_of rfl
theorem ti_45 {x : Int32} : (x.toInt = 45) ↔ x = 45 := ti_of rfl
theorem ti_46 {x : Int32} : (x.toInt = 46) ↔ x = 46 := ti_of rfl
theorem ti_47 {x : Int32} : (x.toInt = 47) ↔ x = 47 := ti_of rfl
theorem ti_48 {x : Int32} : (x.toInt = 48) ↔ x = 48 := ti_of rfl
theorem ti_49 {x : Int32} : (x.toInt = 49) ↔ x = 49 := ti_of rfl
theorem ti_50 {x : Int32} : (x.toInt = 50) ↔ x = 50 := ti_of rfl
theorem ti_51 {x : Int32} : (x.toInt = 51) ↔ x = 51 := ti_of rfl
theorem ti_52 {x : Int32} : (x.toInt = 52) ↔ x = 52 := ti_of rfl
theorem ti_53 {x : Int32} : (x.toInt = 53) ↔ x = 53 := ti_of rfl
theorem ti_54 {x : Int32} : (x.toInt = 54) ↔ x = 54 := ti_of rfl
theorem ti_55 {x : Int32} : (x.toInt = 55) ↔ x = 55 := ti_of rfl
theorem ti_56 {x : Int32} : (x.toInt = 56) ↔ x = 56 := ti_of rfl
theorem ti_57 {x : Int32} : (x.toInt = 57) ↔ x = 57 := ti_of rfl
theorem ti_58 {x : Int32} : (x.toInt = 58) ↔ x = 58 := ti_of rfl
theorem ti_59 {x : Int32} : (x.toInt = 59) ↔ x = 59 := ti_of rfl
theorem ti_60 {x : Int32} : (x.toInt = 60) ↔ x = 60 := ti_of rfl
theorem ti_61 {x : Int32} : (x.toInt = 61) ↔ x = 61 := ti_of rfl
theorem ti_62 {x : Int32} : (x.toInt = 62) ↔ x = 62 := ti_of rfl
theorem ti_104 {x : Int32} : (x.toInt = 104) ↔ x = 104 := ti_of rfl
theorem ti_105 {x : Int32} : (x.toInt = 105) ↔ x = 105 := ti_of rfl
theorem ti_106 {x : Int32} : (x.toInt = 106) ↔ x = 106 := ti_of rfl
theorem ti_107 {x : Int32} : (x.toInt = 107) ↔ x = 107 := ti_of rfl
theorem ti_108 {x : Int32} : (x.toInt = 108) ↔ x = 108 := ti_of rfl
theorem ti_109 {x : Int32} : (x.toInt = 109) ↔ x = 109 := ti_of rfl
theorem ti_110 {x : Int32} : (x.toInt = 110) ↔ x = 110 := ti_of rfl
theorem ti_111 {x : Int32} : (x.toInt = 111) ↔ x = 111 := ti_of rfl
theorem ti_112 {x : Int32} : (x.toInt = 112) ↔ x = 112 := ti_of rfl
theorem ti_113 {x : Int32} : (x.toInt = 113) ↔ x = 113 := ti_of rfl
theorem ti_114 {x : Int32} : (x.toInt = 114) ↔ x = 114 := ti_of rfl
theorem ti_115 {x : Int32} : (x.toInt = 115) ↔ x = 115 := ti_of rfl
theorem ti_116 {x : Int32} : (x.toInt = 116) ↔ x = 116 := ti_of rfl
theorem ti_117 {x : Int32} : (x.toInt = 117) ↔ x = 117 := ti_of rfl
theorem ti_118 {x : Int32} : (x.toInt = 118) ↔ x = 118 := ti_of rfl
theorem ti_119 {x : Int32} : (x.toInt = 119) ↔ x = 119 := ti_of rfl
theorem ti_120 {x : Int32} : (x.toInt = 120) ↔ x = 120 := ti_of rfl
theorem ti_121 {x : Int32} : (x.toInt = 121) ↔ x = 121 := ti_of rfl
theorem ti_124 {x : Int32} : (x.toInt = 124) ↔ x = 124 := ti_of rfl
def shpI (k b : Int32) : Int32 := if k = 1 then 2 else if k = 2 then 6 else if k = 3 then 5 else if k = 5 then (if b ≤ 1 then 2 else 3) else 1
theorem x0_shapes (σ : Sg) (c : Nat) : s_X0_shapes σ c = some (shpI (σ c 0) (σ c 2), σ) := by
  unfold s_X0_shapes shpI
  simp only [ti_1, ti_2, ti_3, ti_4, ti_5]
  by_cases h1 : σ c 0 = 1
  · simp [h1]
  · by_cases h2 : σ c 0 = 2
    · simp [h2]
    · by_cases h3 : σ c 0 = 3
      · simp [h3]
      · by_cases h5 : σ c 0 = 5
        · simp [h5]
          split <;> rfl
        · simp [h1, h2, h3, h5]
