def pmt (n j : Nat) : Nat := (pm n).getD (min j ((pm n).length - 1)) 0
theorem nxO_0 {τ : Sg} {c j : Nat} (hc : aln 0 c = 8) (hj : j < 1) (h : ∀ i, i < 0 → τ c i = nI (dgt 0 (pmt 0 j) i)) : Gv (s_X4_nextOrder τ c (nI 0)) (fun _ ρ => (∀ i, i < 0 → ρ c i = nI (dgt 0 (pmt 0 (j + 1)) i)) ∧ ∀ d, d ≠ c → ρ d = τ d) := by
  have : j = 0 := by omega
  rcases this with rfl
  · refine gv_w (nx_0_0 hc ) (fun _ ρ q => ⟨fun i hi => ?_, q.2⟩)
    exact absurd hi (by omega)
theorem nxO_1 {τ : Sg} {c j : Nat} (hc : aln 0 c = 8) (hj : j < 1) (h : ∀ i, i < 1 → τ c i = nI (dgt 1 (pmt 1 j) i)) : Gv (s_X4_nextOrder τ c (nI 1)) (fun _ ρ => (∀ i, i < 1 → ρ c i = nI (dgt 1 (pmt 1 (j + 1)) i)) ∧ ∀ d, d ≠ c → ρ d = τ d) := by
  have : j = 0 := by omega
  rcases this with rfl
  · refine gv_w (nx_1_0 hc ((h 0 (by decide)).trans (by decide))) (fun _ ρ q => ⟨fun i hi => ?_, q.2⟩)
    have : i = 0 := by omega
    rcases this with rfl
    · exact (q.1).trans (by decide)
theorem nxO_2 {τ : Sg} {c j : Nat} (hc : aln 0 c = 8) (hj : j < 2) (h : ∀ i, i < 2 → τ c i = nI (dgt 2 (pmt 2 j) i)) : Gv (s_X4_nextOrder τ c (nI 2)) (fun _ ρ => (∀ i, i < 2 → ρ c i = nI (dgt 2 (pmt 2 (j + 1)) i)) ∧ ∀ d, d ≠ c → ρ d = τ d) := by
  have : j = 0 ∨ j = 1 := by omega
  rcases this with rfl | rfl
  · refine gv_w (nx_2_1 hc ((h 0 (by decide)).trans (by decide)) ((h 1 (by decide)).trans (by decide))) (fun _ ρ q => ⟨fun i hi => ?_, q.2⟩)
    have : i = 0 ∨ i = 1 := by omega
    rcases this with rfl | rfl
    · exact (q.1.1).trans (by decide)
    · exact (q.1.2).trans (by decide)
  · refine gv_w (nx_2_2 hc ((h 0 (by decide)).trans (by decide)) ((h 1 (by decide)).trans (by decide))) (fun _ ρ q => ⟨fun i hi => ?_, q.2⟩)
    have : i = 0 ∨ i = 1 := by omega
    rcases this with rfl | rfl
    · exact (q.1.1).trans (by decide)
    · exact (q.1.2).trans (by decide)
theorem nxO_3 {τ : Sg} {c j : Nat} (hc : aln 0 c = 8) (hj : j < 6) (h : ∀ i, i < 3 → τ c i = nI (dgt 3 (pmt 3 j) i)) : Gv (s_X4_nextOrder τ c (nI 3)) (fun _ ρ => (∀ i, i < 3 → ρ c i = nI (dgt 3 (pmt 3 (j + 1)) i)) ∧ ∀ d, d ≠ c → ρ d = τ d) := by
  have : j = 0 ∨ j = 1 ∨ j = 2 ∨ j = 3 ∨ j = 4 ∨ j = 5 := by omega
  rcases this with rfl | rfl | rfl | rfl | rfl | rfl
  · refine gv_w (nx_3_5 hc ((h 0 (by decide)).trans (by decide)) ((h 1 (by decide)).trans (by decide)) ((h 2 (by decide)).trans (by decide))) (fun _ ρ q => ⟨fun i hi => ?_, q.2⟩)
    have : i = 0 ∨ i = 1 ∨ i = 2 := by omega
    rcases this with rfl | rfl | rfl
    · exact (q.1.1).trans (by decide)
    · exact (q.1.2.1).trans (by decide)
    · exact (q.1.2.2).trans (by decide)
  · refine gv_w (nx_3_7 hc ((h 0 (by decide)).trans (by decide)) ((h 1 (by decide)).trans (by decide)) ((h 2 (by decide)).trans (by decide))) (fun _ ρ q => ⟨fun i hi => ?_, q.2⟩)
    have : i = 0 ∨ i = 1 ∨ i = 2 := by omega
    rcases this with rfl | rfl | rfl
    · exact (q.1.1).trans (by decide)
    · exact (q.1.2.1).trans (by decide)
    · exact (q.1.2.2).trans (by decide)
  · refine gv_w (nx_3_11 hc ((h 0 (by decide)).trans (by decide)) ((h 1 (by decide)).trans (by decide)) ((h 2 (by decide)).trans (by decide))) (fun _ ρ q => ⟨fun i hi => ?_, q.2⟩)
    have : i = 0 ∨ i = 1 ∨ i = 2 := by omega
    rcases this with rfl | rfl | rfl
    · exact (q.1.1).trans (by decide)
    · exact (q.1.2.1).trans (by decide)
    · exact (q.1.2.2).trans (by decide)
  · refine gv_w (nx_3_15 hc ((h 0 (by decide)).trans (by decide)) ((h 1 (by decide)).trans (by decide)) ((h 2 (by decide)).trans (by decide))) (fun _ ρ q => ⟨fun i hi => ?_, q.2⟩)
    have : i = 0 ∨ i = 1 ∨ i = 2 := by omega
    rcases this with rfl | rfl | rfl
    · exact (q.1.1).trans (by decide)
    · exact (q.1.2.1).trans (by decide)
    · exact (q.1.2.2).trans (by decide)
  · refine gv_w (nx_3_19 hc ((h 0 (by decide)).trans (by decide)) ((h 1 (by decide)).trans (by decide)) ((h 2 (by decide)).trans (by decide))) (fun _ ρ q => ⟨fun i hi => ?_, q.2⟩)
    have : i = 0 ∨ i = 1 ∨ i = 2 := by omega
    rcases this with rfl | rfl | rfl
    · exact (q.1.1).trans (by decide)
    · exact (q.1.2.1).trans (by decide)
    · exact (q.1.2.2).trans (by decide)
  · refine gv_w (nx_3_21 hc ((h 0 (by decide)).trans (by decide)) ((h 1 (by decide)).trans (by decide)) ((h 2 (by decide)).trans (by decide))) (fun _ ρ q => ⟨fun i hi => ?_, q.2⟩)
    have : i = 0 ∨ i = 1 ∨ i = 2 := by omega
    rcases this with rfl | rfl | rfl
    · exact (q.1.1).trans (by decide)
    · exact (q.1.2.1).trans (by decide)
    · exact (q.1.2.2).trans (by decide)
theorem nxO_4 {τ : Sg} {c j : Nat} (hc : aln 0 c = 8) (hj : j < 24) (h : ∀ i, i < 4 → τ c i = nI (dgt 4 (pmt 4 j) i)) : Gv (s_X4_nextOrder τ c (nI 4)) (fun _ ρ => (∀ i, i < 4 → ρ c i = nI (dgt 4 (pmt 4 (j + 1)) i)) ∧ ∀ d, d ≠ c → ρ d = τ d) := by
  have : j = 0 ∨ j = 1 ∨ j = 2 ∨ j = 3 ∨ j = 4 ∨ j = 5 ∨ j = 6 ∨ j = 7 ∨ j = 8 ∨ j = 9 ∨ j = 10 ∨ j = 11 ∨ j = 12 ∨ j = 13 ∨ j = 14 ∨ j = 15 ∨ j = 16 ∨ j = 17 ∨ j = 18 ∨ j = 19 ∨ j = 20 ∨ j = 21 ∨ j = 22 ∨ j = 23 := by omega
  rcases this with rfl | rfl | rfl | rfl | rfl | rfl | rfl | rfl | rfl | rfl | rfl | rfl | rfl | rfl | rfl | rfl | rfl | rfl | rfl | rfl | rfl | rfl | rfl | rfl
  · refine gv_w (nx_4_27 hc ((h 0 (by decide)).trans (by decide)) ((h 1 (by decide)).trans (by decide)) ((h 2 (by decide)).trans (by decide)) ((h 3 (by decide)).trans (by decide))) (fun _ ρ q => ⟨fun i hi => ?_, q.2⟩)
    have : i = 0 ∨ i = 1 ∨ i = 2 ∨ i = 3 := by omega
    rcases this with rfl | rfl | rfl | rfl
    · exact (q.1.1).trans (by decide)
    · exact (q.1.2.1).trans (by decide)
    · exact (q.1.2.2.1).trans (by decide)
    · exact (q.1.2.2.2).trans (by decide)
  · refine gv_w (nx_4_30 hc ((h 0 (by decide)).trans (by decide)) ((h 1 (by decide)).trans (by decide)) ((h 2 (by decide)).trans (by decide)) ((h 3 (by decide)).trans (by decide))) (fun _ ρ q => ⟨fun i hi => ?_, q.2⟩)
    have : i = 0 ∨ i = 1 ∨ i = 2 ∨ i = 3 := by omega
    rcases this with rfl | rfl | rfl | rfl
    · exact (q.1.1).trans (by decide)
    · exact (q.1.2.1).trans (by decide)
    · exact (q.1.2.2.1).trans (by decide)
    · exact (q.1.2.2.2).trans (by decide)
  · refine gv_w (nx_4_39 hc ((h 0 (by decide)).trans (by decide)) ((h 1 (by decide)).trans (by decide)) ((h 2 (by decide)).trans (by decide)) ((h 3 (by decide)).trans (by decide))) (fun _ ρ q => ⟨fun i hi => ?_, q.2⟩)
    have : i = 0 ∨ i = 1 ∨ i = 2 ∨ i = 3 := by omega
    rcases this with rfl | rfl | rfl | rfl
    · exact (q.1.1).trans (by decide)
    · exact (q.1.2.1).trans (by decide)
    · exact (q.1.2.2.1).trans (by decide)
    · exact (q.1.2.2.2).trans (by decide)
  · refine gv_w (nx_4_45 hc ((h 0 (by decide)).trans (by decide)) ((h 1 (by decide)).trans (by decide)) ((h 2 (by decide)).trans (by decide)) ((h 3 (by decide)).trans (by decide))) (fun _ ρ q => ⟨fun i hi => ?_, q.2⟩)
    have : i = 0 ∨ i = 1 ∨ i = 2 ∨ i = 3 := by omega
    rcases this with rfl | rfl | rfl | rfl
    · exact (q.1.1).trans (by decide)
    · exact (q.1.2.1).trans (by decide)
    · exact (q.1.2.2.1).trans (by decide)
    · exact (q.1.2.2.2).trans (by decide)
  · refine gv_w (nx_4_54 hc ((h 0 (by decide)).trans (by decide)) ((h 1 (by decide)).trans (by decide)) ((h 2 (by decide)).trans (by decide)) ((h 3 (by decide)).trans (by decide))) (fun _ ρ q => ⟨fun i hi => ?_, q.2⟩)
    have : i = 0 ∨ i = 1 ∨ i = 2 ∨ i = 3 := by omega
    rcases this with rfl | rfl | rfl | rfl
    · exact (q.1.1).trans (by decide)
    · exact (q.1.2.1).trans (by decide)
    · exact (q.1.2.2.1).trans (by decide)
    · exact (q.1.2.2.2).trans (by decide)
  · refine gv_w (nx_4_57 hc ((h 0 (by decide)).trans (by decide)) ((h 1 (by decide)).trans (by decide)) ((h 2 (by decide)).trans (by decide)) ((h 3 (by decide)).trans (by decide))) (fun _ ρ q => ⟨fun i hi => ?_, q.2⟩)
    have : i = 0 ∨ i = 1 ∨ i = 2 ∨ i = 3 := by omega
    rcases this with rfl | rfl | rfl | rfl
    · exact (q.1.1).trans (by decide)
    · exact (q.1.2.1).trans (by decide)
    · exact (q.1.2.2.1).trans (by decide)
    · exact (q.1.2.2.2).trans (by decide)
  · refine gv_w (nx_4_75 hc ((h 0 (by decide)).trans (by decide)) ((h 1 (by decide)).trans (by decide)) ((h 2 (by decide)).trans (by decide)) ((h 3 (by decide)).trans (by decide))) (fun _ ρ q => ⟨fun i hi => ?_, q.2⟩)
    have : i = 0 ∨ i = 1 ∨ i = 2 ∨ i = 3 := by omega
    rcases this with rfl | rfl | rfl | rfl
    · exact (q.1.1).trans (by decide)
    · exact (q.1.2.1).trans (by decide)
    · exact (q.1.2.2.1).trans (by decide)
    · exact (q.1.2.2.2).trans (by decide)
  · refine gv_w (nx_4_78 hc ((h 0 (by decide)).trans (by decide)) ((h 1 (by decide)).trans (by decide)) ((h 2 (by decide)).trans (by decide)) ((h 3 (by decide)).trans (by decide))) (fun _ ρ q => ⟨fun i hi => ?_, q.2⟩)
    have : i = 0 ∨ i = 1 ∨ i = 2 ∨ i = 3 := by omega
    rcases this with rfl | rfl | rfl | rfl
    · exact (q.1.1).trans (by decide)
    · exact (q.1.2.1).trans (by decide)
    · exact (q.1.2.2.1).trans (by decide)
    · exact (q.1.2.2.2).trans (by decide)
  · refine gv_w (nx_4_99 hc ((h 0 (by decide)).trans (by decide)) ((h 1 (by decide)).trans (by decide)) ((h 2 (by decide)).trans (by decide)) ((h 3 (by decide)).trans (by decide))) (fun _ ρ q => ⟨fun i hi => ?_, q.2⟩)
    have : i = 0 ∨ i = 1 ∨ i = 2 ∨ i = 3 := by omega
    rcases this with rfl | rfl | rfl | rfl
    · exact (q.1.1).trans (by decide)
    · exact (q.1.2.1).trans (by decide)
    · exact (q.1.2.2.1).trans (by decide)
    · exact (q.1.2.2.2).trans (by decide)
  · refine gv_w (nx_4_108 hc ((h 0 (by decide)).trans (by decide)) ((h 1 (by decide)).trans (by decide)) ((h 2 (by decide)).trans (by decide)) ((h 3 (by decide)).trans (by decide))) (fun _ ρ q => ⟨fun i hi => ?_, q.2⟩)
    have : i = 0 ∨ i = 1 ∨ i = 2 ∨ i = 3 := by omega
    rcases this with rfl | rfl | rfl | rfl
    · exact (q.1.1).trans (by decide)
    · exact (q.1.2.1).trans (by decide)
    · exact (q.1.2.2.1).trans (by decide)
    · exact (q.1.2.2.2).trans (by decide)
  · refine gv_w (nx_4_114 hc ((h 0 (by decide)).trans (by decide)) ((h 1 (by decide)).trans (by decide)) ((h 2 (by decide)).trans (by decide)) ((h 3 (by decide)).trans (by decide))) (fun _ ρ q => ⟨fun i hi => ?_, q.2⟩)
    have : i = 0 ∨ i = 1 ∨ i = 2 ∨ i = 3 := by omega
    rcases this with rfl | rfl | rfl | rfl
    · exact (q.1.1).trans (by decide)
    · exact (q.1.2.1).trans (by decide)
    · exact (q.1.2.2.1).trans (by decide)
    · exact (q.1.2.2.2).trans (by decide)
  · refine gv_w (nx_4_120 hc ((h 0 (by decide)).trans (by decide)) ((h 1 (by decide)).trans (by decide)) ((h 2 (by decide)).trans (by decide)) ((h 3 (by decide)).trans (by decide))) (fun _ ρ q => ⟨fun i hi => ?_, q.2⟩)
    have : i = 0 ∨ i = 1 ∨ i = 2 ∨ i = 3 := by omega
    rcases this with rfl | rfl | rfl | rfl
    · exact (q.1.1).trans (by decide)
    · exact (q.1.2.1).trans (by decide)
    · exact (q.1.2.2.1).trans (by decide)
    · exact (q.1.2.2.2).trans (by decide)
  · refine gv_w (nx_4_135 hc ((h 0 (by decide)).trans (by decide)) ((h 1 (by decide)).trans (by decide)) ((h 2 (by decide)).trans (by decide)) ((h 3 (by decide)).trans (by decide))) (fun _ ρ q => ⟨fun i hi => ?_, q.2⟩)
    have : i = 0 ∨ i = 1 ∨ i = 2 ∨ i = 3 := by omega
    rcases this with rfl | rfl | rfl | rfl
    · exact (q.1.1).trans (by decide)
    · exact (q.1.2.1).trans (by decide)
    · exact (q.1.2.2.1).trans (by decide)
    · exact (q.1.2.2.2).trans (by decide)
  · refine gv_w (nx_4_141 hc ((h 0 (by decide)).trans (by decide)) ((h 1 (by decide)).trans (by decide)) ((h 2 (by decide)).trans (by decide)) ((h 3 (by decide)).trans (by decide))) (fun _ ρ q => ⟨fun i hi => ?_, q.2⟩)
    have : i = 0 ∨ i = 1 ∨ i = 2 ∨ i = 3 := by omega
    rcases this with rfl | rfl | rfl | rfl
    · exact (q.1.1).trans (by decide)
    · exact (q.1.2.1).trans (by decide)
    · exact (q.1.2.2.1).trans (by decide)
    · exact (q.1.2.2.2).trans (by decide)
  · refine gv_w (nx_4_147 hc ((h 0 (by decide)).trans (by decide)) ((h 1 (by decide)).trans (by decide)) ((h 2 (by decide)).trans (by decide)) ((h 3 (by decide)).trans (by decide))) (fun _ ρ q => ⟨fun i hi => ?_, q.2⟩)
    have : i = 0 ∨ i = 1 ∨ i = 2 ∨ i = 3 := by omega
    rcases this with rfl | rfl | rfl | rfl
    · exact (q.1.1).trans (by decide)
    · exact (q.1.2.1).trans (by decide)
    · exact (q.1.2.2.1).trans (by decide)
    · exact (q.1.2.2.2).trans (by decide)
  · refine gv_w (nx_4_156 hc ((h 0 (by decide)).trans (by decide)) ((h 1 (by decide)).trans (by decide)) ((h 2 (by decide)).trans (by decide)) ((h 3 (by decide)).trans (by decide))) (fun _ ρ q => ⟨fun i hi => ?_, q.2⟩)
    have : i = 0 ∨ i = 1 ∨ i = 2 ∨ i = 3 := by omega
    rcases this with rfl | rfl | rfl | rfl
    · exact (q.1.1).trans (by decide)
    · exact (q.1.2.1).trans (by decide)
    · exact (q.1.2.2.1).trans (by decide)
    · exact (q.1.2.2.2).trans (by decide)
  · refine gv_w (nx_4_177 hc ((h 0 (by decide)).trans (by decide)) ((h 1 (by decide)).trans (by decide)) ((h 2 (by decide)).trans (by decide)) ((h 3 (by decide)).trans (by decide))) (fun _ ρ q => ⟨fun i hi => ?_, q.2⟩)
    have : i = 0 ∨ i = 1 ∨ i = 2 ∨ i = 3 := by omega
    rcases this with rfl | rfl | rfl | rfl
    · exact (q.1.1).trans (by decide)
    · exact (q.1.2.1).trans (by decide)
    · exact (q.1.2.2.1).trans (by decide)
    · exact (q.1.2.2.2).trans (by decide)
  · refine gv_w (nx_4_180 hc ((h 0 (by decide)).trans (by decide)) ((h 1 (by decide)).trans (by decide)) ((h 2 (by decide)).trans (by decide)) ((h 3 (by decide)).trans (by decide))) (fun _ ρ q => ⟨fun i hi => ?_, q.2⟩)
    have : i = 0 ∨ i = 1 ∨ i = 2 ∨ i = 3 := by omega
    rcases this with rfl | rfl | rfl | rfl
    · exact (q.1.1).trans (by decide)
    · exact (q.1.2.1).trans (by decide)
    · exact (q.1.2.2.1).trans (by decide)
    · exact (q.1.2.2.2).trans (by decide)
  · refine gv_w (nx_4_198 hc ((h 0 (by decide)).trans (by decide)) ((h 1 (by decide)).trans (by decide)) ((h 2 (by decide)).trans (by decide)) ((h 3 (by decide)).trans (by decide))) (fun _ ρ q => ⟨fun i hi => ?_, q.2⟩)
    have : i = 0 ∨ i = 1 ∨ i = 2 ∨ i = 3 := by omega
    rcases this with rfl | rfl | rfl | rfl
    · exact (q.1.1).trans (by decide)
    · exact (q.1.2.1).trans (by decide)
    · exact (q.1.2.2.1).trans (by decide)
    · exact (q.1.2.2.2).trans (by decide)
  · refine gv_w (nx_4_201 hc ((h 0 (by decide)).trans (by decide)) ((h 1 (by decide)).trans (by decide)) ((h 2 (by decide)).trans (by decide)) ((h 3 (by decide)).trans (by decide))) (fun _ ρ q => ⟨fun i hi => ?_, q.2⟩)
    have : i = 0 ∨ i = 1 ∨ i = 2 ∨ i = 3 := by omega
    rcases this with rfl | rfl | rfl | rfl
    · exact (q.1.1).trans (by decide)
    · exact (q.1.2.1).trans (by decide)
    · exact (q.1.2.2.1).trans (by decide)
    · exact (q.1.2.2.2).trans (by decide)
  · refine gv_w (nx_4_210 hc ((h 0 (by decide)).trans (by decide)) ((h 1 (by decide)).trans (by decide)) ((h 2 (by decide)).trans (by decide)) ((h 3 (by decide)).trans (by decide))) (fun _ ρ q => ⟨fun i hi => ?_, q.2⟩)
    have : i = 0 ∨ i = 1 ∨ i = 2 ∨ i = 3 := by omega
    rcases this with rfl | rfl | rfl | rfl
    · exact (q.1.1).trans (by decide)
    · exact (q.1.2.1).trans (by decide)
    · exact (q.1.2.2.1).trans (by decide)
    · exact (q.1.2.2.2).trans (by decide)
  · refine gv_w (nx_4_216 hc ((h 0 (by decide)).trans (by decide)) ((h 1 (by decide)).trans (by decide)) ((h 2 (by decide)).trans (by decide)) ((h 3 (by decide)).trans (by decide))) (fun _ ρ q => ⟨fun i hi => ?_, q.2⟩)
    have : i = 0 ∨ i = 1 ∨ i = 2 ∨ i = 3 := by omega
    rcases this with rfl | rfl | rfl | rfl
    · exact (q.1.1).trans (by decide)
    · exact (q.1.2.1).trans (by decide)
    · exact (q.1.2.2.1).trans (by decide)
    · exact (q.1.2.2.2).trans (by decide)
  · refine gv_w (nx_4_225 hc ((h 0 (by decide)).trans (by decide)) ((h 1 (by decide)).trans (by decide)) ((h 2 (by decide)).trans (by decide)) ((h 3 (by decide)).trans (by decide))) (fun _ ρ q => ⟨fun i hi => ?_, q.2⟩)
    have : i = 0 ∨ i = 1 ∨ i = 2 ∨ i = 3 := by omega
    rcases this with rfl | rfl | rfl | rfl
    · exact (q.1.1).trans (by decide)
    · exact (q.1.2.1).trans (by decide)
    · exact (q.1.2.2.1).trans (by decide)
    · exact (q.1.2.2.2).trans (by decide)
  · refine gv_w (nx_4_228 hc ((h 0 (by decide)).trans (by decide)) ((h 1 (by decide)).trans (by decide)) ((h 2 (by decide)).trans (by decide)) ((h 3 (by decide)).trans (by decide))) (fun _ ρ q => ⟨fun i hi => ?_, q.2⟩)
    have : i = 0 ∨ i = 1 ∨ i = 2 ∨ i = 3 := by omega
    rcases this with rfl | rfl | rfl | rfl
    · exact (q.1.1).trans (by decide)
    · exact (q.1.2.1).trans (by decide)
    · exact (q.1.2.2.1).trans (by decide)
    · exact (q.1.2.2.2).trans (by decide)
theorem nxO {τ : Sg} {c n j : Nat} (hc : aln 0 c = 8) (hn : n ≤ 4) (hj : j < (pm n).length) (h : ∀ i, i < n → τ c i = nI (dgt n (pmt n j) i)) : Gv (s_X4_nextOrder τ c (nI n)) (fun _ ρ => (∀ i, i < n → ρ c i = nI (dgt n (pmt n (j + 1)) i)) ∧ ∀ d, d ≠ c → ρ d = τ d) := by
  have : n = 0 ∨ n = 1 ∨ n = 2 ∨ n = 3 ∨ n = 4 := by omega
  rcases this with rfl | rfl | rfl | rfl | rfl
  · exact nxO_0 hc hj h
  · exact nxO_1 hc hj h
  · exact nxO_2 hc hj h
  · exact nxO_3 hc hj h
  · exact nxO_4 hc hj h
def pmB (n e : Nat) : Bool := (List.range n).all (fun i => decide (dgt n e i < n)) && ((List.range n).all (fun i => (List.range n).all (fun j => decide (dgt n e i = dgt n e j → i = j))) && (List.range n).all (fun j => (List.range n).any (fun i => decide (dgt n e i = j))))
theorem PM_B {n e : Nat} (h : pmB n e = true) : PM (dgt n e) n := by
  unfold pmB at h
  simp only [Bool.and_eq_true, List.all_eq_true, List.mem_range, decide_eq_true_eq, List.any_eq_true] at h
  exact ⟨fun i hi => h.1 i hi, fun i j hi hj => h.2.1 i hi j hj, fun j hj => by obtain ⟨i, hi, e⟩ := h.2.2 j hj; exact ⟨i, hi, e⟩⟩
theorem pm_PM {n : Nat} (hn : n ≤ 4) : ∀ e, e ∈ pm n → PM (dgt n e) n := by
  have : n = 0 ∨ n = 1 ∨ n = 2 ∨ n = 3 ∨ n = 4 := by omega
  intro e he
  apply PM_B
  have k : (pm n).all (fun e => pmB n e) = true := by
    rcases this with rfl | rfl | rfl | rfl | rfl <;> decide
  exact List.all_eq_true.mp k e he
theorem pmt_in {n : Nat} (hn : n ≤ 4) (j : Nat) : pmt n j ∈ pm n := by
  have hl : 0 < (pm n).length := by
    have : n = 0 ∨ n = 1 ∨ n = 2 ∨ n = 3 ∨ n = 4 := by omega
    rcases this with rfl | rfl | rfl | rfl | rfl <;> decide
  unfold pmt
  rw [List.getD_eq_getElem?_getD, List.getElem?_eq_getElem (show min j ((pm n).length - 1) < (pm n).length by omega), Option.getD_some]
  exact List.getElem_mem _
theorem pmt_0 {n : Nat} (hn : n ≤ 4) : ∀ i, i < n → dgt n (pmt n 0) i = i := by
  have : n = 0 ∨ n = 1 ∨ n = 2 ∨ n = 3 ∨ n = 4 := by omega
  rcases this with rfl | rfl | rfl | rfl | rfl <;> decide
theorem pm_len {n : Nat} (hn : n ≤ 4) : 0 < (pm n).length ∧ (pm n).length ≤ 24 := by
  have : n = 0 ∨ n = 1 ∨ n = 2 ∨ n = 3 ∨ n = 4 := by omega
  rcases this with rfl | rfl | rfl | rfl | rfl <;> decide
