def pm (n : Nat) : List Nat := if n = 4 then [27, 30, 39, 45, 54, 57, 75, 78, 99, 108, 114, 120, 135, 141, 147, 156, 177, 180, 198, 201, 210, 216, 225, 228] else if n = 3 then [5, 7, 11, 15, 19, 21] else if n = 2 then [1, 2] else [0]
def dgt (n e i : Nat) : Nat := e / n ^ (n - 1 - i) % n
theorem in08 : (inb 0 8 = true) = True ∧ (inb 1 8 = true) = True ∧ (inb 2 8 = true) = True ∧ (inb 3 8 = true) = True := by decide
theorem arI : (0 : Int32) - 1 = (-1) ∧ (0 : Int32) - 2 = (-2) ∧ (1 : Int32) - 1 = 0 ∧ (1 : Int32) - 2 = (-1) ∧ (2 : Int32) - 1 = 1 ∧ (2 : Int32) - 2 = 0 ∧ (3 : Int32) - 1 = 2 ∧ (3 : Int32) - 2 = 1 ∧ (4 : Int32) - 1 = 3 ∧ (4 : Int32) - 2 = 2 ∧ (0 : Int32) + -1 = (-1) ∧ (1 : Int32) + -1 = 0 ∧ (2 : Int32) + -1 = 1 ∧ (3 : Int32) + -1 = 2 ∧ (0 : Int32) + 1 = 1 ∧ (1 : Int32) + 1 = 2 ∧ (2 : Int32) + 1 = 3 ∧ (3 : Int32) + 1 = 4 := by decide
theorem nx_0_0 {τ : Sg} {c : Nat} (hc : aln 0 c = 8)  : Gv (s_X4_nextOrder τ c 0) (fun _ ρ => (True) ∧ ∀ d, d ≠ c → ρ d = τ d) := by
  unfold s_X4_nextOrder
  simp (decide := true) only [↓lt_e, FU, s_X4_nextOrder_6, s_X4_nextOrder_35, s_X4_nextOrder_47, s_X4_nextOrder_78, s_X4_nextOrder_94, s_X10_swap, hc, arI, in08, k0c, k1c, k2c, k3c, bv_some, ↓reduceIte, up_s, up_k]
  refine gv_i ⟨?_, ?_⟩
  · trivial
  · intro d hd; simp [up_d hd, up, hd]
theorem nx_1_0 {τ : Sg} {c : Nat} (hc : aln 0 c = 8) (h0 : τ c 0 = 0) : Gv (s_X4_nextOrder τ c 1) (fun _ ρ => (ρ c 0 = 0) ∧ ∀ d, d ≠ c → ρ d = τ d) := by
  unfold s_X4_nextOrder
  simp (decide := true) only [↓lt_e, FU, s_X4_nextOrder_6, s_X4_nextOrder_35, s_X4_nextOrder_47, s_X4_nextOrder_78, s_X4_nextOrder_94, s_X10_swap, hc, arI, in08, k0c, k1c, k2c, k3c, bv_some, ↓reduceIte, up_s, up_k, h0]
  refine gv_i ⟨?_, ?_⟩
  · simp [up, h0]
  · intro d hd; simp [up_d hd, up, hd]
theorem nx_2_1 {τ : Sg} {c : Nat} (hc : aln 0 c = 8) (h0 : τ c 0 = 0) (h1 : τ c 1 = 1) : Gv (s_X4_nextOrder τ c 2) (fun _ ρ => (ρ c 0 = 1 ∧ ρ c 1 = 0) ∧ ∀ d, d ≠ c → ρ d = τ d) := by
  unfold s_X4_nextOrder
  simp (decide := true) only [↓lt_e, FU, s_X4_nextOrder_6, s_X4_nextOrder_35, s_X4_nextOrder_47, s_X4_nextOrder_78, s_X4_nextOrder_94, s_X10_swap, hc, arI, in08, k0c, k1c, k2c, k3c, bv_some, ↓reduceIte, up_s, up_k, h0, h1]
  refine gv_i ⟨?_, ?_⟩
  · simp [up, h0, h1]
  · intro d hd; simp [up_d hd, up, hd]
theorem nx_2_2 {τ : Sg} {c : Nat} (hc : aln 0 c = 8) (h0 : τ c 0 = 1) (h1 : τ c 1 = 0) : Gv (s_X4_nextOrder τ c 2) (fun _ ρ => (ρ c 0 = 1 ∧ ρ c 1 = 0) ∧ ∀ d, d ≠ c → ρ d = τ d) := by
  unfold s_X4_nextOrder
  simp (decide := true) only [↓lt_e, FU, s_X4_nextOrder_6, s_X4_nextOrder_35, s_X4_nextOrder_47, s_X4_nextOrder_78, s_X4_nextOrder_94, s_X10_swap, hc, arI, in08, k0c, k1c, k2c, k3c, bv_some, ↓reduceIte, up_s, up_k, h0, h1]
  refine gv_i ⟨?_, ?_⟩
  · simp [up, h0, h1]
  · intro d hd; simp [up_d hd, up, hd]
theorem nx_3_5 {τ : Sg} {c : Nat} (hc : aln 0 c = 8) (h0 : τ c 0 = 0) (h1 : τ c 1 = 1) (h2 : τ c 2 = 2) : Gv (s_X4_nextOrder τ c 3) (fun _ ρ => (ρ c 0 = 0 ∧ ρ c 1 = 2 ∧ ρ c 2 = 1) ∧ ∀ d, d ≠ c → ρ d = τ d) := by
  unfold s_X4_nextOrder
  simp (decide := true) only [↓lt_e, FU, s_X4_nextOrder_6, s_X4_nextOrder_35, s_X4_nextOrder_47, s_X4_nextOrder_78, s_X4_nextOrder_94, s_X10_swap, hc, arI, in08, k0c, k1c, k2c, k3c, bv_some, ↓reduceIte, up_s, up_k, h0, h1, h2]
  refine gv_i ⟨?_, ?_⟩
  · simp [up, h0, h1, h2]
  · intro d hd; simp [up_d hd, up, hd]
theorem nx_3_7 {τ : Sg} {c : Nat} (hc : aln 0 c = 8) (h0 : τ c 0 = 0) (h1 : τ c 1 = 2) (h2 : τ c 2 = 1) : Gv (s_X4_nextOrder τ c 3) (fun _ ρ => (ρ c 0 = 1 ∧ ρ c 1 = 0 ∧ ρ c 2 = 2) ∧ ∀ d, d ≠ c → ρ d = τ d) := by
  unfold s_X4_nextOrder
  simp (decide := true) only [↓lt_e, FU, s_X4_nextOrder_6, s_X4_nextOrder_35, s_X4_nextOrder_47, s_X4_nextOrder_78, s_X4_nextOrder_94, s_X10_swap, hc, arI, in08, k0c, k1c, k2c, k3c, bv_some, ↓reduceIte, up_s, up_k, h0, h1, h2]
  refine gv_i ⟨?_, ?_⟩
  · simp [up, h0, h1, h2]
  · intro d hd; simp [up_d hd, up, hd]
theorem nx_3_11 {τ : Sg} {c : Nat} (hc : aln 0 c = 8) (h0 : τ c 0 = 1) (h1 : τ c 1 = 0) (h2 : τ c 2 = 2) : Gv (s_X4_nextOrder τ c 3) (fun _ ρ => (ρ c 0 = 1 ∧ ρ c 1 = 2 ∧ ρ c 2 = 0) ∧ ∀ d, d ≠ c → ρ d = τ d) := by
  unfold s_X4_nextOrder
  simp (decide := true) only [↓lt_e, FU, s_X4_nextOrder_6, s_X4_nextOrder_35, s_X4_nextOrder_47, s_X4_nextOrder_78, s_X4_nextOrder_94, s_X10_swap, hc, arI, in08, k0c, k1c, k2c, k3c, bv_some, ↓reduceIte, up_s, up_k, h0, h1, h2]
  refine gv_i ⟨?_, ?_⟩
  · simp [up, h0, h1, h2]
  · intro d hd; simp [up_d hd, up, hd]
theorem nx_3_15 {τ : Sg} {c : Nat} (hc : aln 0 c = 8) (h0 : τ c 0 = 1) (h1 : τ c 1 = 2) (h2 : τ c 2 = 0) : Gv (s_X4_nextOrder τ c 3) (fun _ ρ => (ρ c 0 = 2 ∧ ρ c 1 = 0 ∧ ρ c 2 = 1) ∧ ∀ d, d ≠ c → ρ d = τ d) := by
  unfold s_X4_nextOrder
  simp (decide := true) only [↓lt_e, FU, s_X4_nextOrder_6, s_X4_nextOrder_35, s_X4_nextOrder_47, s_X4_nextOrder_78, s_X4_nextOrder_94, s_X10_swap, hc, arI, in08, k0c, k1c, k2c, k3c, bv_some, ↓reduceIte, up_s, up_k, h0, h1, h2]
  refine gv_i ⟨?_, ?_⟩
  · simp [up, h0, h1, h2]
  · intro d hd; simp [up_d hd, up, hd]
theorem nx_3_19 {τ : Sg} {c : Nat} (hc : aln 0 c = 8) (h0 : τ c 0 = 2) (h1 : τ c 1 = 0) (h2 : τ c 2 = 1) : Gv (s_X4_nextOrder τ c 3) (fun _ ρ => (ρ c 0 = 2 ∧ ρ c 1 = 1 ∧ ρ c 2 = 0) ∧ ∀ d, d ≠ c → ρ d = τ d) := by
  unfold s_X4_nextOrder
  simp (decide := true) only [↓lt_e, FU, s_X4_nextOrder_6, s_X4_nextOrder_35, s_X4_nextOrder_47, s_X4_nextOrder_78, s_X4_nextOrder_94, s_X10_swap, hc, arI, in08, k0c, k1c, k2c, k3c, bv_some, ↓reduceIte, up_s, up_k, h0, h1, h2]
  refine gv_i ⟨?_, ?_⟩
  · simp [up, h0, h1, h2]
  · intro d hd; simp [up_d hd, up, hd]
theorem nx_3_21 {τ : Sg} {c : Nat} (hc : aln 0 c = 8) (h0 : τ c 0 = 2) (h1 : τ c 1 = 1) (h2 : τ c 2 = 0) : Gv (s_X4_nextOrder τ c 3) (fun _ ρ => (ρ c 0 = 2 ∧ ρ c 1 = 1 ∧ ρ c 2 = 0) ∧ ∀ d, d ≠ c → ρ d = τ d) := by
  unfold s_X4_nextOrder
  simp (decide := true) only [↓lt_e, FU, s_X4_nextOrder_6, s_X4_nextOrder_35, s_X4_nextOrder_47, s_X4_nextOrder_78, s_X4_nextOrder_94, s_X10_swap, hc, arI, in08, k0c, k1c, k2c, k3c, bv_some, ↓reduceIte, up_s, up_k, h0, h1, h2]
  refine gv_i ⟨?_, ?_⟩
  · simp [up, h0, h1, h2]
  · intro d hd; simp [up_d hd, up, hd]
theorem nx_4_27 {τ : Sg} {c : Nat} (hc : aln 0 c = 8) (h0 : τ c 0 = 0) (h1 : τ c 1 = 1) (h2 : τ c 2 = 2) (h3 : τ c 3 = 3) : Gv (s_X4_nextOrder τ c 4) (fun _ ρ => (ρ c 0 = 0 ∧ ρ c 1 = 1 ∧ ρ c 2 = 3 ∧ ρ c 3 = 2) ∧ ∀ d, d ≠ c → ρ d = τ d) := by
  unfold s_X4_nextOrder
  simp (decide := true) only [↓lt_e, FU, s_X4_nextOrder_6, s_X4_nextOrder_35, s_X4_nextOrder_47, s_X4_nextOrder_78, s_X4_nextOrder_94, s_X10_swap, hc, arI, in08, k0c, k1c, k2c, k3c, bv_some, ↓reduceIte, up_s, up_k, h0, h1, h2, h3]
  refine gv_i ⟨?_, ?_⟩
  · simp [up, h0, h1, h2, h3]
  · intro d hd; simp [up_d hd, up, hd]
theorem nx_4_30 {τ : Sg} {c : Nat} (hc : aln 0 c = 8) (h0 : τ c 0 = 0) (h1 : τ c 1 = 1) (h2 : τ c 2 = 3) (h3 : τ c 3 = 2) : Gv (s_X4_nextOrder τ c 4) (fun _ ρ => (ρ c 0 = 0 ∧ ρ c 1 = 2 ∧ ρ c 2 = 1 ∧ ρ c 3 = 3) ∧ ∀ d, d ≠ c → ρ d = τ d) := by
  unfold s_X4_nextOrder
  simp (decide := true) only [↓lt_e, FU, s_X4_nextOrder_6, s_X4_nextOrder_35, s_X4_nextOrder_47, s_X4_nextOrder_78, s_X4_nextOrder_94, s_X10_swap, hc, arI, in08, k0c, k1c, k2c, k3c, bv_some, ↓reduceIte, up_s, up_k, h0, h1, h2, h3]
  refine gv_i ⟨?_, ?_⟩
  · simp [up, h0, h1, h2, h3]
  · intro d hd; simp [up_d hd, up, hd]
theorem nx_4_39 {τ : Sg} {c : Nat} (hc : aln 0 c = 8) (h0 : τ c 0 = 0) (h1 : τ c 1 = 2) (h2 : τ c 2 = 1) (h3 : τ c 3 = 3) : Gv (s_X4_nextOrder τ c 4) (fun _ ρ => (ρ c 0 = 0 ∧ ρ c 1 = 2 ∧ ρ c 2 = 3 ∧ ρ c 3 = 1) ∧ ∀ d, d ≠ c → ρ d = τ d) := by
  unfold s_X4_nextOrder
  simp (decide := true) only [↓lt_e, FU, s_X4_nextOrder_6, s_X4_nextOrder_35, s_X4_nextOrder_47, s_X4_nextOrder_78, s_X4_nextOrder_94, s_X10_swap, hc, arI, in08, k0c, k1c, k2c, k3c, bv_some, ↓reduceIte, up_s, up_k, h0, h1, h2, h3]
  refine gv_i ⟨?_, ?_⟩
  · simp [up, h0, h1, h2, h3]
  · intro d hd; simp [up_d hd, up, hd]
theorem nx_4_45 {τ : Sg} {c : Nat} (hc : aln 0 c = 8) (h0 : τ c 0 = 0) (h1 : τ c 1 = 2) (h2 : τ c 2 = 3) (h3 : τ c 3 = 1) : Gv (s_X4_nextOrder τ c 4) (fun _ ρ => (ρ c 0 = 0 ∧ ρ c 1 = 3 ∧ ρ c 2 = 1 ∧ ρ c 3 = 2) ∧ ∀ d, d ≠ c → ρ d = τ d) := by
  unfold s_X4_nextOrder
  simp (decide := true) only [↓lt_e, FU, s_X4_nextOrder_6, s_X4_nextOrder_35, s_X4_nextOrder_47, s_X4_nextOrder_78, s_X4_nextOrder_94, s_X10_swap, hc, arI, in08, k0c, k1c, k2c, k3c, bv_some, ↓reduceIte, up_s, up_k, h0, h1, h2, h3]
  refine gv_i ⟨?_, ?_⟩
  · simp [up, h0, h1, h2, h3]
  · intro d hd; simp [up_d hd, up, hd]
theorem nx_4_54 {τ : Sg} {c : Nat} (hc : aln 0 c = 8) (h0 : τ c 0 = 0) (h1 : τ c 1 = 3) (h2 : τ c 2 = 1) (h3 : τ c 3 = 2) : Gv (s_X4_nextOrder τ c 4) (fun _ ρ => (ρ c 0 = 0 ∧ ρ c 1 = 3 ∧ ρ c 2 = 2 ∧ ρ c 3 = 1) ∧ ∀ d, d ≠ c → ρ d = τ d) := by
  unfold s_X4_nextOrder
  simp (decide := true) only [↓lt_e, FU, s_X4_nextOrder_6, s_X4_nextOrder_35, s_X4_nextOrder_47, s_X4_nextOrder_78, s_X4_nextOrder_94, s_X10_swap, hc, arI, in08, k0c, k1c, k2c, k3c, bv_some, ↓reduceIte, up_s, up_k, h0, h1, h2, h3]
  refine gv_i ⟨?_, ?_⟩
  · simp [up, h0, h1, h2, h3]
  · intro d hd; simp [up_d hd, up, hd]
theorem nx_4_57 {τ : Sg} {c : Nat} (hc : aln 0 c = 8) (h0 : τ c 0 = 0) (h1 : τ c 1 = 3) (h2 : τ c 2 = 2) (h3 : τ c 3 = 1) : Gv (s_X4_nextOrder τ c 4) (fun _ ρ => (ρ c 0 = 1 ∧ ρ c 1 = 0 ∧ ρ c 2 = 2 ∧ ρ c 3 = 3) ∧ ∀ d, d ≠ c → ρ d = τ d) := by
  unfold s_X4_nextOrder
  simp (decide := true) only [↓lt_e, FU, s_X4_nextOrder_6, s_X4_nextOrder_35, s_X4_nextOrder_47, s_X4_nextOrder_78, s_X4_nextOrder_94, s_X10_swap, hc, arI, in08, k0c, k1c, k2c, k3c, bv_some, ↓reduceIte, up_s, up_k, h0, h1, h2, h3]
  refine gv_i ⟨?_, ?_⟩
  · simp [up, h0, h1, h2, h3]
  · intro d hd; simp [up_d hd, up, hd]
theorem nx_4_75 {τ : Sg} {c : Nat} (hc : aln 0 c = 8) (h0 : τ c 0 = 1) (h1 : τ c 1 = 0) (h2 : τ c 2 = 2) (h3 : τ c 3 = 3) : Gv (s_X4_nextOrder τ c 4) (fun _ ρ => (ρ c 0 = 1 ∧ ρ c 1 = 0 ∧ ρ c 2 = 3 ∧ ρ c 3 = 2) ∧ ∀ d, d ≠ c → ρ d = τ d) := by
  unfold s_X4_nextOrder
  simp (decide := true) only [↓lt_e, FU, s_X4_nextOrder_6, s_X4_nextOrder_35, s_X4_nextOrder_47, s_X4_nextOrder_78, s_X4_nextOrder_94, s_X10_swap, hc, arI, in08, k0c, k1c, k2c, k3c, bv_some, ↓reduceIte, up_s, up_k, h0, h1, h2, h3]
  refine gv_i ⟨?_, ?_⟩
  · simp [up, h0, h1, h2, h3]
  · intro d hd; simp [up_d hd, up, hd]
theorem nx_4_78 {τ : Sg} {c : Nat} (hc : aln 0 c = 8) (h0 : τ c 0 = 1) (h1 : τ c 1 = 0) (h2 : τ c 2 = 3) (h3 : τ c 3 = 2) : Gv (s_X4_nextOrder τ c 4) (fun _ ρ => (ρ c 0 = 1 ∧ ρ c 1 = 2 ∧ ρ c 2 = 0 ∧ ρ c 3 = 3) ∧ ∀ d, d ≠ c → ρ d = τ d) := by
  unfold s_X4_nextOrder
  simp (decide := true) only [↓lt_e, FU, s_X4_nextOrder_6, s_X4_nextOrder_35, s_X4_nextOrder_47, s_X4_nextOrder_78, s_X4_nextOrder_94, s_X10_swap, hc, arI, in08, k0c, k1c, k2c, k3c, bv_some, ↓reduceIte, up_s, up_k, h0, h1, h2, h3]
  refine gv_i ⟨?_, ?_⟩
  · simp [up, h0, h1, h2, h3]
  · intro d hd; simp [up_d hd, up, hd]
theorem nx_4_99 {τ : Sg} {c : Nat} (hc : aln 0 c = 8) (h0 : τ c 0 = 1) (h1 : τ c 1 = 2) (h2 : τ c 2 = 0) (h3 : τ c 3 = 3) : Gv (s_X4_nextOrder τ c 4) (fun _ ρ => (ρ c 0 = 1 ∧ ρ c 1 = 2 ∧ ρ c 2 = 3 ∧ ρ c 3 = 0) ∧ ∀ d, d ≠ c → ρ d = τ d) := by
  unfold s_X4_nextOrder
  simp (decide := true) only [↓lt_e, FU, s_X4_nextOrder_6, s_X4_nextOrder_35, s_X4_nextOrder_47, s_X4_nextOrder_78, s_X4_nextOrder_94, s_X10_swap, hc, arI, in08, k0c, k1c, k2c, k3c, bv_some, ↓reduceIte, up_s, up_k, h0, h1, h2, h3]
  refine gv_i ⟨?_, ?_⟩
  · simp [up, h0, h1, h2, h3]
  · intro d hd; simp [up_d hd, up, hd]
theorem nx_4_108 {τ : Sg} {c : Nat} (hc : aln 0 c = 8) (h0 : τ c 0 = 1) (h1 : τ c 1 = 2) (h2 : τ c 2 = 3) (h3 : τ c 3 = 0) : Gv (s_X4_nextOrder τ c 4) (fun _ ρ => (ρ c 0 = 1 ∧ ρ c 1 = 3 ∧ ρ c 2 = 0 ∧ ρ c 3 = 2) ∧ ∀ d, d ≠ c → ρ d = τ d) := by
  unfold s_X4_nextOrder
  simp (decide := true) only [↓lt_e, FU, s_X4_nextOrder_6, s_X4_nextOrder_35, s_X4_nextOrder_47, s_X4_nextOrder_78, s_X4_nextOrder_94, s_X10_swap, hc, arI, in08, k0c, k1c, k2c, k3c, bv_some, ↓reduceIte, up_s, up_k, h0, h1, h2, h3]
  refine gv_i ⟨?_, ?_⟩
  · simp [up, h0, h1, h2, h3]
  · intro d hd; simp [up_d hd, up, hd]
theorem nx_4_114 {τ : Sg} {c : Nat} (hc : aln 0 c = 8) (h0 : τ c 0 = 1) (h1 : τ c 1 = 3) (h2 : τ c 2 = 0) (h3 : τ c 3 = 2) : Gv (s_X4_nextOrder τ c 4) (fun _ ρ => (ρ c 0 = 1 ∧ ρ c 1 = 3 ∧ ρ c 2 = 2 ∧ ρ c 3 = 0) ∧ ∀ d, d ≠ c → ρ d = τ d) := by
  unfold s_X4_nextOrder
  simp (decide := true) only [↓lt_e, FU, s_X4_nextOrder_6, s_X4_nextOrder_35, s_X4_nextOrder_47, s_X4_nextOrder_78, s_X4_nextOrder_94, s_X10_swap, hc, arI, in08, k0c, k1c, k2c, k3c, bv_some, ↓reduceIte, up_s, up_k, h0, h1, h2, h3]
  refine gv_i ⟨?_, ?_⟩
  · simp [up, h0, h1, h2, h3]
  · intro d hd; simp [up_d hd, up, hd]
theorem nx_4_120 {τ : Sg} {c : Nat} (hc : aln 0 c = 8) (h0 : τ c 0 = 1) (h1 : τ c 1 = 3) (h2 : τ c 2 = 2) (h3 : τ c 3 = 0) : Gv (s_X4_nextOrder τ c 4) (fun _ ρ => (ρ c 0 = 2 ∧ ρ c 1 = 0 ∧ ρ c 2 = 1 ∧ ρ c 3 = 3) ∧ ∀ d, d ≠ c → ρ d = τ d) := by
  unfold s_X4_nextOrder
  simp (decide := true) only [↓lt_e, FU, s_X4_nextOrder_6, s_X4_nextOrder_35, s_X4_nextOrder_47, s_X4_nextOrder_78, s_X4_nextOrder_94, s_X10_swap, hc, arI, in08, k0c, k1c, k2c, k3c, bv_some, ↓reduceIte, up_s, up_k, h0, h1, h2, h3]
  refine gv_i ⟨?_, ?_⟩
  · simp [up, h0, h1, h2, h3]
  · intro d hd; simp [up_d hd, up, hd]
theorem nx_4_135 {τ : Sg} {c : Nat} (hc : aln 0 c = 8) (h0 : τ c 0 = 2) (h1 : τ c 1 = 0) (h2 : τ c 2 = 1) (h3 : τ c 3 = 3) : Gv (s_X4_nextOrder τ c 4) (fun _ ρ => (ρ c 0 = 2 ∧ ρ c 1 = 0 ∧ ρ c 2 = 3 ∧ ρ c 3 = 1) ∧ ∀ d, d ≠ c → ρ d = τ d) := by
  unfold s_X4_nextOrder
  simp (decide := true) only [↓lt_e, FU, s_X4_nextOrder_6, s_X4_nextOrder_35, s_X4_nextOrder_47, s_X4_nextOrder_78, s_X4_nextOrder_94, s_X10_swap, hc, arI, in08, k0c, k1c, k2c, k3c, bv_some, ↓reduceIte, up_s, up_k, h0, h1, h2, h3]
  refine gv_i ⟨?_, ?_⟩
  · simp [up, h0, h1, h2, h3]
  · intro d hd; simp [up_d hd, up, hd]
theorem nx_4_141 {τ : Sg} {c : Nat} (hc : aln 0 c = 8) (h0 : τ c 0 = 2) (h1 : τ c 1 = 0) (h2 : τ c 2 = 3) (h3 : τ c 3 = 1) : Gv (s_X4_nextOrder τ c 4) (fun _ ρ => (ρ c 0 = 2 ∧ ρ c 1 = 1 ∧ ρ c 2 = 0 ∧ ρ c 3 = 3) ∧ ∀ d, d ≠ c → ρ d = τ d) := by
  unfold s_X4_nextOrder
  simp (decide := true) only [↓lt_e, FU, s_X4_nextOrder_6, s_X4_nextOrder_35, s_X4_nextOrder_47, s_X4_nextOrder_78, s_X4_nextOrder_94, s_X10_swap, hc, arI, in08, k0c, k1c, k2c, k3c, bv_some, ↓reduceIte, up_s, up_k, h0, h1, h2, h3]
  refine gv_i ⟨?_, ?_⟩
  · simp [up, h0, h1, h2, h3]
  · intro d hd; simp [up_d hd, up, hd]
theorem nx_4_147 {τ : Sg} {c : Nat} (hc : aln 0 c = 8) (h0 : τ c 0 = 2) (h1 : τ c 1 = 1) (h2 : τ c 2 = 0) (h3 : τ c 3 = 3) : Gv (s_X4_nextOrder τ c 4) (fun _ ρ => (ρ c 0 = 2 ∧ ρ c 1 = 1 ∧ ρ c 2 = 3 ∧ ρ c 3 = 0) ∧ ∀ d, d ≠ c → ρ d = τ d) := by
  unfold s_X4_nextOrder
  simp (decide := true) only [↓lt_e, FU, s_X4_nextOrder_6, s_X4_nextOrder_35, s_X4_nextOrder_47, s_X4_nextOrder_78, s_X4_nextOrder_94, s_X10_swap, hc, arI, in08, k0c, k1c, k2c, k3c, bv_some, ↓reduceIte, up_s, up_k, h0, h1, h2, h3]
  refine gv_i ⟨?_, ?_⟩
  · simp [up, h0, h1, h2, h3]
  · intro d hd; simp [up_d hd, up, hd]
theorem nx_4_156 {τ : Sg} {c : Nat} (hc : aln 0 c = 8) (h0 : τ c 0 = 2) (h1 : τ c 1 = 1) (h2 : τ c 2 = 3) (h3 : τ c 3 = 0) : Gv (s_X4_nextOrder τ c 4) (fun _ ρ => (ρ c 0 = 2 ∧ ρ c 1 = 3 ∧ ρ c 2 = 0 ∧ ρ c 3 = 1) ∧ ∀ d, d ≠ c → ρ d = τ d) := by
  unfold s_X4_nextOrder
  simp (decide := true) only [↓lt_e, FU, s_X4_nextOrder_6, s_X4_nextOrder_35, s_X4_nextOrder_47, s_X4_nextOrder_78, s_X4_nextOrder_94, s_X10_swap, hc, arI, in08, k0c, k1c, k2c, k3c, bv_some, ↓reduceIte, up_s, up_k, h0, h1, h2, h3]
  refine gv_i ⟨?_, ?_⟩
  · simp [up, h0, h1, h2, h3]
  · intro d hd; simp [up_d hd, up, hd]
theorem nx_4_177 {τ : Sg} {c : Nat} (hc : aln 0 c = 8) (h0 : τ c 0 = 2) (h1 : τ c 1 = 3) (h2 : τ c 2 = 0) (h3 : τ c 3 = 1) : Gv (s_X4_nextOrder τ c 4) (fun _ ρ => (ρ c 0 = 2 ∧ ρ c 1 = 3 ∧ ρ c 2 = 1 ∧ ρ c 3 = 0) ∧ ∀ d, d ≠ c → ρ d = τ d) := by
  unfold s_X4_nextOrder
  simp (decide := true) only [↓lt_e, FU, s_X4_nextOrder_6, s_X4_nextOrder_35, s_X4_nextOrder_47, s_X4_nextOrder_78, s_X4_nextOrder_94, s_X10_swap, hc, arI, in08, k0c, k1c, k2c, k3c, bv_some, ↓reduceIte, up_s, up_k, h0, h1, h2, h3]
  refine gv_i ⟨?_, ?_⟩
  · simp [up, h0, h1, h2, h3]
  · intro d hd; simp [up_d hd, up, hd]
theorem nx_4_180 {τ : Sg} {c : Nat} (hc : aln 0 c = 8) (h0 : τ c 0 = 2) (h1 : τ c 1 = 3) (h2 : τ c 2 = 1) (h3 : τ c 3 = 0) : Gv (s_X4_nextOrder τ c 4) (fun _ ρ => (ρ c 0 = 3 ∧ ρ c 1 = 0 ∧ ρ c 2 = 1 ∧ ρ c 3 = 2) ∧ ∀ d, d ≠ c → ρ d = τ d) := by
  unfold s_X4_nextOrder
  simp (decide := true) only [↓lt_e, FU, s_X4_nextOrder_6, s_X4_nextOrder_35, s_X4_nextOrder_47, s_X4_nextOrder_78, s_X4_nextOrder_94, s_X10_swap, hc, arI, in08, k0c, k1c, k2c, k3c, bv_some, ↓reduceIte, up_s, up_k, h0, h1, h2, h3]
  refine gv_i ⟨?_, ?_⟩
  · simp [up, h0, h1, h2, h3]
  · intro d hd; simp [up_d hd, up, hd]
theorem nx_4_198 {τ : Sg} {c : Nat} (hc : aln 0 c = 8) (h0 : τ c 0 = 3) (h1 : τ c 1 = 0) (h2 : τ c 2 = 1) (h3 : τ c 3 = 2) : Gv (s_X4_nextOrder τ c 4) (fun _ ρ => (ρ c 0 = 3 ∧ ρ c 1 = 0 ∧ ρ c 2 = 2 ∧ ρ c 3 = 1) ∧ ∀ d, d ≠ c → ρ d = τ d) := by
  unfold s_X4_nextOrder
  simp (decide := true) only [↓lt_e, FU, s_X4_nextOrder_6, s_X4_nextOrder_35, s_X4_nextOrder_47, s_X4_nextOrder_78, s_X4_nextOrder_94, s_X10_swap, hc, arI, in08, k0c, k1c, k2c, k3c, bv_some, ↓reduceIte, up_s, up_k, h0, h1, h2, h3]
  refine gv_i ⟨?_, ?_⟩
  · simp [up, h0, h1, h2, h3]
  · intro d hd; simp [up_d hd, up, hd]
theorem nx_4_201 {τ : Sg} {c : Nat} (hc : aln 0 c = 8) (h0 : τ c 0 = 3) (h1 : τ c 1 = 0) (h2 : τ c 2 = 2) (h3 : τ c 3 = 1) : Gv (s_X4_nextOrder τ c 4) (fun _ ρ => (ρ c 0 = 3 ∧ ρ c 1 = 1 ∧ ρ c 2 = 0 ∧ ρ c 3 = 2) ∧ ∀ d, d ≠ c → ρ d = τ d) := by
  unfold s_X4_nextOrder
  simp (decide := true) only [↓lt_e, FU, s_X4_nextOrder_6, s_X4_nextOrder_35, s_X4_nextOrder_47, s_X4_nextOrder_78, s_X4_nextOrder_94, s_X10_swap, hc, arI, in08, k0c, k1c, k2c, k3c, bv_some, ↓reduceIte, up_s, up_k, h0, h1, h2, h3]
  refine gv_i ⟨?_, ?_⟩
  · simp [up, h0, h1, h2, h3]
  · intro d hd; simp [up_d hd, up, hd]
theorem nx_4_210 {τ : Sg} {c : Nat} (hc : aln 0 c = 8) (h0 : τ c 0 = 3) (h1 : τ c 1 = 1) (h2 : τ c 2 = 0) (h3 : τ c 3 = 2) : Gv (s_X4_nextOrder τ c 4) (fun _ ρ => (ρ c 0 = 3 ∧ ρ c 1 = 1 ∧ ρ c 2 = 2 ∧ ρ c 3 = 0) ∧ ∀ d, d ≠ c → ρ d = τ d) := by
  unfold s_X4_nextOrder
  simp (decide := true) only [↓lt_e, FU, s_X4_nextOrder_6, s_X4_nextOrder_35, s_X4_nextOrder_47, s_X4_nextOrder_78, s_X4_nextOrder_94, s_X10_swap, hc, arI, in08, k0c, k1c, k2c, k3c, bv_some, ↓reduceIte, up_s, up_k, h0, h1, h2, h3]
  refine gv_i ⟨?_, ?_⟩
  · simp [up, h0, h1, h2, h3]
  · intro d hd; simp [up_d hd, up, hd]
theorem nx_4_216 {τ : Sg} {c : Nat} (hc : aln 0 c = 8) (h0 : τ c 0 = 3) (h1 : τ c 1 = 1) (h2 : τ c 2 = 2) (h3 : τ c 3 = 0) : Gv (s_X4_nextOrder τ c 4) (fun _ ρ => (ρ c 0 = 3 ∧ ρ c 1 = 2 ∧ ρ c 2 = 0 ∧ ρ c 3 = 1) ∧ ∀ d, d ≠ c → ρ d = τ d) := by
  unfold s_X4_nextOrder
  simp (decide := true) only [↓lt_e, FU, s_X4_nextOrder_6, s_X4_nextOrder_35, s_X4_nextOrder_47, s_X4_nextOrder_78, s_X4_nextOrder_94, s_X10_swap, hc, arI, in08, k0c, k1c, k2c, k3c, bv_some, ↓reduceIte, up_s, up_k, h0, h1, h2, h3]
  refine gv_i ⟨?_, ?_⟩
  · simp [up, h0, h1, h2, h3]
  · intro d hd; simp [up_d hd, up, hd]
theorem nx_4_225 {τ : Sg} {c : Nat} (hc : aln 0 c = 8) (h0 : τ c 0 = 3) (h1 : τ c 1 = 2) (h2 : τ c 2 = 0) (h3 : τ c 3 = 1) : Gv (s_X4_nextOrder τ c 4) (fun _ ρ => (ρ c 0 = 3 ∧ ρ c 1 = 2 ∧ ρ c 2 = 1 ∧ ρ c 3 = 0) ∧ ∀ d, d ≠ c → ρ d = τ d) := by
  unfold s_X4_nextOrder
  simp (decide := true) only [↓lt_e, FU, s_X4_nextOrder_6, s_X4_nextOrder_35, s_X4_nextOrder_47, s_X4_nextOrder_78, s_X4_nextOrder_94, s_X10_swap, hc, arI, in08, k0c, k1c, k2c, k3c, bv_some, ↓reduceIte, up_s, up_k, h0, h1, h2, h3]
  refine gv_i ⟨?_, ?_⟩
  · simp [up, h0, h1, h2, h3]
  · intro d hd; simp [up_d hd, up, hd]
theorem nx_4_228 {τ : Sg} {c : Nat} (hc : aln 0 c = 8) (h0 : τ c 0 = 3) (h1 : τ c 1 = 2) (h2 : τ c 2 = 1) (h3 : τ c 3 = 0) : Gv (s_X4_nextOrder τ c 4) (fun _ ρ => (ρ c 0 = 3 ∧ ρ c 1 = 2 ∧ ρ c 2 = 1 ∧ ρ c 3 = 0) ∧ ∀ d, d ≠ c → ρ d = τ d) := by
  unfold s_X4_nextOrder
  simp (decide := true) only [↓lt_e, FU, s_X4_nextOrder_6, s_X4_nextOrder_35, s_X4_nextOrder_47, s_X4_nextOrder_78, s_X4_nextOrder_94, s_X10_swap, hc, arI, in08, k0c, k1c, k2c, k3c, bv_some, ↓reduceIte, up_s, up_k, h0, h1, h2, h3]
  refine gv_i ⟨?_, ?_⟩
  · simp [up, h0, h1, h2, h3]
  · intro d hd; simp [up_d hd, up, hd]
