theorem law_true (L : Nat) (xs : Nat → Int32) (hL : L ≤ 3072) : ∃ σ', s_L_law L (σ0 xs) = some (1, σ') := sorry
