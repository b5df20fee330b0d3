def sLen (c : Nat) : Nat := slen.getD (c - 950) 0
def sByt (c : Nat) : List Int32 := sbyt.getD (c - 950) []
def ixo (x : Int32) : List Int32 → Nat → Int32
  | [], _ => -1
  | b :: l, k => if b = x then nI k else ixo x l (k + 1)
def s_J0_length_8abf5 (σ : Sg) (c : Nat) : RO := some (nI (sLen c), σ)
def s_J0_charAt_5068e (σ : Sg) (c : Nat) (i : Int32) : RO := if inb i (sLen c) = true then some ((sByt c).getD i.toNatClampNeg 0, σ) else none
def s_J0_indexOf_0f7a4 (σ : Sg) (c : Nat) (x : Int32) : RO := some (ixo x (sByt c) 0, σ)
theorem ok_J0_length_8abf5 (g : GP) (d : Nat) (σ : Sg) (c : Nat) : ∀ v σ', s_J0_length_8abf5 σ c = some (v, σ') → Ok g (d + 6) 260 [br 30 c] σ (some v) σ' := sorry
theorem ok_J0_charAt_5068e (g : GP) (d : Nat) (σ : Sg) (c : Nat) (i : Int32) : ∀ v σ', s_J0_charAt_5068e σ c i = some (v, σ') → Ok g (d + 6) 261 [br 30 c, bi i] σ (some v) σ' := sorry
theorem ok_J0_indexOf_0f7a4 (g : GP) (d : Nat) (σ : Sg) (c : Nat) (x : Int32) : ∀ v σ', s_J0_indexOf_0f7a4 σ c x = some (v, σ') → Ok g (d + 6) 262 [br 30 c, bi x] σ (some v) σ' := sorry
