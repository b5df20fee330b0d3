theorem b255 : ∀ i, i < 32 → 8 ≤ i → (255#32).getLsbD i = false := by decide
theorem bvs (x : BitVec 32) (s : Nat) (hs : s ≤ 24) : (x >>> s) &&& 255#32 = (x.sshiftRight s) &&& 255#32 := by
  apply BitVec.eq_of_getLsbD_eq
  intro i hi
  rw [BitVec.getLsbD_and, BitVec.getLsbD_and]
  by_cases c : i < 8
  · have e : (x >>> s).getLsbD i = (x.sshiftRight s).getLsbD i := by
      rw [BitVec.getLsbD_ushiftRight, BitVec.getLsbD_sshiftRight]
      have a : s + i < 32 := by omega
      simp [a, hi]
    rw [e]
  · rw [b255 i hi (by omega), Bool.and_false, Bool.and_false]
theorem bv16 (x : BitVec 32) : (x.signExtend 16).signExtend 32 = (x <<< 16).sshiftRight 16 := by
  apply BitVec.eq_of_getLsbD_eq
  intro i hi
  rw [BitVec.getLsbD_signExtend, BitVec.getLsbD_sshiftRight]
  by_cases c : i < 16
  · have a : 16 + i < 32 := by omega
    have b : ¬ 32 ≤ i := by omega
    have d : ¬ 16 + i < 16 := by omega
    simp [c, a, hi, b, d, BitVec.getLsbD_signExtend, BitVec.getElem_signExtend, show i < 32 by omega]
  · have a : ¬ 16 + i < 32 := by omega
    have b : ¬ 32 ≤ i := by omega
    simp [c, a, hi, b, BitVec.msb_eq_getLsbD_last, BitVec.getLsbD_signExtend, BitVec.getElem_signExtend]
theorem by_e (x : Int32) : ∀ t, t < 4 → (((x.toUInt32 >>> ((24 - nI (8 * t)).toUInt32 &&& Int32.toUInt32 31)).toInt32) &&& 255) = ((x >>> ((24 - nI (8 * t)) &&& 31)) &&& 255) := by
  intro t ht
  have : t = 0 ∨ t = 1 ∨ t = 2 ∨ t = 3 := by omega
  rcases this with rfl | rfl | rfl | rfl
  · exact Int32.toBitVec_inj.mp (bvs x.toBitVec 24 (by omega))
  · exact Int32.toBitVec_inj.mp (bvs x.toBitVec 16 (by omega))
  · exact Int32.toBitVec_inj.mp (bvs x.toBitVec 8 (by omega))
  · exact Int32.toBitVec_inj.mp (bvs x.toBitVec 0 (by omega))
theorem i16_e (x : Int32) : x.toInt16.toInt32 = (x <<< (16 &&& 31)) >>> (16 &&& 31) := by
  exact Int32.toBitVec_inj.mp (bv16 x.toBitVec)
theorem sm255 (x : Int32) : sm 255 (x &&& 255) := by
  refine ⟨(x.toBitVec &&& 255#32).toNat, ?_, ?_⟩
  · rw [BitVec.toNat_and]; exact Nat.and_le_right
  · have := nI_tn (x &&& 255)
    exact this.symm
