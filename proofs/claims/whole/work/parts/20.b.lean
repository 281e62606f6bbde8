/-! ===== bytes ===== -/
theorem zby {x s : Int} (hs : s = 0 ∨ s = 8 ∨ s = 16 ∨ s = 24) : zi2b (ziushr x s) = zi2b (zishr x s) := by
  unfold zi2b ziushr zishr
  rw [Int32.ofInt_toInt, Int32.ofInt_toInt]
  generalize Int32.ofInt x = a
  have key : ((a.toUInt32 >>> ((Int32.ofInt s).toUInt32 &&& Int32.toUInt32 31)).toInt32).toInt8 = (a >>> (Int32.ofInt s &&& 31)).toInt8 := by
    apply Int8.toBitVec_inj.mp
    apply BitVec.eq_of_getLsbD_eq
    intro i hi
    rcases hs with rfl | rfl | rfl | rfl
    · have e1 : ((Int32.ofInt 0).toUInt32 &&& Int32.toUInt32 31) = 0 := by decide
      have e2 : (Int32.ofInt 0 &&& 31) = 0 := by decide
      rw [e1, e2]
      simp
    · have e1 : ((Int32.ofInt 8).toUInt32 &&& Int32.toUInt32 31) = 8 := by decide
      have e2 : (Int32.ofInt 8 &&& 31) = 8 := by decide
      rw [e1, e2]
      simp
      rw [BitVec.getLsbD_signExtend, BitVec.getLsbD_signExtend, BitVec.getLsbD_ushiftRight, BitVec.getLsbD_sshiftRight]
      simp [hi, show i < 32 by omega, show ¬ 32 ≤ i by omega, show 8 + i < 32 by omega]
    · have e1 : ((Int32.ofInt 16).toUInt32 &&& Int32.toUInt32 31) = 16 := by decide
      have e2 : (Int32.ofInt 16 &&& 31) = 16 := by decide
      rw [e1, e2]
      simp
      rw [BitVec.getLsbD_signExtend, BitVec.getLsbD_signExtend, BitVec.getLsbD_ushiftRight, BitVec.getLsbD_sshiftRight]
      simp [hi, show i < 32 by omega, show ¬ 32 ≤ i by omega, show 16 + i < 32 by omega]
    · have e1 : ((Int32.ofInt 24).toUInt32 &&& Int32.toUInt32 31) = 24 := by decide
      have e2 : (Int32.ofInt 24 &&& 31) = 24 := by decide
      rw [e1, e2]
      simp
      rw [BitVec.getLsbD_signExtend, BitVec.getLsbD_signExtend, BitVec.getLsbD_ushiftRight, BitVec.getLsbD_sshiftRight]
      simp [hi, show i < 32 by omega, show ¬ 32 ≤ i by omega, show 24 + i < 32 by omega]
  rw [key]
