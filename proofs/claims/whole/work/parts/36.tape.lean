/-! the tape: bytes cut by >>> and by >> are the same -/
theorem b_sh (y : Int32) (s : Int32) (hs : s = 0 ∨ s = 8 ∨ s = 16 ∨ s = 24) : (((y.toUInt32 >>> (s.toUInt32 &&& Int32.toUInt32 31)).toInt32) : Int32).toInt8 = (y >>> (s &&& 31)).toInt8 := by
  apply Int8.toBitVec_inj.mp
  rcases hs with rfl | rfl | rfl | rfl
  all_goals
    simp only [Int32.toBitVec_toInt8, UInt32.toBitVec_toInt32, UInt32.toBitVec_shiftRight, Int32.toBitVec_shiftRight, Int32.toBitVec_toUInt32, UInt32.toBitVec_and, Int32.toBitVec_and]
    apply BitVec.eq_of_getLsbD_eq
    intro i hi
    simp
    all_goals first | done | (rcases (show i = 0 ∨ i = 1 ∨ i = 2 ∨ i = 3 ∨ i = 4 ∨ i = 5 ∨ i = 6 ∨ i = 7 by omega) with rfl | rfl | rfl | rfl | rfl | rfl | rfl | rfl <;> simp [BitVec.getElem_signExtend, BitVec.getElem_sshiftRight, BitVec.getElem_ushiftRight])
