/-- a set of 32 as a long -/
def asL (x : Int32) : Int64 := x.toInt64 &&& 4294967295
theorem asL_0 : asL 0 = 0 := by decide +kernel
theorem asL_bv (x : Int32) : (asL x).toBitVec = x.toBitVec.setWidth 64 := by
  unfold asL
  apply BitVec.eq_of_getLsbD_eq
  intro i hi
  have e : (4294967295 : Int64).toBitVec = (BitVec.allOnes 32).setWidth 64 := by decide +kernel
  rw [Int64.toBitVec_and, Int32.toBitVec_toInt64, e, BitVec.getLsbD_and, BitVec.getLsbD_signExtend, BitVec.getLsbD_setWidth, BitVec.getLsbD_setWidth, BitVec.getLsbD_allOnes]
  by_cases c : i < 32
  · simp [hi, c]
  · rw [BitVec.getLsbD_of_ge x.toBitVec i (by omega)]; simp [hi, c]
theorem asL_or (x y : Int32) : asL (x ||| y) = asL x ||| asL y := by
  apply Int64.toBitVec_inj.mp
  rw [Int64.toBitVec_or, asL_bv, asL_bv, asL_bv, Int32.toBitVec_or]
  apply BitVec.eq_of_getLsbD_eq
  intro i hi
  simp [hi]
theorem asL_bit : ∀ i, i < 32 → asL ((1 : Int32) <<< (nI i &&& 31)) = (1 : Int64) <<< ((nI i).toInt64 &&& 63) := by decide +kernel
