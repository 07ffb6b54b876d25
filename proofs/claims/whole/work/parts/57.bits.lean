theorem ua_up (x : Int64) : ua64 x = up64 x := by
  have e1 : ((32 : Int32).toInt64 &&& 63) = 32 := by decide
  have e2 : ((32 : Int32).toInt64.toUInt64 &&& Int64.toUInt64 63) = 32 := by decide
  unfold ua64 up64
  rw [e1, e2]
  apply Int32.toBitVec_inj.mp
  apply BitVec.eq_of_getLsbD_eq
  intro i hi
  have e3 : ((32 : Int64).toBitVec.smod 64#64).toNat = 32 := by decide
  have e4 : ((32 : UInt64).toBitVec % 64#64).toNat = 32 := by decide
  simp [BitVec.getLsbD_signExtend, BitVec.getLsbD_sshiftRight, e3, e4]
  have h1 : i < 64 := by omega
  have h2 : ¬ 64 ≤ i := by omega
  have h3 : 32 + i < 64 := by omega
  simp [hi, h1, h2, h3]
