/-! numbers: small ones, bytes -/
theorem b8_24 (a : Int32) : ((a.toUInt32 >>> ((24 : Int32).toUInt32 &&& Int32.toUInt32 31)).toInt32).toInt8 = ((a >>> ((24 : Int32) &&& 31)) &&& 255).toInt8 := by
  apply Int8.toBitVec_inj.mp
  apply BitVec.eq_of_getLsbD_eq
  intro i hi
  simp
