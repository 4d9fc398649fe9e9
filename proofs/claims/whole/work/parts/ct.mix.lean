/-! words on the reference's side: where the search for a state begins -/
def mixL (a b c e : Int64) : Int64 :=
  ((((((a * (31 : Int64)) + (b * (1000003 : Int64))) + (c * (7919 : Int64))) + e) ^^^ ((((((a * (31 : Int64)) + (b * (1000003 : Int64))) + (c * (7919 : Int64))) + e).toUInt64 >>> ((17 : Int32).toInt64.toUInt64 &&& Int64.toUInt64 63)).toInt64)) ^^^ ((((((a * (31 : Int64)) + (b * (1000003 : Int64))) + (c * (7919 : Int64))) + e).toUInt64 >>> ((37 : Int32).toInt64.toUInt64 &&& Int64.toUInt64 63)).toInt64))
def hsD (D : Nat → Nat) : Nat := (mixL (lN (pq D (32 * 0) 32)) (lN (pq D (32 * 1) 32)) (lN (pq D (32 * 2) 32)) (lN (pq D (32 * 3) 32))).toBitVec.toNat % 16384
theorem hsD_lt (D : Nat → Nat) : hsD D < 16384 := Nat.mod_lt _ (by decide)
theorem lN_to32 {n : Nat} (h : n < 2 ^ 31) : (lN n).toInt32 = nI n := by
  rw [← nI_l h]
  exact Int32.toInt32_toInt64 _
theorem l_mask14 (y : Int64) : (y &&& (16383 : Int64)).toInt32 = nI (y.toBitVec.toNat % 16384) := by
  have hb : y.toBitVec.toNat < 2 ^ 64 := y.toBitVec.isLt
  have e : y = lN y.toBitVec.toNat := by
    apply Int64.toBitVec_inj.mp
    apply BitVec.eq_of_toNat_eq
    unfold lN
    rw [Int64.toBitVec_ofNat', BitVec.toNat_ofNat, Nat.mod_eq_of_lt hb]
  have h2 : y &&& (16383 : Int64) = lN (y.toBitVec.toNat % 16384) := by
    generalize y.toBitVec.toNat = n at e hb ⊢
    rw [e, show (16383 : Int64) = lN (2 ^ 14 - 1) from rfl, l_andN hb (by decide), Nat.and_two_pow_sub_one_eq_mod]
  rw [h2]
  exact lN_to32 (Nat.lt_of_lt_of_le (Nat.mod_lt _ (by decide)) (by decide))
theorem md_counts0 {d L : Nat} {h : PH} {Q : PQ} {D : Nat → Nat} {l2 : Int64} {v4 v5 v6 v7 : Value} (hM : MdS h) (hD : DgA h 52 D) (k : ∀ y4, wpx d P_Md_counts 72 [.ref 17, .int (nI L), .long l2, .retAddr 2, .long y4, .retAddr 2, .int (nI (16384 * L + hsD D)), v7] [] h Q) : wpx d P_Md_counts 0 [.ref 17, .int (nI L), .long l2, .retAddr 2, v4, v5, v6, v7] [] h Q := by
  have v0 : vp_in (0 : Int32) 4 := vp_in_nI (n := 0) (by omega) (by omega)
  have v1 : vp_in (1 : Int32) 4 := vp_in_nI (n := 1) (by omega) (by omega)
  have v2 : vp_in (2 : Int32) 4 := vp_in_nI (n := 2) (by omega) (by omega)
  have v3 : vp_in (3 : Int32) 4 := vp_in_nI (n := 3) (by omega) (by omega)
  have e : ((16384 : Int32) * nI L) + ((mixL (h_l h 52 0) (h_l h 52 1) (h_l h 52 2) (h_l h 52 3)) &&& (16383 : Int64)).toInt32 = nI (16384 * L + hsD D) := by
    rw [l_mask14, hD.1 0 (by omega), hD.1 1 (by omega), hD.1 2 (by omega), hD.1 3 (by omega), show (16384 : Int32) = nI 16384 from rfl, nI_mulN, nI_add]
    rfl
  refine B_Md_counts_0 hM.1 (mr_to hM) (ms_to hM) v0 v1 v2 v3 ?_
  have k' := k (mixL (h_l h 52 0) (h_l h 52 1) (h_l h 52 2) (h_l h 52 3))
  rw [← e] at k'
  exact k'
