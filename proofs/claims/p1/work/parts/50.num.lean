/-! numbers: small ones, bytes -/
theorem b8_24 (a : Int32) : ((a.toUInt32 >>> ((24 : Int32).toUInt32 &&& Int32.toUInt32 31)).toInt32).toInt8 = ((a >>> ((24 : Int32) &&& 31)) &&& 255).toInt8 := by
  apply Int8.toBitVec_inj.mp
  apply BitVec.eq_of_getLsbD_eq
  intro i hi
  rcases (show i = 0 ∨ i = 1 ∨ i = 2 ∨ i = 3 ∨ i = 4 ∨ i = 5 ∨ i = 6 ∨ i = 7 by omega) with rfl | rfl | rfl | rfl | rfl | rfl | rfl | rfl <;> simp [BitVec.getLsbD_signExtend, BitVec.getLsbD_sshiftRight, BitVec.getElem_signExtend, BitVec.getElem_sshiftRight]
theorem b8_16 (a : Int32) : ((a.toUInt32 >>> ((16 : Int32).toUInt32 &&& Int32.toUInt32 31)).toInt32).toInt8 = ((a >>> ((16 : Int32) &&& 31)) &&& 255).toInt8 := by
  apply Int8.toBitVec_inj.mp
  apply BitVec.eq_of_getLsbD_eq
  intro i hi
  rcases (show i = 0 ∨ i = 1 ∨ i = 2 ∨ i = 3 ∨ i = 4 ∨ i = 5 ∨ i = 6 ∨ i = 7 by omega) with rfl | rfl | rfl | rfl | rfl | rfl | rfl | rfl <;> simp [BitVec.getLsbD_signExtend, BitVec.getLsbD_sshiftRight, BitVec.getElem_signExtend, BitVec.getElem_sshiftRight]
theorem b8_8 (a : Int32) : ((a.toUInt32 >>> ((8 : Int32).toUInt32 &&& Int32.toUInt32 31)).toInt32).toInt8 = ((a >>> ((8 : Int32) &&& 31)) &&& 255).toInt8 := by
  apply Int8.toBitVec_inj.mp
  apply BitVec.eq_of_getLsbD_eq
  intro i hi
  rcases (show i = 0 ∨ i = 1 ∨ i = 2 ∨ i = 3 ∨ i = 4 ∨ i = 5 ∨ i = 6 ∨ i = 7 by omega) with rfl | rfl | rfl | rfl | rfl | rfl | rfl | rfl <;> simp [BitVec.getLsbD_signExtend, BitVec.getLsbD_sshiftRight, BitVec.getElem_signExtend, BitVec.getElem_sshiftRight]
theorem b8_0 (a : Int32) : ((a.toUInt32 >>> ((0 : Int32).toUInt32 &&& Int32.toUInt32 31)).toInt32).toInt8 = ((a >>> ((0 : Int32) &&& 31)) &&& 255).toInt8 := by
  apply Int8.toBitVec_inj.mp
  apply BitVec.eq_of_getLsbD_eq
  intro i hi
  rcases (show i = 0 ∨ i = 1 ∨ i = 2 ∨ i = 3 ∨ i = 4 ∨ i = 5 ∨ i = 6 ∨ i = 7 by omega) with rfl | rfl | rfl | rfl | rfl | rfl | rfl | rfl <;> simp [BitVec.getLsbD_signExtend, BitVec.getLsbD_sshiftRight, BitVec.getElem_signExtend, BitVec.getElem_sshiftRight]
/-- a byte: 0 .. 255 -/
theorem and255 (x : Int32) : ∃ n : Nat, n < 256 ∧ x &&& 255 = nI n := by
  refine ⟨(x &&& 255).toBitVec.toNat, ?_, ?_⟩
  · rw [Int32.toBitVec_and, BitVec.toNat_and]
    exact Nat.lt_of_le_of_lt Nat.and_le_right (by decide)
  · apply Int32.toBitVec_inj.mp
    apply BitVec.eq_of_toNat_eq
    unfold nI
    simp
theorem vpi {x : Int32} {n : Nat} (h : vp_in x n) : ∃ k : Nat, k < n ∧ x = nI k := by
  have h0 : ¬ x < 0 := fun q => h (Or.inl q)
  obtain ⟨j, hj, rfl⟩ := nI_of h0
  refine ⟨j, ?_, rfl⟩
  have h1 : ¬ n ≤ (nI j).toNatClampNeg := fun q => h (Or.inr q)
  rw [nI_clamp hj] at h1
  omega
/-- a frame: what a method that makes nothing leaves as it was; W: the numbers that it may change -/
def Fr (W : Nat → Nat → Prop) (h h' : PH) : Prop := h_sh h' = h_sh h ∧ h_r h' = h_r h ∧ h_ct h' = h_ct h ∧ h_sl h' = h_sl h ∧ h_sc h' = h_sc h ∧ ∀ c k, ¬ W c k → h_i h' c k = h_i h c k ∧ h_l h' c k = h_l h c k
theorem Fr.rf (W : Nat → Nat → Prop) (h : PH) : Fr W h h := ⟨rfl, rfl, rfl, rfl, rfl, fun _ _ _ => ⟨rfl, rfl⟩⟩
theorem Fr.tr {W : Nat → Nat → Prop} {h h1 h2 : PH} (a : Fr W h h1) (b : Fr W h1 h2) : Fr W h h2 :=
  ⟨b.1.trans a.1, b.2.1.trans a.2.1, b.2.2.1.trans a.2.2.1, b.2.2.2.1.trans a.2.2.2.1, b.2.2.2.2.1.trans a.2.2.2.2.1, fun c k hw => ⟨(b.2.2.2.2.2 c k hw).1.trans (a.2.2.2.2.2 c k hw).1, (b.2.2.2.2.2 c k hw).2.trans (a.2.2.2.2.2 c k hw).2⟩⟩
theorem Fr.up {W W' : Nat → Nat → Prop} {h h' : PH} (a : Fr W h h') (hw : ∀ c k, W c k → W' c k) : Fr W' h h' := ⟨a.1, a.2.1, a.2.2.1, a.2.2.2.1, a.2.2.2.2.1, fun c k hn => a.2.2.2.2.2 c k (fun q => hn (hw c k q))⟩
theorem Fr.wi {W : Nat → Nat → Prop} (h : PH) {c k : Nat} (v : Int32) (hw : W c k) : Fr W h (w_i h c k v) := ⟨rfl, rfl, rfl, rfl, rfl, fun c' k' hn => ⟨by rw [h_i_wi, if_neg (fun q => hn (by rw [q.1, q.2]; exact hw))], rfl⟩⟩
theorem Fr.wl {W : Nat → Nat → Prop} (h : PH) {c k : Nat} (v : Int64) (hw : W c k) : Fr W h (w_l h c k v) := ⟨rfl, rfl, rfl, rfl, rfl, fun c' k' hn => ⟨rfl, by rw [h_l_wl, if_neg (fun q => hn (by rw [q.1, q.2]; exact hw))]⟩⟩
theorem Fr.i {W : Nat → Nat → Prop} {h h' : PH} (a : Fr W h h') (c k : Nat) (hn : ¬ W c k) : h_i h' c k = h_i h c k := (a.2.2.2.2.2 c k hn).1
theorem Fr.l {W : Nat → Nat → Prop} {h h' : PH} (a : Fr W h h') (c k : Nat) (hn : ¬ W c k) : h_l h' c k = h_l h c k := (a.2.2.2.2.2 c k hn).2
theorem Fr.md {W : Nat → Nat → Prop} {h h' : PH} (a : Fr W h h') (hM : MdS h) : MdS h' := by
  unfold MdS
  rw [a.1, a.2.1]
  exact hM
theorem Fr.ow {W : Nat → Nat → Prop} {h h' : PH} (a : Fr W h h') (hO : OwS h) : OwS h' := by
  unfold OwS
  rw [a.1, a.2.1]
  exact hO
theorem wi_eq (h : PH) (c k : Nat) (v : Int32) : h_i (w_i h c k v) c k = v := by rw [h_i_wi, if_pos ⟨rfl, rfl⟩]
theorem wi_ne (h : PH) {c k c' k' : Nat} (v : Int32) (hn : ¬ (c' = c ∧ k' = k)) : h_i (w_i h c k v) c' k' = h_i h c' k' := by rw [h_i_wi, if_neg hn]
