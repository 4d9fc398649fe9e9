/-! words on the reference's side: two bits for each node, 32 nodes a long -/
theorem l_ushr64 {n s : Nat} (hn : n < 2 ^ 64) (hs : s < 64) : ((lN n).toUInt64 >>> ((nI s).toInt64.toUInt64 &&& Int64.toUInt64 63)).toInt64 = lN (n / 2 ^ s) := by
  rw [nI_l (by omega), lN_u, lN_u, ← lN_of_u]
  congr 1
  apply UInt64.toNat_inj.mp
  rw [UInt64.toNat_shiftRight, UInt64.toNat_and, UInt64.toNat_ofNat', UInt64.toNat_ofNat', UInt64.toNat_ofNat']
  have h1 : Int64.toUInt64 63 = 63 := rfl
  rw [h1]
  have h2 : (63 : UInt64).toNat = 2 ^ 6 - 1 := rfl
  rw [h2, Nat.and_two_pow_sub_one_eq_mod, Nat.mod_eq_of_lt (show s < 2 ^ 64 by omega), Nat.mod_eq_of_lt (show s < 2 ^ 6 by omega), Nat.mod_eq_of_lt hs, Nat.mod_eq_of_lt hn, Nat.shiftRight_eq_div_pow, Nat.mod_eq_of_lt (Nat.lt_of_le_of_lt (Nat.div_le_self _ _) hn)]
theorem l_andN {a b : Nat} (ha : a < 2 ^ 64) (hb : b < 2 ^ 64) : lN a &&& lN b = lN (a &&& b) := by
  apply Int64.toBitVec_inj.mp
  apply BitVec.eq_of_toNat_eq
  rw [Int64.toBitVec_and, BitVec.toNat_and]
  unfold lN
  rw [Int64.toBitVec_ofNat', Int64.toBitVec_ofNat', Int64.toBitVec_ofNat', BitVec.toNat_ofNat, BitVec.toNat_ofNat, BitVec.toNat_ofNat, Nat.mod_eq_of_lt ha, Nat.mod_eq_of_lt hb, Nat.mod_eq_of_lt (Nat.lt_of_le_of_lt Nat.and_le_left ha)]
theorem l_xorN {a b : Nat} (ha : a < 2 ^ 64) (hb : b < 2 ^ 64) : lN a ^^^ lN b = lN (a ^^^ b) := by
  apply Int64.toBitVec_inj.mp
  apply BitVec.eq_of_toNat_eq
  rw [Int64.toBitVec_xor, BitVec.toNat_xor]
  unfold lN
  rw [Int64.toBitVec_ofNat', Int64.toBitVec_ofNat', Int64.toBitVec_ofNat', BitVec.toNat_ofNat, BitVec.toNat_ofNat, BitVec.toNat_ofNat, Nat.mod_eq_of_lt ha, Nat.mod_eq_of_lt hb, Nat.mod_eq_of_lt (Nat.xor_lt_two_pow ha hb)]
theorem tb3 (u : Nat) : (3 : Nat).testBit u = decide (u < 2) := Nat.testBit_two_pow_sub_one 2 u
theorem bt_set {s A x y R : Nat} (hs : s ≤ 62) (hA : A < 2 ^ s) (hx : x < 2 ^ 2) (hy : y < 2 ^ 2) (hP : 2 ^ s * (2 ^ 2 * R + x) + A < 2 ^ 64) : ((2 ^ s * (2 ^ 2 * R + x) + A) &&& ((2 ^ s * 3) ^^^ (2 ^ 64 - 1))) ||| (2 ^ s * y) = 2 ^ s * (2 ^ 2 * R + y) + A := by
  apply Nat.eq_of_testBit_eq
  intro t
  have hlt : ∀ t, 64 ≤ t → (2 ^ s * (2 ^ 2 * R + x) + A).testBit t = false := fun t ht => Nat.testBit_lt_two_pow (Nat.lt_of_lt_of_le hP (Nat.pow_le_pow_right (by decide) ht))
  have h64 := hlt t
  rw [Nat.testBit_or, Nat.testBit_and, Nat.testBit_xor, Nat.testBit_two_pow_sub_one, Nat.testBit_two_pow_mul, Nat.testBit_two_pow_mul, Nat.testBit_two_pow_mul_add _ hA, tb3]
  rw [Nat.testBit_two_pow_mul_add _ hA] at h64
  rw [Nat.testBit_two_pow_mul_add _ hA]
  by_cases l : t < s
  · rw [if_pos l, if_pos l]
    have e1 : decide (t ≥ s) = false := decide_eq_false (by omega)
    have e2 : decide (t < 64) = true := decide_eq_true (by omega)
    rw [e1, e2]
    simp
  · rw [if_neg l, if_neg l]
    rw [if_neg l] at h64
    have e1 : decide (t ≥ s) = true := decide_eq_true (by omega)
    rw [e1]
    rw [Nat.testBit_two_pow_mul_add _ hx] at h64 ⊢
    rw [Nat.testBit_two_pow_mul_add _ hy]
    by_cases l2 : t - s < 2
    · rw [if_pos l2, if_pos l2]
      have e2 : decide (t < 64) = true := decide_eq_true (by omega)
      have e3 : decide (t - s < 2) = true := decide_eq_true l2
      rw [e2, e3]
      simp
    · rw [if_neg l2, if_neg l2]
      rw [if_neg l2] at h64
      have e3 : decide (t - s < 2) = false := decide_eq_false l2
      have e4 : y.testBit (t - s) = false := Nat.testBit_lt_two_pow (Nat.lt_of_lt_of_le hy (Nat.pow_le_pow_right (by decide) (by omega)))
      rw [e3, e4]
      by_cases l3 : 64 ≤ t
      · rw [h64 l3]
        simp
      · have e2 : decide (t < 64) = true := decide_eq_true (by omega)
        rw [e2]
        simp
/-- the digits of a state in one long: 32 of them from o on -/
def pq (D : Nat → Nat) (o n : Nat) : Nat := sm (fun j => D (o + j) * 4 ^ j) n
theorem pq_split {D : Nat → Nat} {o j : Nat} : ∀ n, j < n → ∃ R, pq D o n = 4 ^ j * (4 * R + D (o + j)) + pq D o j ∧ ∀ E : Nat → Nat, (∀ i, i < n → i ≠ j → E (o + i) = D (o + i)) → pq E o n = 4 ^ j * (4 * R + E (o + j)) + pq D o j
  | 0, h => absurd h (by omega)
  | n + 1, h => by
    by_cases y : j = n
    · refine ⟨0, ?_, fun E hE => ?_⟩
      · rw [y]
        show pq D o n + D (o + n) * 4 ^ n = _
        rw [Nat.mul_zero, Nat.zero_add, Nat.mul_comm, Nat.add_comm]
      · rw [y] at hE ⊢
        show pq E o n + E (o + n) * 4 ^ n = _
        have : pq E o n = pq D o n := sm_congr n (fun k hk => by
          show E (o + k) * 4 ^ k = D (o + k) * 4 ^ k
          rw [hE k (by omega) (by omega)])
        rw [this, Nat.mul_zero, Nat.zero_add, Nat.mul_comm, Nat.add_comm]
    · obtain ⟨R, e1, e2⟩ := pq_split (D := D) (o := o) n (show j < n by omega)
      have hp : 4 ^ n = 4 ^ j * (4 * 4 ^ (n - 1 - j)) := by
        rw [← Nat.pow_succ', ← Nat.pow_add]
        congr 1
        omega
      refine ⟨R + D (o + n) * 4 ^ (n - 1 - j), ?_, fun E hE => ?_⟩
      · show pq D o n + D (o + n) * 4 ^ n = _
        rw [e1, hp]
        simp only [Nat.mul_add, Nat.add_mul]
        have : D (o + n) * (4 ^ j * (4 * 4 ^ (n - 1 - j))) = 4 ^ j * (4 * (D (o + n) * 4 ^ (n - 1 - j))) := by
          simp only [Nat.mul_left_comm]
        omega
      · show pq E o n + E (o + n) * 4 ^ n = _
        rw [e2 E (fun i hi hn => hE i (by omega) hn), hE n (by omega) (fun z => y z.symm), hp]
        simp only [Nat.mul_add, Nat.add_mul]
        have : D (o + n) * (4 ^ j * (4 * 4 ^ (n - 1 - j))) = 4 ^ j * (4 * (D (o + n) * 4 ^ (n - 1 - j))) := by
          simp only [Nat.mul_left_comm]
        omega
theorem pq_lt {D : Nat → Nat} {o : Nat} : ∀ n, (∀ i, i < n → D (o + i) < 4) → pq D o n < 4 ^ n
  | 0, _ => Nat.one_pos
  | n + 1, h => by
    have ih := pq_lt (D := D) (o := o) n (fun i hi => h i (by omega))
    have h1 := h n (by omega)
    show pq D o n + D (o + n) * 4 ^ n < 4 ^ (n + 1)
    have h2 : D (o + n) * 4 ^ n ≤ 3 * 4 ^ n := Nat.mul_le_mul_right _ (by omega)
    rw [Nat.pow_succ]
    omega
theorem pq_dig {D : Nat → Nat} {o j n : Nat} (hj : j < n) (h : ∀ i, i < n → D (o + i) < 4) : pq D o n / 4 ^ j % 4 = D (o + j) := by
  obtain ⟨R, e, _⟩ := pq_split (D := D) (o := o) n hj
  have h1 := pq_lt (D := D) (o := o) j (fun i hi => h i (by omega))
  have h2 := h j hj
  rw [e, Nat.mul_add_div (Nat.pow_pos (by decide)), Nat.div_eq_of_lt h1]
  omega
/-- a state of the census: four longs, the digits of its nodes -/
def DgA (h : PH) (a : Nat) (D : Nat → Nat) : Prop := (∀ k, k < 4 → h_l h a k = lN (pq D (32 * k) 32)) ∧ ∀ i, D i ≤ 2
theorem DgA.lt {h : PH} {a : Nat} {D : Nat → Nat} (hD : DgA h a D) (k : Nat) : pq D (32 * k) 32 < 2 ^ 64 := by
  have := pq_lt (D := D) (o := 32 * k) 32 (fun i _ => by have := hD.2 (32 * k + i); omega)
  exact this
theorem DgA.cg {h h' : PH} {a : Nat} {D : Nat → Nat} (hD : DgA h a D) (e : ∀ k, k < 4 → h_l h' a k = h_l h a k) : DgA h' a D := ⟨fun k hk => (e k hk).trans (hD.1 k hk), hD.2⟩
theorem lN_s4 : ∀ n, n < 4 → (lN n).toInt32 = nI n := by decide
theorem dv32 : ∀ v : Nat, v < 128 → nI v / (32 : Int32) = nI (v / 32) ∧ nI v - nI v / (32 : Int32) * (32 : Int32) = nI (v % 32) := by decide +kernel
theorem md_often {d : Nat} {h : PH} {Q : PQ} {n j : Nat} (hn : n < 2 ^ 64) (hj : j < 32) (k : Q (some (.int (nI (n / 4 ^ j % 4)))) h) : wpm (d + 1) 248 [.long (lN n), .int (nI j)] h Q := by
  refine wpm_in P_Md_often rfl (by decide) (by show ¬ 3 < 3; decide) ?_
  refine B_Md_often_0 ?_
  have e : ((((lN n).toUInt64 >>> (((2 : Int32) * nI j).toInt64.toUInt64 &&& Int64.toUInt64 63)).toInt64) &&& (3 : Int64)).toInt32 = nI (n / 4 ^ j % 4) := by
    rw [show (2 : Int32) = nI 2 from rfl, nI_mulN, l_ushr64 hn (by omega), show (3 : Int64) = lN 3 from rfl, l_andN (Nat.lt_of_le_of_lt (Nat.div_le_self _ _) hn) (by decide), show (3 : Nat) = 2 ^ 2 - 1 from rfl, Nat.and_two_pow_sub_one_eq_mod, Nat.pow_mul]
    exact lN_s4 _ (Nat.mod_lt _ (by decide))
  rw [e]
  exact k
theorem md_oftenAt {d : Nat} {h : PH} {Q : PQ} {a i : Nat} {D : Nat → Nat} (hs : h_sh h a = some (4, 4)) (hD : DgA h a D) (hi : i < 128) (k : Q (some (.int (nI (D i)))) h) : wpm (d + 2) 249 [.ref 17, .ref a, .int (nI i)] h Q := by
  refine wpm_in P_Md_oftenAt rfl (by decide) (by show ¬ 3 < 3; decide) ?_
  obtain ⟨e1, e2⟩ := dv32 i hi
  refine B_Md_oftenAt_0 hs (by rw [e1]; exact vp_in_nI (by omega) (by omega)) ?_
  rw [e2, e1, nI_clamp (by omega), hD.1 (i / 32) (by omega)]
  refine md_often (hD.lt _) (by omega) ?_
  rw [pq_dig (by omega) (fun t _ => by have := hD.2 (32 * (i / 32) + t); omega)]
  refine B_Md_oftenAt_13 ?_
  rw [show 32 * (i / 32) + i % 32 = i by omega]
  exact k
def updD (D : Nat → Nat) (i v : Nat) : Nat → Nat := fun k => if k = i then v else D k
theorem updD_at (D : Nat → Nat) (i v : Nat) : updD D i v i = v := if_pos rfl
theorem updD_ne (D : Nat → Nat) {i k : Nat} (v : Nat) (h : k ≠ i) : updD D i v k = D k := if_neg h
theorem l_set {n s y : Nat} (hs : s ≤ 62) (hn : n < 2 ^ 64) (hy : y < 2 ^ 2) : (lN n &&& (((3 : Int64) <<< ((nI s).toInt64 &&& 63)) ^^^ (-1 : Int64))) ||| ((nI y).toInt64 <<< ((nI s).toInt64 &&& 63)) = lN ((n &&& ((2 ^ s * 3) ^^^ (2 ^ 64 - 1))) ||| (2 ^ s * y)) := by
  have hp : 2 ^ s ≤ 2 ^ 62 := Nat.pow_le_pow_right (by decide) hs
  have h3 : 2 ^ s * 3 < 2 ^ 64 := by omega
  have hyy : 2 ^ s * y ≤ 2 ^ s * 3 := Nat.mul_le_mul_left _ (by omega)
  have hx : (2 ^ s * 3) ^^^ (2 ^ 64 - 1) < 2 ^ 64 := Nat.xor_lt_two_pow h3 (by decide)
  rw [nI_l (n := y) (by omega), show (3 : Int64) = lN 3 from rfl, l_shl (by omega), l_shl (by omega), show (-1 : Int64) = lN (2 ^ 64 - 1) from rfl, Nat.mul_comm 3, Nat.mul_comm y, l_xorN h3 (by decide), l_andN hn hx, lN_orN (Nat.lt_of_le_of_lt Nat.and_le_left hn) (by omega)]
theorem md_adds {d : Nat} {h : PH} {Q : PQ} {i n : Nat} {D : Nat → Nat} (hM : MdS h) (hD : DgA h 52 D) (hi : i < 128) (hn : n ≤ 2) (k : ∀ h', DgA h' 52 (updD D i (min 2 (D i + n))) → Fr (fun x _ => x = 52) h h' → Q none h') : wpm (d + 3) 250 [.ref 17, .int (nI i), .int (nI n)] h Q := by
  refine wpm_in P_Md_adds rfl (by decide) (by show ¬ 5 < 3; decide) ?_
  obtain ⟨e1, e2⟩ := dv32 i hi
  refine B_Md_adds_0 hM.1 (mr_to hM) (md_oftenAt (ms_to hM) hD hi ?_)
  have d2 := hD.2 i
  refine B_Md_adds_10 ?_
  rw [nI_add, show (2 : Int32) = nI 2 from rfl]
  refine md_lesser (by omega) (by omega) ?_
  have v1 : vp_in (nI i / (32 : Int32)) 4 := by rw [e1]; exact vp_in_nI (by omega) (by omega)
  refine B_Md_adds_15 hM.1 (mr_to hM) (ms_to hM) v1 ?_
  refine B_Md_adds_59 ?_
  refine k _ ⟨fun q hq => ?_, fun q => ?_⟩ (Fr.wl h _ rfl)
  · rw [h_l_wl, e2, e1, nI_clamp (by omega)]
    by_cases y : q = i / 32
    · rw [if_pos ⟨rfl, y⟩, hD.1 _ (by omega), show (2 : Int32) = nI 2 from rfl, nI_mulN, l_set (by omega) (hD.lt _) (by omega)]
      congr 1
      obtain ⟨R, f1, f2⟩ := pq_split (D := D) (o := 32 * (i / 32)) (j := i % 32) 32 (by omega)
      have hl := hD.lt (i / 32)
      have f3 := f2 (updD D i (min 2 (D i + n))) (fun t ht hne => updD_ne _ _ (by omega))
      have hA := pq_lt (D := D) (o := 32 * (i / 32)) (i % 32) (fun t _ => by have := hD.2 (32 * (i / 32) + t); omega)
      rw [show 32 * (i / 32) + i % 32 = i by omega] at f1 f3
      rw [updD_at] at f3
      rw [y, f3]
      rw [f1] at hl ⊢
      have pw : (4 : Nat) ^ (i % 32) = 2 ^ (2 * (i % 32)) := by rw [Nat.pow_mul]
      rw [pw] at hl hA ⊢
      exact bt_set (by omega) hA (by omega) (by omega) hl
    · rw [if_neg (fun z => y z.2), hD.1 q hq]
      congr 1
      refine sm_congr 32 (fun t ht => ?_)
      show D (32 * q + t) * 4 ^ t = updD D i _ (32 * q + t) * 4 ^ t
      rw [updD_ne _ _ (by omega)]
  · by_cases y : q = i
    · rw [y, updD_at]
      exact Nat.min_le_left _ _
    · rw [updD_ne _ _ y]
      exact hD.2 q
