/-! the class's functions over rows: signOf, lastOf, begins, ends, shown, flushLeft, commonLetters -/
theorem nI_subN {a b : Nat} (h : b ≤ a) : nI a - nI b = nI (a - b) := by
  obtain ⟨c, rfl⟩ : ∃ c, a = b + c := ⟨a - b, by omega⟩
  rw [Nat.add_sub_cancel_left, ← nI_add, Int32.add_comm, Int32.add_sub_cancel]
/-- a letter of a row by its place; 0 outside -/
def sgn (l : List Nat) (i : Int32) : Int32 := if i < 0 ∨ nI l.length ≤ i then 0 else nI (l.getD i.toNatClampNeg 0)
theorem ow_signOf {d : Nat} {h : PH} {Q : PQ} {l : List Nat} {i : Int32} (hl : okr l) (k : Q (some (.int (sgn l i))) h) : wpm (d + 1) 165 [.long (pk l), .int (nI l.length), .int i] h Q := by
  refine wpm_in P_Ow_signOf rfl (by decide) (by show ¬ 4 < 4; decide) ?_
  have h7 := hl.2
  unfold sgn at k
  refine B_Ow_signOf_0 (fun q => ?_) (fun q => ?_)
  · rw [if_pos (Or.inl q)] at k
    exact B_Ow_signOf_9 (B_Ow_signOf_26 k)
  · refine B_Ow_signOf_4 (fun z => ?_) (fun z => ?_)
    · have hc : ¬ (i < 0 ∨ nI l.length ≤ i) := fun w => w.elim q (fun w => absurd z (Int32.not_lt.mpr w))
      rw [if_neg hc] at k
      obtain ⟨j, hj, rfl⟩ := nI_of q
      rw [nI_ltI hj (by omega)] at z
      rw [nI_clamp hj] at k
      refine B_Ow_signOf_13 (B_Ow_signOf_26 ?_)
      have hg : l[j]? = some (l.getD j 0) := by
        rw [List.getD_eq_getElem?_getD, List.getElem?_eq_getElem z]
        rfl
      have e : ((((pk l).toUInt64 >>> (((5 : Int32) * ((nI l.length - (1 : Int32)) - nI j)).toInt64.toUInt64 &&& Int64.toUInt64 63)).toInt64).toInt32) &&& (31 : Int32) = nI (l.getD j 0) := by
        rw [show (1 : Int32) = nI 1 from rfl, nI_subN (by omega), nI_subN (by omega), show (5 : Int32) = nI 5 from rfl, nI_mulN]
        unfold pk
        rw [l_ushr (by have := hl.pk; omega) (by omega), lN_i, nI_and31, ← pw32, pkN_nth hl.lt hg]
      rw [e]
      exact k
    · rw [if_pos (Or.inr (Int32.not_lt.mp z))] at k
      exact B_Ow_signOf_9 (B_Ow_signOf_26 k)
theorem ow_lastOf {d : Nat} {h : PH} {Q : PQ} {l : List Nat} {n : Nat} (hl : okr l) (hn : n ≤ l.length) (k : Q (some (.long (pk (l.drop (l.length - n))))) h) : wpm (d + 1) 164 [.long (pk l), .int (nI n)] h Q := by
  refine wpm_in P_Ow_lastOf rfl (by decide) (by show ¬ 3 < 3; decide) ?_
  have h7 := hl.2
  refine B_Ow_lastOf_0 ?_
  have e : (pk l) &&& (((1 : Int64) <<< (((5 : Int32) * nI n).toInt64 &&& 63)) - (1 : Int64)) = pk (l.drop (l.length - n)) := by
    rw [show (5 : Int32) = nI 5 from rfl, nI_mulN, show (1 : Int64) = lN 1 from rfl, l_shl (by omega), Nat.one_mul, lN_sub (Nat.pow_pos (by decide))]
    unfold pk
    rw [l_and (by have := hl.pk; omega) (by omega), ← pw32]
    have := pkN_mod hl.lt (l.length - n)
    rw [show l.length - (l.length - n) = n by omega] at this
    rw [this]
  rw [e]
  exact k
theorem b01 (p : Prop) [Decidable p] : narrow .boolean (.int (if p then 1 else 0)) = .int (if p then 1 else 0) := by
  split <;> rfl
/-- whether a row begins another one -/
theorem ow_begins {d : Nat} {h : PH} {Q : PQ} {a b : List Nat} (ha : okr a) (hb : okr b) (k : Q (some (.int (if a = b.take a.length then 1 else 0))) h) : wpm (d + 1) 162 [.long (pk a), .int (nI a.length), .long (pk b), .int (nI b.length)] h Q := by
  refine wpm_in P_Ow_begins rfl (by decide) (by show ¬ 6 < 6; decide) ?_
  have h7 := ha.2
  have h8 := hb.2
  refine B_Ow_begins_0 (fun q => ?_) (fun q => ?_)
  · rw [nI_ltI (by omega) (by omega)] at q
    rw [if_neg (fun e => by have := congrArg List.length e; rw [List.length_take] at this; omega)] at k
    exact B_Ow_begins_23 (B_Ow_begins_24 (by decide) k)
  · rw [nI_ltI (by omega) (by omega)] at q
    have e : ((pk b).toUInt64 >>> (((5 : Int32) * (nI b.length - nI a.length)).toInt64.toUInt64 &&& Int64.toUInt64 63)).toInt64 = pk (b.take a.length) := by
      rw [nI_subN (by omega), show (5 : Int32) = nI 5 from rfl, nI_mulN]
      unfold pk
      rw [l_ushr (by have := hb.pk; omega) (by omega), ← pw32, pkN_div hb.lt]
    refine B_Ow_begins_6 (fun z => ?_) (fun z => ?_)
    · rw [e, lg_cmp0, pk_inj (hb.take _) ha] at z
      rw [if_neg (fun w => z w.symm)] at k
      exact B_Ow_begins_23 (B_Ow_begins_24 (by decide) k)
    · rw [e, lg_cmp0, pk_inj (hb.take _) ha] at z
      rw [if_pos z.symm] at k
      exact B_Ow_begins_19 (B_Ow_begins_24 (by decide) k)
theorem ow_ends {d : Nat} {h : PH} {Q : PQ} {a b : List Nat} (ha : okr a) (hb : okr b) (k : Q (some (.int (if a.length ≤ b.length ∧ a = b.drop (b.length - a.length) then 1 else 0))) h) : wpm (d + 2) 163 [.long (pk a), .int (nI a.length), .long (pk b), .int (nI b.length)] h Q := by
  refine wpm_in P_Ow_ends rfl (by decide) (by show ¬ 6 < 6; decide) ?_
  have h7 := ha.2
  have h8 := hb.2
  refine B_Ow_ends_0 (fun q => ?_) (fun q => ?_)
  · rw [nI_ltI (by omega) (by omega)] at q
    rw [if_neg (fun e => by omega)] at k
    exact B_Ow_ends_20 (B_Ow_ends_21 (by decide) k)
  · rw [nI_ltI (by omega) (by omega)] at q
    refine B_Ow_ends_6 (ow_lastOf hb (by omega) ?_)
    refine B_Ow_ends_11 (fun z => ?_) (fun z => ?_)
    · rw [lg_cmp0, pk_inj (hb.drop _) ha] at z
      rw [if_neg (fun w => z w.2.symm)] at k
      exact B_Ow_ends_20 (B_Ow_ends_21 (by decide) k)
    · rw [lg_cmp0, pk_inj (hb.drop _) ha] at z
      rw [if_pos ⟨by omega, z.symm⟩] at k
      exact B_Ow_ends_16 (B_Ow_ends_21 (by decide) k)
/-- a letter as it is shown -/
def shw (l : List Nat) (i : Int32) : Int32 := if i < 0 ∨ nI l.length ≤ i then -1 else nI (l.getD i.toNatClampNeg 0 + 96)
theorem ow_shown {d : Nat} {h : PH} {Q : PQ} {l : List Nat} {i : Int32} (hl : okr l) (k : Q (some (.int (shw l i))) h) : wpm (d + 2) 166 [.long (pk l), .int (nI l.length), .int i] h Q := by
  refine wpm_in P_Ow_shown rfl (by decide) (by show ¬ 4 < 4; decide) ?_
  unfold shw at k
  refine B_Ow_shown_0 (fun q => ?_) (fun q => ?_)
  · rw [if_pos (Or.inl q)] at k
    exact B_Ow_shown_9 (B_Ow_shown_22 k)
  · refine B_Ow_shown_4 (fun z => ?_) (fun z => ?_)
    · have hc : ¬ (i < 0 ∨ nI l.length ≤ i) := fun w => w.elim q (fun w => absurd z (Int32.not_lt.mpr w))
      rw [if_neg hc] at k
      refine B_Ow_shown_13 (ow_signOf hl ?_)
      refine B_Ow_shown_19 (B_Ow_shown_22 ?_)
      unfold sgn
      rw [if_neg hc, show (96 : Int32) = nI 96 from rfl, nI_add]
      exact k
    · rw [if_pos (Or.inr (Int32.not_lt.mp z))] at k
      exact B_Ow_shown_9 (B_Ow_shown_22 k)
theorem ow_flushLeft {d : Nat} {h : PH} {Q : PQ} {l : List Nat} (hl : okr l) (k : Q (some (.long (lN (pkN l * 32 ^ (7 - l.length))))) h) : wpm (d + 1) 167 [.long (pk l), .int (nI l.length)] h Q := by
  refine wpm_in P_Ow_flushLeft rfl (by decide) (by show ¬ 3 < 3; decide) ?_
  have h7 := hl.2
  refine B_Ow_flushLeft_0 ?_
  have e : (pk l) <<< (((5 : Int32) * ((7 : Int32) - nI l.length)).toInt64 &&& 63) = lN (pkN l * 32 ^ (7 - l.length)) := by
    rw [show (7 : Int32) = nI 7 from rfl, nI_subN h7, show (5 : Int32) = nI 5 from rfl, nI_mulN]
    unfold pk
    rw [l_shl (by omega), ← pw32]
  rw [e]
  exact k
