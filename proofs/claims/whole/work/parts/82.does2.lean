/-! THE MODEL: a set left out -/
theorem and_not {m s : Nat} (hm : m < 2 ^ 32) (hs : s < 2 ^ 32) (sub : s &&& m = s) : nI m &&& (nI s ^^^ (-1 : Int32)) = nI (m ^^^ s) := by
  rw [← nI_xorN hm hs]
  have key : nI s &&& nI m = nI s := by rw [nI_andN hs hm, sub]
  generalize nI m = a at key ⊢
  generalize nI s = b at key ⊢
  have key' := congrArg Int32.toBitVec key
  rw [Int32.toBitVec_and] at key'
  apply Int32.toBitVec_inj.mp
  rw [Int32.toBitVec_and, Int32.toBitVec_xor, Int32.toBitVec_xor, show (-1 : Int32).toBitVec = BitVec.allOnes 32 from by decide]
  generalize a.toBitVec = p at key' ⊢
  generalize b.toBitVec = q at key' ⊢
  apply BitVec.eq_of_getLsbD_eq
  intro i hi
  have hk := congrArg (fun v => v.getLsbD i) key'
  simp only [BitVec.getLsbD_and] at hk
  rw [BitVec.getLsbD_and, BitVec.getLsbD_xor, BitVec.getLsbD_xor, BitVec.getLsbD_allOnes]
  rw [show decide (i < 32) = true from decide_eq_true hi]
  generalize p.getLsbD i = u at hk ⊢
  generalize q.getLsbD i = v at hk ⊢
  revert hk
  cases u <;> cases v <;> decide
theorem md_does2 {d : Nat} {h : PH} {Q : PQ} {gs : List (List Nat)} {m s : Nat} (hM : MdS h) (hg : MGr h gs m) (hb : s < 2 ^ gs.length) (sub : s &&& m = s) (k : ∀ h', MGr h' gs (m ^^^ s) → Fr (fun c k => c = 17 ∧ k = 6) h h' → Q none h') : wpm (d + 1) 274 [.ref 17, .int 2, .int (nI s)] h Q := by
  refine wpm_in P_Md_does rfl (by decide) (by show ¬ 4 < 3; decide) ?_
  have h14 := hg.1.1
  have hb31 : s < 2 ^ 31 := Nat.lt_of_lt_of_le hb (Nat.pow_le_pow_right (by decide) (by omega))
  have hm := hg.1.m31
  have go : ∀ v : Int32, wpx d P_Md_does 44 [.ref 17, .int 2, .int (nI s), .int v] [] h Q := by
    intro v
    refine B_Md_does_44 hM.1 (fun z => absurd rfl z) (fun _ => B_Md_does_54 (B_Md_does_61 hM.1 ?_))
    rw [hg.2.2.1, and_not (by omega) (by omega) sub]
    refine k _ ⟨⟨hg.1.1, Nat.xor_lt_two_pow hg.1.2.1 hb, hg.1.2.2⟩, ?_, wi_eq .., fun t l ht => ⟨?_, fun i x hi => ?_⟩⟩ (Fr.wi _ _ ⟨rfl, rfl⟩)
    · rw [wi_ne _ _ (by omega)]; exact hg.2.1
    · rw [wi_ne _ _ (by omega)]; exact (hg.2.2.2 t l ht).1
    · rw [wi_ne _ _ (by omega)]; exact (hg.2.2.2 t l ht).2 i x hi
  refine B_Md_does_0 (B_Md_does_2 hM.1 (fun _ => go _) (fun _ => B_Md_does_10 (fun _ => go _) (fun z => absurd (by decide) z)))
