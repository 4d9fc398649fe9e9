/-! words on the reference's side: words added to a state that is there -/
def Wly (L x k : Nat) : Prop := (x = 46 ∧ 65536 * L ≤ k ∧ k < 65536 * L + 65536) ∨ ((x = 47 ∨ x = 48 ∨ x = 49) ∧ 16384 * L ≤ k ∧ k < 16384 * L + 16384) ∨ (x = 50 ∧ k = L)
theorem LT.old {h : PH} {L m i p n : Nat} {N gs V : List (List Nat)} {P : List Nat} {cs : Nat → Nat} (hT : LT h L N gs m V P cs) (hp : P[i]? = some p) (hi : i < V.length) : LT (w_l h 47 (16384 * L + p) (h_l h 47 (16384 * L + p) + lN n)) L N gs m V P (updD cs i (cs i + n)) := by
  obtain ⟨⟨t1, t2, t3, t4⟩, t5, t6⟩ := hT
  refine ⟨⟨t1, t2, t3, t4⟩, t5, fun i' p' v' hp' hv' => ?_⟩
  obtain ⟨s1, s2, s3⟩ := t6 i' p' v' hp' hv'
  refine ⟨fun k hk => ?_, ?_, s3⟩
  · rw [h_l_wl, if_neg (by omega)]
    exact s1 k hk
  · rw [h_l_wl]
    by_cases y : i' = i
    · rw [y] at hp' s2 ⊢
      rw [hp] at hp'
      have e : p = p' := Option.some.inj hp'
      rw [← e] at s2 ⊢
      rw [if_pos ⟨rfl, rfl⟩, updD_at, s2, lN_addN]
    · have ne : p' ≠ p := fun e => by
        rw [e] at hp'
        have l2 := (List.getElem?_eq_some_iff.mp hp').1
        exact y ((List.getElem?_inj l2 t2).mp (hp'.trans hp.symm))
      rw [if_neg (fun w => ne (by have := w.2; omega)), updD_ne _ _ y]
      exact s2
theorem md_counts_old {d L m i p n : Nat} {h : PH} {Q : PQ} {N gs V : List (List Nat)} {P : List Nat} {cs : Nat → Nat} {y4 : Int64} {v7 : Value} (hM : MdS h) (hL : L < 2) (hT : LT h L N gs m V P cs) (hp : P[i]? = some p) (hi : i < V.length) (k : ∀ h', LT h' L N gs m V P (updD cs i (cs i + n)) → Fr (Wly L) h h' → Q none h') : wpx d P_Md_counts 199 [.ref 17, .int (nI L), .long (lN n), .retAddr 2, .long y4, .retAddr 2, .int (nI (16384 * L + p)), v7] [] h Q := by
  have pl := (hT.1.2.2.1 i p hp).1
  refine B_Md_counts_199 hM.1 (mr_counts hM) (ms_counts hM) (vp_in_nI (by omega) (by omega)) ?_
  rw [nI_clamp (by omega)]
  exact k _ (hT.old hp hi) (Fr.wl _ _ (Or.inr (Or.inl ⟨Or.inl rfl, by omega, by omega⟩)))
