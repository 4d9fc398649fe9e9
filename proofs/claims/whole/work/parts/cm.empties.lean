/-! words on the reference's side: a layer made empty -/
def LTk (h : PH) (L : Nat) (P : List Nat) : Prop := h_i h 50 L = nI P.length ∧ P.Nodup ∧ (∀ (i p : Nat), P[i]? = some p → p < 16384 ∧ h_i h 49 (16384 * L + i) = nI (16384 * L + p)) ∧ ∀ p, p < 16384 → (p ∈ P → h_i h 48 (16384 * L + p) = 1) ∧ (¬ p ∈ P → h_i h 48 (16384 * L + p) = 0)
def Wem (L x k : Nat) : Prop := (x = 48 ∧ 16384 * L ≤ k ∧ k < 16384 * L + 16384) ∨ (x = 50 ∧ k = L)
theorem LTk.len {h : PH} {L : Nat} {P : List Nat} (hL : LTk h L P) : P.length ≤ 16384 := by
  have h1 : ∀ p ∈ P, p ∈ List.range 16384 := fun p hp => by
    obtain ⟨i, hi⟩ := List.mem_iff_getElem?.mp hp
    exact List.mem_range.mpr (hL.2.2.1 i p hi).1
  have := hL.2.1.length_le_of_subset h1
  rw [List.length_range] at this
  exact this
theorem md_empties {d : Nat} {h : PH} {Q : PQ} {L : Nat} {P : List Nat} (hM : MdS h) (hL : L < 2) (hT : LTk h L P) (k : ∀ h', LTk h' L [] → Fr (Wem L) h h' → Q none h') : wpm (d + 1) 252 [.ref 17, .int (nI L)] h Q := by
  refine wpm_in P_Md_empties rfl (by decide) (by show ¬ 3 < 2; decide) ?_
  have hlen := hT.len
  obtain ⟨t1, t2, t3, t4⟩ := hT
  have loop : ∀ (e i : Nat) (g : PH), P.length - i = e → i ≤ P.length → h_i g 50 L = nI P.length → (∀ (j p : Nat), P[j]? = some p → h_i g 49 (16384 * L + j) = nI (16384 * L + p)) → (∀ p, p < 16384 → ¬ p ∈ P.drop i → h_i g 48 (16384 * L + p) = 0) → Fr (Wem L) h g → wpx d P_Md_empties 2 [.ref 17, .int (nI L), .int (nI i)] [] g Q := by
    intro e
    induction e with
    | zero =>
      intro i g he hi g50 g49 g48 hf
      have hMg := hf.md hM
      have ei : i = P.length := by omega
      subst ei
      refine B_Md_empties_2 hMg.1 (mr_takenMany hMg) (ms_takenMany hMg) (vp_in_nI (by omega) (by omega)) (fun _ => B_Md_empties_36 hMg.1 (mr_takenMany hMg) (ms_takenMany hMg) (vp_in_nI (by omega) (by omega)) ?_) (fun q => ?_)
      · rw [nI_clamp (by omega)]
        refine k _ ⟨wi_eq .., List.nodup_nil, fun i p hp => (by cases hp), fun p hp => ⟨fun w => (by cases w), fun _ => ?_⟩⟩ (hf.tr (Fr.wi _ _ (Or.inr ⟨rfl, rfl⟩)))
        rw [wi_ne _ _ (by omega)]
        refine g48 p hp ?_
        rw [List.drop_length]
        intro w
        cases w
      · rw [nI_clamp (by omega), g50, nI_leI (by omega) (by omega)] at q
        omega
    | succ e ih =>
      intro i g he hi g50 g49 g48 hf
      have hMg := hf.md hM
      have gp : P[i]? = some P[i] := List.getElem?_eq_getElem (by omega)
      have hp := t3 i _ gp
      have hi49 := g49 i _ gp
      generalize P[i] = p at gp hp hi49
      have eix : (16384 : Int32) * nI L + nI i = nI (16384 * L + i) := by rw [show (16384 : Int32) = nI 16384 from rfl, nI_mulN, nI_add]
      refine B_Md_empties_2 hMg.1 (mr_takenMany hMg) (ms_takenMany hMg) (vp_in_nI (by omega) (by omega)) (fun q => ?_) (fun _ => B_Md_empties_12 hMg.1 (mr_isTaken hMg) (mr_taken hMg) (ms_taken hMg) (by rw [eix]; exact vp_in_nI (by omega) (by omega)) (ms_isTaken hMg) (by rw [eix, nI_clamp (by omega), hi49]; exact vp_in_nI (by omega) (by omega)) ?_)
      · rw [nI_clamp (by omega), g50, nI_leI (by omega) (by omega)] at q
        omega
      · rw [eix, nI_clamp (by omega), hi49, nI_clamp (by omega), nI_1]
        refine ih (i + 1) _ (by omega) (by omega) (by rw [wi_ne _ _ (by omega)]; exact g50) (fun j p' hj => by rw [wi_ne _ _ (by omega)]; exact g49 j p' hj) (fun p' hp' hn => ?_) (hf.tr (Fr.wi _ _ (Or.inl ⟨rfl, by omega, by omega⟩)))
        by_cases y : p' = p
        · rw [y, wi_eq]
          decide
        · rw [wi_ne _ _ (by omega)]
          refine g48 p' hp' (fun w => hn ?_)
          have ed : P.drop i = p :: P.drop (i + 1) := by
            have hlt : i < P.length := by omega
            rw [List.drop_eq_getElem_cons hlt]
            have : P[i] = p := by
              have := (List.getElem?_eq_some_iff.mp gp).2
              exact this
            rw [this]
          rw [ed] at w
          exact (List.mem_cons.mp w).elim (fun z => absurd z y) id
  exact B_Md_empties_0 (loop _ 0 h rfl (Nat.zero_le _) t1 (fun j p hp => (t3 j p hp).2) (fun p hp hn => (t4 p hp).2 hn) (Fr.rf _ _))
