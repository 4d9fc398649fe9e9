/-! THE MODEL: a mark ahead -/
theorem md_marks_ahead {d : Nat} {h : PH} {Q : PQ} {g : Nat} {l : List Nat} (hM : MdS h) (hr : MRow h g l) (hg : g < 14) (h7 : l.length < 7) (k : ∀ h', MRow h' g (27 :: l) → Fr (Wrw g) h h' → Q none h') : wpm (d + 1) 272 [.ref 17, .int (nI g), .int 1] h Q := by
  refine wpm_in P_Md_marks rfl (by decide) (by show ¬ 4 < 3; decide) ?_
  have vg : vp_in (nI g) 14 := vp_in_nI hg (by omega)
  refine B_Md_marks_0 hM.1 (mr_size hM) (ms_size hM) vg ?_
  rw [nI_clamp (by omega), hr.1]
  have loop : ∀ (j : Nat) (g1 : PH), j ≤ l.length → Fr (fun c k => c = 18 ∧ 8 * g ≤ k ∧ k < 8 * g + 8) h g1 → (∀ i, i ≤ j → h_i g1 18 (8 * g + i) = h_i h 18 (8 * g + i)) → (∀ i, j < i → i ≤ l.length → h_i g1 18 (8 * g + i) = h_i h 18 (8 * g + i - 1)) → wpx d P_Md_marks 7 [.ref 17, .int (nI g), .int 1, .int (nI j)] [] g1 Q := by
    intro j
    induction j with
    | zero =>
      intro g1 _ hf h1 h2
      have hG := hf.md hM
      refine B_Md_marks_7 (fun _ => ?_) (fun q => absurd (by decide) q)
      refine B_Md_marks_45 hG.1 (mr_letters hG) (fun z => absurd z (by decide)) (fun _ => B_Md_marks_57 ?_)
      rw [show (8 : Int32) = nI 8 from rfl, nI_mulN]
      refine B_Md_marks_67 (ms_letters hG) (by rw [show (0 : Int32) = nI 0 from rfl, nI_add]; exact vp_in_nI (by omega) (by omega)) hG.1 (mr_size hG) (ms_size hG) vg ?_
      rw [show (0 : Int32) = nI 0 from rfl, nI_add, nI_clamp (by omega), nI_clamp (by omega), wi_ne _ _ (by omega), hf.i 19 g (by omega), hr.1, nI_1, Nat.add_zero]
      refine k _ ⟨by rw [wi_eq, List.length_cons], fun i x hi => ?_⟩ (((hf.up (fun c k q => Or.inr q)).tr (Fr.wi _ _ (Or.inr ⟨rfl, by omega, by omega⟩))).tr (Fr.wi _ _ (Or.inl ⟨rfl, rfl⟩)))
      rw [wi_ne _ _ (by omega)]
      cases i with
      | zero =>
        cases hi
        rw [Nat.add_zero, wi_eq]
        rfl
      | succ i =>
        have hi' : l[i]? = some x := hi
        have hlt := (List.getElem?_eq_some_iff.mp hi').1
        rw [wi_ne _ _ (by omega), h2 (i + 1) (by omega) (by omega), show 8 * g + (i + 1) - 1 = 8 * g + i from by omega]
        exact hr.2 i x hi'
    | succ j ih =>
      intro g1 hle hf h1 h2
      have hG := hf.md hM
      refine B_Md_marks_7 (fun q => absurd q (nI_nle (by omega) (by omega))) (fun _ => ?_)
      refine B_Md_marks_11 (fun z => absurd z (by decide)) (fun _ => ?_)
      have e1 : ((8 : Int32) * nI g) + nI (j + 1) = nI (8 * g + j + 1) := by rw [show (8 : Int32) = nI 8 from rfl, nI_mulN, nI_add, Nat.add_assoc]
      have e2 : (((8 : Int32) * nI g) + nI (j + 1)) - (1 : Int32) = nI (8 * g + j) := by rw [e1, nI_pred]
      refine B_Md_marks_15 hG.1 (mr_letters hG) (ms_letters hG) (by rw [e2]; exact vp_in_nI (by omega) (by omega)) (by rw [e1]; exact vp_in_nI (by omega) (by omega)) ?_
      rw [e2, e1, nI_clamp (by omega), nI_clamp (by omega), nI_m1, h1 j (by omega)]
      refine ih _ (by omega) (hf.tr (Fr.wi _ _ ⟨rfl, by omega, by omega⟩)) (fun i hi => ?_) (fun i hi hl => ?_)
      · rw [wi_ne _ _ (by omega)]; exact h1 i (by omega)
      · by_cases e : i = j + 1
        · rw [e, show 8 * g + (j + 1) = 8 * g + j + 1 from by omega, wi_eq]
          rfl
        · rw [wi_ne _ _ (by omega)]; exact h2 i (by omega) hl
  exact loop _ h (Nat.le_refl _) (Fr.rf _ h) (fun i _ => rfl) (fun i hi hl => absurd hi (by omega))
