/-! THE MODEL: a mark taken back -/
theorem md_unmarks_behind {d : Nat} {h : PH} {Q : PQ} {g : Nat} {l : List Nat} (hM : MdS h) (hr : MRow h g (l ++ [27])) (hg : g < 14) (h7 : l.length < 7) (k : ∀ h', MRow h' g l → Fr (Wrw g) h h' → Q none h') : wpm (d + 1) 273 [.ref 17, .int (nI g), .int 0] h Q := by
  refine wpm_in P_Md_unmarks rfl (by decide) (by show ¬ 4 < 3; decide) ?_
  have vg : vp_in (nI g) 14 := vp_in_nI hg (by omega)
  refine B_Md_unmarks_0 hM.1 (mr_size hM) (ms_size hM) vg ?_
  have e : h_i h 19 g = nI (l.length + 1) := by rw [hr.1, List.length_append]; rfl
  rw [nI_clamp (by omega), e, nI_pred]
  have f1 : Fr (Wrw g) h (w_i h 19 g (nI l.length)) := Fr.wi _ _ (Or.inl ⟨rfl, rfl⟩)
  have rr : MRow (w_i h 19 g (nI l.length)) g l := by
    refine ⟨wi_eq .., fun j x hj => ?_⟩
    have hlt := (List.getElem?_eq_some_iff.mp hj).1
    rw [wi_ne _ _ (by omega)]
    exact hr.2 j x (by rw [List.getElem?_append_left hlt]; exact hj)
  have hG := f1.md hM
  refine B_Md_unmarks_12 hG.1 (mr_size hG) (ms_size hG) vg (fun _ => B_Md_unmarks_56 (k _ rr f1)) (fun _ => ?_)
  exact B_Md_unmarks_22 (fun _ => B_Md_unmarks_56 (k _ rr f1)) (fun z => absurd rfl z)
theorem md_unmarks_ahead {d : Nat} {h : PH} {Q : PQ} {g : Nat} {l : List Nat} (hM : MdS h) (hr : MRow h g (27 :: l)) (hg : g < 14) (h7 : l.length < 7) (k : ∀ h', MRow h' g l → Fr (Wrw g) h h' → Q none h') : wpm (d + 1) 273 [.ref 17, .int (nI g), .int 1] h Q := by
  refine wpm_in P_Md_unmarks rfl (by decide) (by show ¬ 4 < 3; decide) ?_
  have vg : vp_in (nI g) 14 := vp_in_nI hg (by omega)
  refine B_Md_unmarks_0 hM.1 (mr_size hM) (ms_size hM) vg ?_
  have e : h_i h 19 g = nI (l.length + 1) := by rw [hr.1, List.length_cons]
  rw [nI_clamp (by omega), e, nI_pred]
  have f1 : Fr (Wrw g) h (w_i h 19 g (nI l.length)) := Fr.wi _ _ (Or.inl ⟨rfl, rfl⟩)
  have loop : ∀ (c j : Nat) (g1 : PH), l.length - j = c → j ≤ l.length → Fr (Wrw g) h g1 → h_i g1 19 g = nI l.length → (∀ i, i < j → h_i g1 18 (8 * g + i) = h_i h 18 (8 * g + i + 1)) → (∀ i, j ≤ i → h_i g1 18 (8 * g + i) = h_i h 18 (8 * g + i)) → wpx d P_Md_unmarks 12 [.ref 17, .int (nI g), .int 1, .int (nI j)] [] g1 Q := by
    intro c
    induction c with
    | zero =>
      intro j g1 hj hle hf hz h1 h2
      have hG := hf.md hM
      refine B_Md_unmarks_12 hG.1 (mr_size hG) (ms_size hG) vg (fun _ => B_Md_unmarks_56 (k _ ⟨hz, fun i x hi => ?_⟩ hf)) (fun q => ?_)
      · have hlt := (List.getElem?_eq_some_iff.mp hi).1
        rw [h1 i (by omega), Nat.add_assoc]
        exact hr.2 (i + 1) x hi
      · rw [nI_clamp (by omega), hz, nI_leI (by omega) (by omega)] at q
        omega
    | succ c ih =>
      intro j g1 hj hle hf hz h1 h2
      have hG := hf.md hM
      refine B_Md_unmarks_12 hG.1 (mr_size hG) (ms_size hG) vg (fun q => ?_) (fun _ => ?_)
      · rw [nI_clamp (by omega), hz, nI_leI (by omega) (by omega)] at q
        omega
      refine B_Md_unmarks_22 (fun z => absurd z (by decide)) (fun _ => ?_)
      have e1 : ((8 : Int32) * nI g) + nI j = nI (8 * g + j) := by rw [show (8 : Int32) = nI 8 from rfl, nI_mulN, nI_add]
      have e2 : (((8 : Int32) * nI g) + nI j) + (1 : Int32) = nI (8 * g + j + 1) := by rw [e1, nI_1]
      refine B_Md_unmarks_26 hG.1 (mr_letters hG) (ms_letters hG) (by rw [e2]; exact vp_in_nI (by omega) (by omega)) (by rw [e1]; exact vp_in_nI (by omega) (by omega)) ?_
      rw [e2, e1, nI_clamp (by omega), nI_clamp (by omega), nI_1, Nat.add_assoc, h2 (j + 1) (by omega)]
      refine ih (j + 1) _ (by omega) (by omega) (hf.tr (Fr.wi _ _ (Or.inr ⟨rfl, by omega, by omega⟩))) (by rw [wi_ne _ _ (by omega)]; exact hz) (fun i hi => ?_) (fun i hi => ?_)
      · by_cases ei : i = j
        · rw [ei, wi_eq, Nat.add_assoc]
        · rw [wi_ne _ _ (by omega)]; exact h1 i (by omega)
      · rw [wi_ne _ _ (by omega)]; exact h2 i (by omega)
  refine loop _ 0 _ rfl (Nat.zero_le _) f1 (wi_eq ..) (fun i hi => absurd hi (by omega)) (fun i _ => wi_ne _ _ (by omega))
