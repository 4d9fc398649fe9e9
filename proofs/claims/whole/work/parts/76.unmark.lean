/-! THE CLASS: marks taken back -/
theorem pk_unbehind {l : List Nat} (h : okr (l ++ [27])) : ((pk (l ++ [27])).toUInt64 >>> ((5 : Int32).toInt64.toUInt64 &&& Int64.toUInt64 63)).toInt64 = pk l := by
  have h35 := h.pk
  unfold pk
  rw [show (5 : Int32) = nI 5 from rfl, l_ushr (by omega) (by omega), pkN_snoc]
  congr 1
  omega
theorem gr_unmark {d : Nat} {h : PH} {Q : PQ} {o : Nat} {gs : List (List Nat)} {m s : Nat} {x : Int32} (hs : GrS h o) (ho : okg gs m) (hg : CGr h o (mkg x s gs) m) (hb : s < 2 ^ 31) (h7 : ∀ t l, gs[t]? = some l → inm s t → l.length < 7) (k : ∀ h', CGr h' o gs m → h_i h' o 6 = h_i h o 6 + 1 → Fr (Wcm o) h h' → Q none h') : wpm (d + 2) 41 [.ref o, .int x, .int (nI s)] h Q := by
  refine wpm_in P_Gr_unmark rfl (by decide) (by show ¬ 4 < 3; decide) ?_
  have h14 := ho.1
  have hr0 : ∀ t l, gs[t]? = some l → h_l h (o + 1) t = pk (mkr x s t l) ∧ h_i h (o + 2) t = nI (mkr x s t l).length := fun t l ht => by
    refine hg.2.2.2 t (mkr x s t l) ?_
    unfold mkg
    rw [List.getElem?_mapIdx, ht]
    rfl
  refine B_Gr_unmark_0 hs.1 ?_
  have loop : ∀ (c j : Nat) (g : PH), gs.length - j = c → j ≤ gs.length → Fr (Wcm o) h g → h_i g o 6 = h_i h o 6 + 1 → (∀ t l, gs[t]? = some l → h_l g (o + 1) t = pk (if t < j then l else mkr x s t l) ∧ h_i g (o + 2) t = nI (if t < j then l else mkr x s t l).length) → wpx (d + 1) P_Gr_unmark 12 [.ref o, .int x, .int (nI s), .int (nI j)] [] g Q := by
    intro c
    induction c with
    | zero =>
      intro j g hj hle hf hst hr
      have hG := hf.gr hs
      have e3 : h_i g o 3 = nI gs.length := by rw [hf.i o 3 (fun q => by unfold Wcm at q; omega), hg.2.1, mkg_len]
      refine B_Gr_unmark_12 hG.1 (fun _ => B_Gr_unmark_92 ?_) (fun q => ?_)
      · refine k g ⟨ho, e3, ?_, fun t l ht => ?_⟩ hst hf
        · rw [hf.i o 5 (fun q => by unfold Wcm at q; omega)]; exact hg.2.2.1
        · have hlt := (List.getElem?_eq_some_iff.mp ht).1
          have := hr t l ht
          rw [if_pos (by omega)] at this
          exact this
      · rw [e3, nI_leI (by omega) (by omega)] at q
        omega
    | succ c ih =>
      intro j g hj hle hf hst hr
      have hG := hf.gr hs
      have e3 : h_i g o 3 = nI gs.length := by rw [hf.i o 3 (fun q => by unfold Wcm at q; omega), hg.2.1, mkg_len]
      have hj' : j < gs.length := by omega
      have ga : gs[j]? = some gs[j] := List.getElem?_eq_getElem hj'
      generalize gs[j] = a at ga
      obtain ⟨a1, a2, a3⟩ := ho.at ga
      have a7 := a1.2
      have va : vp_in (nI j) 14 := vp_in_nI a3 (by omega)
      have ra := hr j a ga
      rw [if_neg (by omega)] at ra
      refine B_Gr_unmark_12 hG.1 (fun q => ?_) (fun _ => ?_)
      · rw [e3, nI_leI (by omega) (by omega)] at q
        omega
      refine B_Gr_unmark_20 (fun q => ?_) (fun q => ?_)
      · rw [bit_c hb (by omega)] at q
        have e : mkr x s j a = a := by unfold mkr; rw [if_neg (fun w => q w.1)]
        rw [e] at ra
        refine B_Gr_unmark_86 ?_
        rw [nI_1]
        refine ih (j + 1) g (by omega) (by omega) hf hst (fun t l ht => ?_)
        by_cases et : t = j
        · subst et
          rw [ga] at ht
          cases ht
          rw [if_pos (by omega)]
          exact ra
        · have := hr t l ht
          by_cases lt : t < j
          · rw [if_pos lt] at this; rw [if_pos (by omega)]; exact this
          · rw [if_neg lt] at this; rw [if_neg (by omega)]; exact this
      rw [bit_c hb (by omega)] at q
      have z' := h7 j a ga q
      have em : mkr x s j a = mkl x a := by unfold mkr; rw [if_pos ⟨q, z'⟩]
      rw [em, mkl_len] at ra
      have okm : okr (mkl x a) := mkl_ok a1 z'
      refine B_Gr_unmark_29 hG.1 hG.2.2.1.1 hG.2.2.1.2 va (fun z => ?_) (fun _ => ?_)
      · rw [nI_clamp (by omega), ra.2] at z
        have := (nI_leI (b := 1) (by omega) (by omega)).mp z
        omega
      have el : h_i g (o + 2) (nI j).toNatClampNeg - (1 : Int32) = nI a.length := by rw [nI_clamp (by omega), ra.2, nI_pred]
      have f1 : Fr (Wcm o) g (w_i g (o + 2) (nI j).toNatClampNeg (nI a.length)) := Fr.wi _ _ (Or.inr (Or.inl rfl))
      have hG1 := f1.gr hG
      have l1 : h_l (w_i g (o + 2) (nI j).toNatClampNeg (nI a.length)) (o + 1) (nI j).toNatClampNeg = pk (mkl x a) := by
        show h_l g (o + 1) (nI j).toNatClampNeg = _
        rw [nI_clamp (by omega)]
        exact ra.1
      have i1 : h_i (w_i g (o + 2) (nI j).toNatClampNeg (nI a.length)) (o + 2) (nI j).toNatClampNeg = nI a.length := wi_eq ..
      have st1 : h_i (w_i g (o + 2) (nI j).toNatClampNeg (nI a.length)) o 6 = h_i h o 6 + 1 := by rw [wi_ne _ _ (by omega)]; exact hst
      have o1 : ∀ t, t ≠ j → h_l (w_i g (o + 2) (nI j).toNatClampNeg (nI a.length)) (o + 1) t = h_l g (o + 1) t ∧ h_i (w_i g (o + 2) (nI j).toNatClampNeg (nI a.length)) (o + 2) t = h_i g (o + 2) t := fun t ht => by
        refine ⟨rfl, ?_⟩
        rw [nI_clamp (by omega), wi_ne _ _ (by omega)]
      have put : ∀ g1 : PH, Fr (Wcm o) g g1 → h_i g1 (o + 2) j = nI a.length → h_i g1 o 6 = h_i h o 6 + 1 → (∀ t, t ≠ j → h_l g1 (o + 1) t = h_l g (o + 1) t ∧ h_i g1 (o + 2) t = h_i g (o + 2) t) → wpx (d + 1) P_Gr_unmark 85 [.ref o, .int x, .int (nI s), .int (nI j)] [.long (pk a), .int (nI j), .ref (o + 1)] g1 Q := by
        intro g1 ff i2 st2 o2
        have hG2 := ff.gr hG
        refine B_Gr_unmark_85 hG2.2.1.2 va (B_Gr_unmark_86 ?_)
        rw [nI_clamp (by omega), nI_1]
        refine ih (j + 1) _ (by omega) (by omega) ((hf.tr ff).tr (Fr.wl _ _ (Or.inl rfl))) st2 (fun t l ht => ?_)
        by_cases et : t = j
        · subst et
          rw [ga] at ht
          cases ht
          rw [if_pos (by omega), wl_eq]
          exact ⟨rfl, i2⟩
        · have := hr t l ht
          rw [wl_ne _ _ (by omega), (o2 t et).1, show h_i (w_l g1 (o + 1) j (pk a)) (o + 2) t = h_i g1 (o + 2) t from rfl, (o2 t et).2]
          by_cases lt : t < j
          · rw [if_pos lt] at this; rw [if_pos (by omega)]; exact this
          · rw [if_neg lt] at this; rw [if_neg (by omega)]; exact this
      refine B_Gr_unmark_39 hG.1 hG.2.2.1.1 hG.2.2.1.2 va hG.2.1.1 (fun n1 => ?_) (fun n1 => ?_)
      · rw [el]
        generalize w_i g (o + 2) (nI j).toNatClampNeg (nI a.length) = g1 at f1 hG1 l1 i1 st1 o1 ⊢
        rw [nI_clamp (by omega)] at i1
        refine B_Gr_unmark_77 hG1.1 hG1.2.1.1 hG1.2.1.2 va ?_
        rw [l1]
        unfold mkl at okm ⊢
        rw [if_neg n1] at okm ⊢
        rw [pk_unbehind okm]
        exact put g1 f1 i1 st1 o1
      · rw [el]
        generalize w_i g (o + 2) (nI j).toNatClampNeg (nI a.length) = g1 at f1 hG1 l1 i1 st1 o1 ⊢
        refine B_Gr_unmark_59 hG1.1 hG1.2.1.1 hG1.2.1.2 va hG1.2.2.1.1 hG1.2.2.1.2 va ?_
        rw [l1, i1]
        rw [nI_clamp (by omega)] at i1
        unfold mkl at okm ⊢
        rw [if_pos n1] at okm ⊢
        refine ow_lastOf okm (by rw [List.length_cons]; omega) ?_
        rw [show (27 :: a).length - a.length = 1 from by rw [List.length_cons]; omega]
        exact B_Gr_unmark_74 (put g1 f1 i1 st1 o1)
  refine loop _ 0 _ rfl (Nat.zero_le _) (Fr.wi _ _ (Or.inr (Or.inr ⟨rfl, rfl⟩))) (wi_eq ..) (fun t l ht => ?_)
  rw [if_neg (by omega), wi_ne _ _ (by omega)]
  exact hr0 t l ht
