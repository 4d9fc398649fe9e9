/-! THE MODEL: marks of a whole set -/
theorem MRow.fr {h h' : PH} {j t : Nat} {l : List Nat} (hf : Fr (Wrw j) h h') (ht : t ≠ j) (hl : l.length ≤ 8) (hr : MRow h t l) : MRow h' t l := by
  refine ⟨by rw [hf.i 19 t (fun q => by unfold Wrw at q; omega)]; exact hr.1, fun i x hi => ?_⟩
  have hlt := (List.getElem?_eq_some_iff.mp hi).1
  rw [hf.i 18 _ (fun q => by unfold Wrw at q; omega)]
  exact hr.2 i x hi
theorem md_doesM {d : Nat} {h : PH} {Q : PQ} {gs : List (List Nat)} {m s : Nat} {x : Int32} (hM : MdS h) (hg : MGr h gs m) (hx : x = 0 ∨ x = 1) (hb : s < 2 ^ 31) (h7 : ∀ t l, gs[t]? = some l → inm s t → l.length < 7) (k : ∀ h', MGr h' (mkg x s gs) m → Fr (fun c k => c = 18 ∨ c = 19 ∨ (c = 17 ∧ k = 6)) h h' → Q none h') : wpm (d + 2) 274 [.ref 17, .int x, .int (nI s)] h Q := by
  refine wpm_in P_Md_does rfl (by decide) (by show ¬ 4 < 3; decide) ?_
  have h14 := hg.1.1
  have hx2 : ¬ x = 2 := by rcases hx with e | e <;> rw [e] <;> decide
  have hx3 : ¬ (2 : Int32) ≤ x := by rcases hx with e | e <;> rw [e] <;> decide
  refine B_Md_does_0 ?_
  have loop : ∀ (c j : Nat) (g : PH), gs.length - j = c → j ≤ gs.length → Fr (fun c _ => c = 18 ∨ c = 19) h g → (∀ t l, gs[t]? = some l → MRow g t (if t < j then mkr x s t l else l)) → wpx (d + 1) P_Md_does 2 [.ref 17, .int x, .int (nI s), .int (nI j)] [] g Q := by
    intro c
    induction c with
    | zero =>
      intro j g hj hle hf hr
      have hG := hf.md hM
      have e4 : h_i g 17 4 = nI gs.length := by rw [hf.i 17 4 (by omega)]; exact hg.2.1
      have e6 : h_i g 17 6 = nI m := by rw [hf.i 17 6 (by omega)]; exact hg.2.2.1
      refine B_Md_does_2 hG.1 (fun _ => ?_) (fun q => ?_)
      · refine B_Md_does_44 hG.1 (fun _ => B_Md_does_60 (B_Md_does_61 hG.1 ?_)) (fun z => absurd z hx2)
        rw [e6, Int32.and_neg_one]
        refine k _ ⟨mkg_ok hg.1, ?_, wi_eq .., fun t l ht => ?_⟩ ((hf.up (fun c k q => by omega)).tr (Fr.wi _ _ (Or.inr (Or.inr ⟨rfl, rfl⟩))))
        · rw [wi_ne _ _ (by omega), e4, mkg_len]
        · obtain ⟨a, ha, rfl⟩ := mkg_at ht
          have hlt := (List.getElem?_eq_some_iff.mp ha).1
          have := hr t a ha
          rw [if_pos (by omega)] at this
          refine ⟨by rw [wi_ne _ _ (by omega)]; exact this.1, fun i y hi => ?_⟩
          rw [wi_ne _ _ (by omega)]
          exact this.2 i y hi
      · rw [e4, nI_leI (by omega) (by omega)] at q
        omega
    | succ c ih =>
      intro j g hj hle hf hr
      have hG := hf.md hM
      have e4 : h_i g 17 4 = nI gs.length := by rw [hf.i 17 4 (by omega)]; exact hg.2.1
      have hj' : j < gs.length := by omega
      have ga : gs[j]? = some gs[j] := List.getElem?_eq_getElem hj'
      generalize gs[j] = a at ga
      obtain ⟨a1, a2, a3⟩ := hg.1.at ga
      have ra := hr j a ga
      rw [if_neg (by omega)] at ra
      have next : ∀ g1 : PH, Fr (Wrw j) g g1 → MRow g1 j (mkr x s j a) → wpx (d + 1) P_Md_does 38 [.ref 17, .int x, .int (nI s), .int (nI j)] [] g1 Q := by
        intro g1 ff rj
        refine B_Md_does_38 ?_
        rw [nI_1]
        refine ih (j + 1) g1 (by omega) (by omega) (hf.tr (ff.up (fun c k q => by unfold Wrw at q; omega))) (fun t l ht => ?_)
        by_cases et : t = j
        · subst et
          rw [ga] at ht
          cases ht
          rw [if_pos (by omega)]
          exact rj
        · have := hr t l ht
          obtain ⟨b1, b2, b3⟩ := hg.1.at ht
          by_cases lt : t < j
          · rw [if_pos lt] at this
            rw [if_pos (by omega)]
            have b7 := (mkr_ok (x := x) (s := s) (t := t) b1 b2).1.2
            exact this.fr ff et (by omega)
          · rw [if_neg lt] at this
            rw [if_neg (by omega)]
            have b7 := b1.2
            exact this.fr ff et (by omega)
      refine B_Md_does_2 hG.1 (fun q => ?_) (fun _ => ?_)
      · rw [e4, nI_leI (by omega) (by omega)] at q
        omega
      refine B_Md_does_10 (fun z => absurd z hx3) (fun _ => B_Md_does_15 ?_)
      refine md_isOf hb (by omega) (fun q => ?_) (fun q => ?_)
      · refine B_Md_does_20 (fun z => absurd z (by decide)) (fun _ => ?_)
        have z' := h7 j a ga q
        have em : mkr x s j a = mkl x a := by unfold mkr; rw [if_pos ⟨q, z'⟩]
        rw [em] at next
        unfold mkl at next
        refine B_Md_does_23 (fun n1 => B_Md_does_34 (B_Md_does_35 hG.1 ?_)) (fun n1 => B_Md_does_30 (B_Md_does_35 hG.1 ?_))
        · rw [if_neg n1] at next
          exact md_marks_behind hG ra a3 z' (fun g1 rj ff => next g1 ff rj)
        · rw [if_pos n1] at next
          exact md_marks_ahead hG ra a3 z' (fun g1 rj ff => next g1 ff rj)
      · refine B_Md_does_20 (fun _ => next g (Fr.rf _ g) ?_) (fun z => absurd rfl z)
        unfold mkr
        rw [if_neg (fun w => q w.1)]
        exact ra
  refine loop _ 0 h rfl (Nat.zero_le _) (Fr.rf _ h) (fun t l ht => ?_)
  rw [if_neg (by omega)]
  exact hg.2.2.2 t l ht
