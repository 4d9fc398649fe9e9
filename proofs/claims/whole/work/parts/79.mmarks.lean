/-! THE MODEL: how many of a set; a group marked -/
theorem md_many {d : Nat} {h : PH} {Q : PQ} {s : Nat} (hs : s < 2 ^ 31) (k : Q (some (.int (nI (pop s 14)))) h) : wpm (d + 1) 173 [.int (nI s)] h Q := by
  refine wpm_in P_Md_many rfl (by decide) (by show ¬ 3 < 1; decide) ?_
  refine B_Md_many_0 ?_
  have loop : ∀ (c n : Nat), 14 - n = c → n ≤ 14 → wpx d P_Md_many 4 [.int (nI s), .int (nI (pop s n)), .int (nI n)] [] h Q := by
    intro c
    induction c with
    | zero =>
      intro n hc hn
      have en : n = 14 := by omega
      subst en
      exact B_Md_many_4 (fun _ => B_Md_many_24 k) (fun q => absurd (by decide) q)
    | succ c ih =>
      intro n hc hn
      refine B_Md_many_4 (fun q => ?_) (fun _ => B_Md_many_10 ?_)
      · have := (nI_leI (a := 14) (by omega) (by omega)).mp q
        omega
      · rw [bit_mN hs (by omega), nI_add, nI_1]
        exact ih (n + 1) (by omega) (by omega)
  exact loop _ 0 rfl (by omega)
/-- the row of one group -/
def MRow (h : PH) (g : Nat) (l : List Nat) : Prop := h_i h 19 g = nI l.length ∧ ∀ j x, l[j]? = some x → h_i h 18 (8 * g + j) = nI (x + 96)
def Wrw (g c k : Nat) : Prop := (c = 19 ∧ k = g) ∨ (c = 18 ∧ 8 * g ≤ k ∧ k < 8 * g + 8)
theorem md_marks_behind {d : Nat} {h : PH} {Q : PQ} {g : Nat} {l : List Nat} (hM : MdS h) (hr : MRow h g l) (hg : g < 14) (h7 : l.length < 7) (k : ∀ h', MRow h' g (l ++ [27]) → Fr (Wrw g) h h' → Q none h') : wpm (d + 1) 272 [.ref 17, .int (nI g), .int 0] h Q := by
  refine wpm_in P_Md_marks rfl (by decide) (by show ¬ 4 < 3; decide) ?_
  have vg : vp_in (nI g) 14 := vp_in_nI hg (by omega)
  refine B_Md_marks_0 hM.1 (mr_size hM) (ms_size hM) vg ?_
  have go : ∀ v : Int32, wpx d P_Md_marks 45 [.ref 17, .int (nI g), .int 0, .int v] [] h Q := by
    intro v
    refine B_Md_marks_45 hM.1 (mr_letters hM) (fun _ => ?_) (fun z => absurd rfl z)
    refine B_Md_marks_61 hM.1 (mr_size hM) (ms_size hM) vg ?_
    rw [nI_clamp (by omega), hr.1, show (8 : Int32) = nI 8 from rfl, nI_mulN]
    refine B_Md_marks_67 (ms_letters hM) (by rw [nI_add]; exact vp_in_nI (by omega) (by omega)) hM.1 (mr_size hM) (ms_size hM) vg ?_
    rw [nI_add, nI_clamp (by omega), nI_clamp (by omega), wi_ne _ _ (by omega), hr.1, nI_1]
    refine k _ ⟨by rw [wi_eq, List.length_append]; rfl, fun j x hj => ?_⟩ ((Fr.wi h _ (Or.inr ⟨rfl, by omega, by omega⟩)).tr (Fr.wi _ _ (Or.inl ⟨rfl, rfl⟩)))
    rw [wi_ne _ _ (by omega)]
    by_cases e : j = l.length
    · subst e
      rw [List.getElem?_append_right (Nat.le_refl _), Nat.sub_self] at hj
      cases hj
      rw [wi_eq]
      rfl
    · have hlt := (List.getElem?_eq_some_iff.mp hj).1
      rw [List.length_append] at hlt
      have hlt' : j < l.length := by have : [27].length = 1 := rfl; omega
      rw [List.getElem?_append_left hlt'] at hj
      rw [wi_ne _ _ (by omega)]
      exact hr.2 j x hj
  exact B_Md_marks_7 (fun _ => go _) (fun _ => B_Md_marks_11 (fun _ => go _) (fun z => absurd rfl z))
