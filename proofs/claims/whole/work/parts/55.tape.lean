/-! the tape: feed, end -/
def TB (a s : Int32) : Int32 := (a >>> (s &&& 31)) &&& 255
def b4 (a : Int32) : List Int32 := [TB a 24, TB a 16, TB a 8, TB a 0]
def CTp (h : PH) (tp : List Int32) : Prop := h_i h 0 1 = nI tp.length ∧ tp.length ≤ 600 ∧ ∀ k v, tp[k]? = some v → h_i h 1 k = v.toInt8.toInt32
def MTp (h : PH) (tp : List Int32) : Prop := h_i h 17 12 = nI tp.length ∧ tp.length ≤ 600 ∧ ∀ k v, tp[k]? = some v → h_i h 21 k = v
def Wct (c k : Nat) : Prop := c = 1 ∨ (c = 0 ∧ k = 1)
def Wmt (c k : Nat) : Prop := c = 21 ∨ (c = 17 ∧ k = 12) ∨ (c = 17 ∧ k = 0)
theorem not_le600 {n : Nat} (h : n < 600) : ¬ (600 : Int32) ≤ nI n := by
  rw [show (600 : Int32) = nI 600 from rfl, nI_leI (by omega) (by omega)]
  omega
theorem i8_twice (x : Int32) : (x.toInt8.toInt32).toInt8.toInt32 = x.toInt8.toInt32 := by rw [Int8.toInt8_toInt32]
theorem put1 {d : Nat} {h : PH} {Q : PQ} {a x2 x2' : Int32} {tp : List Int32} (hO : OwS h) (ht : CTp h tp) (hl : tp.length < 600) (hx : ¬ x2 < 0) (hb : ((a.toUInt32 >>> (x2.toUInt32 &&& Int32.toUInt32 31)).toInt32).toInt8 = (TB a x2).toInt8) (hx' : x2 + (-8) = x2')
    (k : ∀ h', CTp h' (tp ++ [TB a x2]) → Fr Wct h h' → wpx d P_Ow_put 3 [.ref 0, .int a, .int x2'] [] h' Q) : wpx d P_Ow_put 3 [.ref 0, .int a, .int x2] [] h Q := by
  obtain ⟨t1, t2, t3⟩ := ht
  have e1 : (h_i h 0 1).toNatClampNeg = tp.length := by rw [t1]; exact nI_clamp (by omega)
  refine B_Ow_put_3 (fun q => absurd q hx) (fun _ => ?_)
  refine B_Ow_put_7 hO.1 (fun q => absurd q (by rw [t1]; exact not_le600 hl)) (fun _ => ?_)
  refine B_Ow_put_17 hO.1 (or_tape hO) (os_tape hO) (by rw [t1]; exact vp_in_nI hl (by omega)) ?_
  refine B_Ow_put_40 ?_
  rw [hx', e1, i8_twice, hb, wi_ne h _ (show ¬ ((0 : Nat) = 1 ∧ (1 : Nat) = tp.length) by omega), t1, nI_1]
  refine k _ ⟨?_, ?_, fun j v hj => ?_⟩ ?_
  · rw [wi_eq, List.length_append]
    rfl
  · rw [List.length_append]
    show tp.length + 1 ≤ 600
    omega
  · rw [wi_ne _ _ (show ¬ ((1 : Nat) = 0 ∧ j = 1) by omega)]
    by_cases hjl : j = tp.length
    · subst hjl
      rw [wi_eq]
      rw [List.getElem?_append_right (Nat.le_refl _), Nat.sub_self] at hj
      cases hj
      rfl
    · rw [wi_ne _ _ (show ¬ ((1 : Nat) = 1 ∧ j = tp.length) by omega)]
      refine t3 j v ?_
      rw [List.getElem?_append] at hj
      split at hj
      · exact hj
      · have := (List.getElem?_eq_some_iff.mp hj).1
        simp at this
        omega
  · exact (Fr.wi h _ (Or.inl rfl)).tr (Fr.wi _ _ (Or.inr ⟨rfl, rfl⟩))
theorem ow_put {d : Nat} {h : PH} {Q : PQ} {a : Int32} {tp : List Int32} (hO : OwS h) (ht : CTp h tp) (hl : tp.length + 4 ≤ 600) (k : ∀ h', CTp h' (tp ++ b4 a) → Fr Wct h h' → Q none h') : wpm (d + 1) 158 [.ref 0, .int a] h Q := by
  refine wpm_in P_Ow_put rfl (by decide) (by show ¬ 3 < 2; decide) ?_
  refine B_Ow_put_0 ?_
  refine put1 hO ht (by omega) (by decide) (b8_24 a) (x2' := 16) (by decide) (fun h1 c1 f1 => ?_)
  refine put1 (f1.ow hO) c1 (by simp; omega) (by decide) (b8_16 a) (x2' := 8) (by decide) (fun h2 c2 f2 => ?_)
  refine put1 (f2.ow (f1.ow hO)) c2 (by simp; omega) (by decide) (b8_8 a) (x2' := 0) (by decide) (fun h3 c3 f3 => ?_)
  refine put1 (f3.ow (f2.ow (f1.ow hO))) c3 (by simp; omega) (by decide) (b8_0 a) (x2' := -8) (by decide) (fun h4 c4 f4 => ?_)
  refine B_Ow_put_3 (fun _ => B_Ow_put_46 ?_) (fun q => absurd (by decide) q)
  refine k h4 ?_ (((f1.tr f2).tr f3).tr f4)
  have e : tp ++ b4 a = tp ++ [TB a 24] ++ [TB a 16] ++ [TB a 8] ++ [TB a 0] := by simp [b4]
  rw [e]
  exact c4
theorem four1 {d : Nat} {h : PH} {Q : PQ} {a x2 x2' : Int32} {tp : List Int32} (hM : MdS h) (ht : MTp h tp) (hl : tp.length < 600) (hx : ¬ x2 < 0) (hx' : x2 + (-8) = x2')
    (k : ∀ h', MTp h' (tp ++ [TB a x2]) → Fr Wmt h h' → wpx d P_Md_four 3 [.ref 17, .int a, .int x2'] [] h' Q) : wpx d P_Md_four 3 [.ref 17, .int a, .int x2] [] h Q := by
  obtain ⟨t1, t2, t3⟩ := ht
  have e1 : (h_i h 17 12).toNatClampNeg = tp.length := by rw [t1]; exact nI_clamp (by omega)
  refine B_Md_four_3 (fun q => absurd q hx) (fun _ => ?_)
  refine B_Md_four_7 hM.1 (mr_tape hM) (ms_tape hM) (by rw [t1]; exact vp_in_nI hl (by omega)) ?_
  rw [hx', e1, wi_ne h _ (show ¬ ((17 : Nat) = 21 ∧ (12 : Nat) = tp.length) by omega), t1, nI_1]
  refine k _ ⟨?_, ?_, fun j v hj => ?_⟩ ?_
  · rw [wi_eq, List.length_append]
    rfl
  · rw [List.length_append]
    show tp.length + 1 ≤ 600
    omega
  · rw [wi_ne _ _ (show ¬ ((21 : Nat) = 17 ∧ j = 12) by omega)]
    by_cases hjl : j = tp.length
    · subst hjl
      rw [wi_eq]
      rw [List.getElem?_append_right (Nat.le_refl _), Nat.sub_self] at hj
      cases hj
      rfl
    · rw [wi_ne _ _ (show ¬ ((21 : Nat) = 21 ∧ j = tp.length) by omega)]
      refine t3 j v ?_
      rw [List.getElem?_append] at hj
      split at hj
      · exact hj
      · have := (List.getElem?_eq_some_iff.mp hj).1
        simp at this
        omega
  · exact (Fr.wi h _ (Or.inl rfl)).tr (Fr.wi _ _ (Or.inr (Or.inl ⟨rfl, rfl⟩)))
theorem md_four {d : Nat} {h : PH} {Q : PQ} {a : Int32} {tp : List Int32} (hM : MdS h) (ht : MTp h tp) (hl : tp.length + 4 ≤ 600) (k : ∀ h', MTp h' (tp ++ b4 a) → Fr Wmt h h' → Q none h') : wpm (d + 1) 177 [.ref 17, .int a] h Q := by
  refine wpm_in P_Md_four rfl (by decide) (by show ¬ 3 < 2; decide) ?_
  refine B_Md_four_0 ?_
  refine four1 hM ht (by omega) (by decide) (x2' := 16) (by decide) (fun h1 c1 f1 => ?_)
  refine four1 (f1.md hM) c1 (by simp; omega) (by decide) (x2' := 8) (by decide) (fun h2 c2 f2 => ?_)
  refine four1 (f2.md (f1.md hM)) c2 (by simp; omega) (by decide) (x2' := 0) (by decide) (fun h3 c3 f3 => ?_)
  refine four1 (f3.md (f2.md (f1.md hM))) c3 (by simp; omega) (by decide) (x2' := -8) (by decide) (fun h4 c4 f4 => ?_)
  refine B_Md_four_3 (fun _ => B_Md_four_39 ?_) (fun q => absurd (by decide) q)
  refine k h4 ?_ (((f1.tr f2).tr f3).tr f4)
  have e : tp ++ b4 a = tp ++ [TB a 24] ++ [TB a 16] ++ [TB a 8] ++ [TB a 0] := by simp [b4]
  rw [e]
  exact c4
