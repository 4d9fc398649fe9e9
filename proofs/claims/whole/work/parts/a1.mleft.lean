/-! tails on the reference's side: what is left of a tail and a group -/
theorem cpl_comm : ∀ a b : List Nat, cpl a b = cpl b a
  | [], [] => rfl
  | [], _ :: _ => rfl
  | _ :: _, [] => rfl
  | x :: a, y :: b => by
    unfold cpl
    by_cases e : x = y
    · rw [if_pos e, if_pos e.symm, cpl_comm a b]
    · rw [if_neg e, if_neg (fun z => e z.symm)]
def InE (m : Nat) (E : List (Nat × Nat)) : Prop := ∀ e ∈ E, inm m e.1 ∧ 0 < e.2
theorem insE_in {gs : List (List Nat)} {e x : Nat × Nat} : ∀ E, x ∈ insE gs E e → x = e ∨ x ∈ E
  | [], h => Or.inl (List.mem_singleton.mp h)
  | f :: E, h => by
    unfold insE at h
    by_cases z : kyl (rwE gs f) < kyl (rwE gs e)
    · rw [if_pos z] at h
      rcases List.mem_cons.mp h with w | w
      · exact Or.inr (by rw [w]; exact List.mem_cons_self ..)
      · rcases insE_in E w with v | v
        · exact Or.inl v
        · exact Or.inr (List.mem_cons_of_mem _ v)
    · rw [if_neg z] at h
      by_cases y : rwE gs e = rwE gs f
      · rw [if_pos y] at h
        exact Or.inr h
      · rw [if_neg y] at h
        rcases List.mem_cons.mp h with w | w
        · exact Or.inl w
        · exact Or.inr w
theorem leI_in {gs : List (List Nat)} {m g : Nat} (hg : inm m g) : ∀ (e i : Nat) (E : List (Nat × Nat)), 0 < i → InE m E → InE m (leI gs g e i E)
  | 0, _, _, _, h => h
  | e + 1, i, E, hi, h => leI_in hg e (i + 1) _ (by omega) (fun x hx => by
    rcases insE_in E hx with w | w
    · rw [w]
      exact ⟨hg, hi⟩
    · exact h x w)
theorem leG_in {gs : List (List Nat)} {m : Nat} : ∀ (e g : Nat) (E : List (Nat × Nat)), InE m E → InE m (leG gs m e g E)
  | 0, _, _, h => h
  | e + 1, g, E, h => by
    show InE m (leG gs m e (g + 1) (if inm m g then _ else E))
    by_cases z : inm m g
    · rw [if_pos z]
      exact leG_in e (g + 1) _ (leI_in z _ _ _ (by omega) h)
    · rw [if_neg z]
      exact leG_in e (g + 1) _ h
theorem md_leftOf {d : Nat} {h : PH} {Q : PQ} {gs : List (List Nat)} {m g t : Nat} {E : List (Nat × Nat)} {e : Nat × Nat} {l : List Nat} (hM : MdS h) (hg : MGr h gs m) (hE : MEn h gs E) (hO : EOf h gs m E gs.length 0) (hI : InE m E) (ht : E[t]? = some e) (hl : gs[g]? = some l) (hin : inm m g) (k0 : l = rwE gs e → Q (some (.int (-2))) h) (k1 : ∀ u f, l = (rwE gs e).take l.length → l.length < (rwE gs e).length → E[u]? = some f → rwE gs f = (rwE gs e).drop l.length → Q (some (.int (nI u))) h) (k2 : ∀ u f, rwE gs e = l.take (rwE gs e).length → (rwE gs e).length < l.length → E[u]? = some f → rwE gs f = l.drop (rwE gs e).length → Q (some (.int (nI u))) h) (k3 : ¬ l = (rwE gs e).take l.length → ¬ rwE gs e = l.take (rwE gs e).length → Q (some (.int (-1))) h) : wpm (d + 3) 210 [.ref 17, .int (nI t), .int (nI g)] h Q := by
  refine wpm_in P_Md_leftOf rfl (by decide) (by show ¬ 4 < 3; decide) ?_
  obtain ⟨l', h1, h2, h3, h4, h5, h6⟩ := hE.at ht
  obtain ⟨a1, a2, a3⟩ := hg.1.at h1
  obtain ⟨b1, b2, b3⟩ := hg.1.at hl
  have a7 := a1.2
  have b7 := b1.2
  have vt : vp_in (nI t) 100 := vp_in_nI h4 (by omega)
  have vg : vp_in (nI g) 14 := vp_in_nI b3 (by omega)
  have glt := (List.getElem?_eq_some_iff.mp hl).1
  have elt := (List.getElem?_eq_some_iff.mp h1).1
  obtain ⟨i1, i2⟩ := hI e (List.mem_of_getElem? ht)
  have rl : (rwE gs e).length = l'.length - e.2 := by rw [h3, List.length_drop]
  refine B_Md_leftOf_0 hM.1 (mr_tailGroup hM) (ms_tailGroup hM) vt (mr_tailAt hM) (ms_tailAt hM) vt ?_
  rw [nI_clamp (by omega), h5, h6]
  refine md_alike hM hg hl h1 (i := 0) (by omega) (by omega) ?_
  rw [List.drop_zero, ← h3]
  have c1 := cpl_len l (rwE gs e)
  have c2 : cpl l (rwE gs e) = (rwE gs e).length ↔ rwE gs e = l.take (rwE gs e).length := by
    rw [cpl_comm]
    exact cpl_len _ _
  have c3 := cpl_le l (rwE gs e)
  have sz : h_i h 19 (nI g).toNatClampNeg = nI l.length := by
    rw [nI_clamp (by omega)]
    exact (hg.2.2.2 _ _ hl).1
  have at41 : ¬ (cpl l (rwE gs e) = l.length ∧ cpl l (rwE gs e) = (rwE gs e).length) → wpx (d + 2) P_Md_leftOf 41 [.ref 17, .int (nI t), .int (nI g), .int (nI (cpl l (rwE gs e)))] [] h Q := fun hno => by
    refine B_Md_leftOf_41 hM.1 (mr_size hM) (ms_size hM) vg (fun z => ?_) (fun z => ?_)
    · rw [sz, nI_eq (by omega) (by omega)] at z
      refine B_Md_leftOf_75 hM.1 (md_tailSize hM hg hE ht (B_Md_leftOf_81 (fun y => ?_) (fun y => ?_)))
      · rw [nI_eq (by omega) (by omega)] at y
        exact B_Md_leftOf_98 (B_Md_leftOf_99 (k3 (fun w => z (c1.mpr w)) (fun w => y (c2.mpr w))))
      · rw [nI_eq (by omega) (by omega)] at y
        obtain ⟨u, f, u1, u2, u3⟩ := hO g l (rwE gs e).length hl hin (by omega) (by omega) (Or.inl glt)
        have e8 : ((8 : Int32) * nI g) + nI (cpl l (rwE gs e)) = nI (8 * g + (rwE gs e).length) := by rw [y, show (8 : Int32) = nI 8 from rfl, nI_mulN, nI_add]
        refine B_Md_leftOf_84 hM.1 (mr_endOf hM) (ms_endOf hM) (by rw [e8]; exact vp_in_nI (by omega) (by omega)) ?_
        rw [e8, nI_clamp (by omega), u3]
        exact B_Md_leftOf_99 (k2 u f (c2.mp y) (by omega) u1 u2)
    · rw [sz, nI_eq (by omega) (by omega)] at z
      have hlt : l.length < (rwE gs e).length := by
        have w := c1.mp z
        have w2 := congrArg List.length w
        rw [List.length_take] at w2
        have : ¬ cpl l (rwE gs e) = (rwE gs e).length := fun y => hno ⟨z, y⟩
        omega
      obtain ⟨u, f, u1, u2, u3⟩ := hO e.1 l' (e.2 + l.length) h1 i1 (by omega) (by omega) (Or.inl elt)
      have e27 : h_i h 27 (nI t).toNatClampNeg = nI e.1 := by rw [nI_clamp (by omega)]; exact h5
      have e28 : h_i h 28 (nI t).toNatClampNeg = nI e.2 := by rw [nI_clamp (by omega)]; exact h6
      have e8 : (((8 : Int32) * h_i h 27 (nI t).toNatClampNeg) + h_i h 28 (nI t).toNatClampNeg) + nI (cpl l (rwE gs e)) = nI (8 * e.1 + (e.2 + l.length)) := by rw [e27, e28, z, show (8 : Int32) = nI 8 from rfl, nI_mulN, nI_add, nI_add, Nat.add_assoc]
      refine B_Md_leftOf_51 hM.1 (mr_endOf hM) (mr_tailGroup hM) (ms_tailGroup hM) vt (mr_tailAt hM) (ms_tailAt hM) vt (ms_endOf hM) (by rw [e8]; exact vp_in_nI (by omega) (by omega)) ?_
      rw [e8, nI_clamp (by omega), u3]
      exact k1 u f (c1.mp z) hlt u1 (by rw [u2, h3, List.drop_drop])
  refine B_Md_leftOf_18 hM.1 (mr_size hM) (ms_size hM) vg (fun z => ?_) (fun z => ?_)
  · rw [sz, nI_eq (by omega) (by omega)] at z
    exact at41 (fun y => z y.1)
  · rw [sz, nI_eq (by omega) (by omega)] at z
    refine B_Md_leftOf_29 hM.1 (md_tailSize hM hg hE ht (B_Md_leftOf_35 (fun y => ?_) (fun y => ?_)))
    · rw [nI_eq (by omega) (by omega)] at y
      exact at41 (fun w => y w.2)
    · rw [nI_eq (by omega) (by omega)] at y
      refine B_Md_leftOf_38 (k0 ?_)
      have w := c1.mp z
      rw [List.take_of_length_le (by omega)] at w
      exact w
