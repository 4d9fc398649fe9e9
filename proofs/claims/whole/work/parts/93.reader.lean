/-! readers on both sides: which group one takes at a place; reads, took -/
abbrev prf (kd b a : Nat) : Prop := (kd = 0 ∧ a < b) ∨ (kd = 1 ∧ b < a)
def rdk (gs : List (List Nat)) (m : Nat) (w : List Nat) (kd p : Nat) : Nat → Option Nat
  | 0 => none
  | j + 1 => if ftb gs m w p j = true then (match rdk gs m w kd p j with
    | none => some j
    | some a => if prf kd (gs.getD j []).length (gs.getD a []).length then some j else some a) else rdk gs m w kd p j
def oI : Option Nat → Int32
  | none => -1
  | some k => nI k
theorem rdk_lt {gs : List (List Nat)} {m : Nat} {w : List Nat} {kd p : Nat} : ∀ (j a : Nat), rdk gs m w kd p j = some a → a < j ∧ ftb gs m w p a = true
  | 0, a, h => by cases h
  | j + 1, a, h => by
    unfold rdk at h
    by_cases q : ftb gs m w p j = true
    · rw [if_pos q] at h
      cases hr : rdk gs m w kd p j with
      | none =>
        rw [hr] at h
        have : j = a := Option.some.inj h
        subst this
        exact ⟨by omega, q⟩
      | some b =>
        rw [hr] at h
        have hb := rdk_lt j b hr
        by_cases z : prf kd (gs.getD j []).length (gs.getD b []).length
        · have : j = a := Option.some.inj ((if_pos z).symm.trans h)
          subst this
          exact ⟨by omega, q⟩
        · have : b = a := Option.some.inj ((if_neg z).symm.trans h)
          subst this
          exact ⟨by omega, hb.2⟩
    · rw [if_neg q] at h
      have := rdk_lt j a h
      exact ⟨by omega, this.2⟩
theorem rdk_no {gs : List (List Nat)} {m : Nat} {w : List Nat} {kd p j : Nat} (q : ¬ ftb gs m w p j = true) : rdk gs m w kd p (j + 1) = rdk gs m w kd p j := if_neg q
theorem rdk_1st {gs : List (List Nat)} {m : Nat} {w : List Nat} {kd p j : Nat} (q : ftb gs m w p j = true) (hr : rdk gs m w kd p j = none) : rdk gs m w kd p (j + 1) = some j := by
  show (if _ then _ else _) = _
  rw [if_pos q, hr]
theorem rdk_yes {gs : List (List Nat)} {m : Nat} {w l l' : List Nat} {kd p j a : Nat} (q : ftb gs m w p j = true) (hr : rdk gs m w kd p j = some a) (gj : gs[j]? = some l) (ga : gs[a]? = some l') (z : prf kd l.length l'.length) : rdk gs m w kd p (j + 1) = some j := by
  show (if _ then _ else _) = _
  rw [if_pos q, hr]
  show (if prf kd (gs.getD j []).length (gs.getD a []).length then some j else some a) = _
  rw [List.getD_eq_getElem?_getD, List.getD_eq_getElem?_getD, gj, ga]
  exact if_pos z
theorem rdk_not {gs : List (List Nat)} {m : Nat} {w l l' : List Nat} {kd p j a : Nat} (q : ftb gs m w p j = true) (hr : rdk gs m w kd p j = some a) (gj : gs[j]? = some l) (ga : gs[a]? = some l') (z : ¬ prf kd l.length l'.length) : rdk gs m w kd p (j + 1) = some a := by
  show (if _ then _ else _) = _
  rw [if_pos q, hr]
  show (if prf kd (gs.getD j []).length (gs.getD a []).length then some j else some a) = _
  rw [List.getD_eq_getElem?_getD, List.getD_eq_getElem?_getD, gj, ga]
  exact if_neg z
theorem re_prefers {d : Nat} {h : PH} {Q : PQ} {gs : List (List Nat)} {m kd j a : Nat} {lj la : List Nat} (hk : kd < 3) (hG : GrS h 2) (hg : CGr h 2 gs m) (gj : gs[j]? = some lj) (ga : gs[a]? = some la) (haj : a < j) (kt : prf kd lj.length la.length → Q (some (.int 1)) h) (kf : ¬ prf kd lj.length la.length → Q (some (.int 0)) h) : wpm (d + 1) 50 [.ref 2, .int (nI kd), .int (nI j), .int (nI a)] h Q := by
  refine wpm_in P_Re_prefers rfl (by decide) (by show ¬ 4 < 4; decide) ?_
  obtain ⟨j1, j2, j3⟩ := hg.1.at gj
  obtain ⟨a1, a2, a3⟩ := hg.1.at ga
  have lj7 := j1.2
  have la7 := a1.2
  have vj : vp_in (nI j) 14 := vp_in_nI j3 (by omega)
  have va : vp_in (nI a) 14 := vp_in_nI a3 (by omega)
  rcases (show kd = 0 ∨ kd = 1 ∨ kd = 2 by omega) with rfl | rfl | rfl
  · refine B_Re_prefers_0 (fun z => absurd rfl z) (fun _ => B_Re_prefers_4 hG.1 hG.2.2.1.1 hG.2.2.1.2 vj va (fun z => ?_) (fun z => ?_))
    · rw [nI_clamp (by omega), nI_clamp (by omega), (hg.2.2.2 j lj gj).2, (hg.2.2.2 a la ga).2, nI_leI (by omega) (by omega)] at z
      exact B_Re_prefers_23 (B_Re_prefers_24 rfl (kf (fun y => y.elim (fun y => by omega) (fun y => by omega))))
    · rw [nI_clamp (by omega), nI_clamp (by omega), (hg.2.2.2 j lj gj).2, (hg.2.2.2 a la ga).2, nI_leI (by omega) (by omega)] at z
      exact B_Re_prefers_19 (B_Re_prefers_24 rfl (kt (Or.inl ⟨rfl, by omega⟩)))
  · refine B_Re_prefers_0 (fun _ => B_Re_prefers_25 (fun z => absurd rfl z) (fun _ => B_Re_prefers_30 hG.1 hG.2.2.1.1 hG.2.2.1.2 vj va (fun z => ?_) (fun z => ?_))) (fun z => absurd z (by decide))
    · rw [nI_clamp (by omega), nI_clamp (by omega), (hg.2.2.2 j lj gj).2, (hg.2.2.2 a la ga).2, nI_leI (by omega) (by omega)] at z
      exact B_Re_prefers_49 (B_Re_prefers_63 rfl (kf (fun y => y.elim (fun y => by omega) (fun y => by omega))))
    · rw [nI_clamp (by omega), nI_clamp (by omega), (hg.2.2.2 j lj gj).2, (hg.2.2.2 a la ga).2, nI_leI (by omega) (by omega)] at z
      exact B_Re_prefers_45 (B_Re_prefers_63 rfl (kt (Or.inr ⟨rfl, by omega⟩)))
  · refine B_Re_prefers_0 (fun _ => B_Re_prefers_25 (fun _ => B_Re_prefers_53 (fun _ => B_Re_prefers_62 (B_Re_prefers_63 rfl (kf (fun y => y.elim (fun y => by omega) (fun y => by omega))))) (fun z => ?_)) (fun z => absurd z (by decide))) (fun z => absurd z (by decide))
    rw [nI_leI (by omega) (by omega)] at z
    omega
theorem re_choose {d : Nat} {h : PH} {Q : PQ} {gs : List (List Nat)} {m kd p : Nat} {w : List Nat} (hk : kd < 3) (hO : OwS h) (hw : CWd h w) (hg : CGr h 2 gs m) (hp : p ≤ w.length) (k : Q (some (.int (oI (rdk gs m w kd p gs.length)))) h) : wpm (d + 4) 51 [.ref 13, .ref 2, .int (nI kd), .int (nI p)] h Q := by
  refine wpm_in P_Re_choose rfl (by decide) (by show ¬ 6 < 4; decide) (B_Re_choose_0 ?_)
  have hG := GrS_2 hO
  have h14 := hg.1.1
  have loop : ∀ (c j : Nat), gs.length - j = c → j ≤ gs.length → wpx (d + 3) P_Re_choose 6 [.ref 13, .ref 2, .int (nI kd), .int (nI p), .int (oI (rdk gs m w kd p j)), .int (nI j)] [] h Q := by
    intro c
    induction c with
    | zero =>
      intro j hc hj
      have ej : j = gs.length := by omega
      subst ej
      refine B_Re_choose_6 hG.1 (fun _ => B_Re_choose_54 k) (fun q => ?_)
      rw [hg.2.1, nI_leI (by omega) (by omega)] at q
      omega
    | succ c ih =>
      intro j hc hj
      have gj : gs[j]? = some gs[j] := List.getElem?_eq_getElem (by omega)
      generalize gs[j] = l at gj
      have nx := ih (j + 1) (by omega) (by omega)
      refine B_Re_choose_6 hG.1 (fun q => ?_) (fun _ => B_Re_choose_15 (os_theWord hO) (wo_fits hO hw hg gj hp (fun q => ?_) (fun q => ?_)))
      · rw [hg.2.1, nI_leI (by omega) (by omega)] at q
        omega
      · refine B_Re_choose_23 (fun z => absurd z (by decide)) (fun _ => ?_)
        cases hr : rdk gs m w kd p j with
        | none =>
          rw [rdk_1st q hr] at nx
          refine B_Re_choose_26 (fun _ => B_Re_choose_44 (B_Re_choose_48 ?_)) (fun z => absurd rfl z)
          rw [nI_1]
          exact nx
        | some a =>
          have ha := rdk_lt j a hr
          have ga : gs[a]? = some gs[a] := List.getElem?_eq_getElem (by omega)
          generalize gs[a] = la at ga
          refine B_Re_choose_26 (fun z => absurd z (nI_neg1 (by omega))) (fun _ => B_Re_choose_32 (re_prefers hk hG hg gj ga ha.1 (fun z => ?_) (fun z => ?_)))
          · rw [rdk_yes q hr gj ga z] at nx
            refine B_Re_choose_41 (fun z => absurd z (by decide)) (fun _ => B_Re_choose_44 (B_Re_choose_48 ?_))
            rw [nI_1]
            exact nx
          · rw [rdk_not q hr gj ga z] at nx
            refine B_Re_choose_41 (fun _ => B_Re_choose_48 ?_) (fun z => absurd rfl z)
            rw [nI_1]
            exact nx
      · rw [rdk_no q] at nx
        refine B_Re_choose_23 (fun _ => B_Re_choose_48 ?_) (fun z => absurd rfl z)
        rw [nI_1]
        exact nx
  exact loop _ 0 rfl (Nat.zero_le _)
theorem md_takenAt {d : Nat} {h : PH} {Q : PQ} {gs : List (List Nat)} {m kd p : Nat} {w : List Nat} (hk : kd < 3) (hM : MdS h) (hw : MWd h w) (hg : MGr h gs m) (hp : p ≤ w.length) (k : Q (some (.int (oI (rdk gs m w kd p gs.length)))) h) : wpm (d + 3) 234 [.ref 17, .int (nI kd), .int (nI p)] h Q := by
  refine wpm_in P_Md_takenAt rfl (by decide) (by show ¬ 6 < 3; decide) (B_Md_takenAt_0 ?_)
  have h14 := hg.1.1
  have loop : ∀ (c j : Nat) (v5 : Value), gs.length - j = c → j ≤ gs.length → wpx (d + 2) P_Md_takenAt 5 [.ref 17, .int (nI kd), .int (nI p), .int (oI (rdk gs m w kd p j)), .int (nI j), v5] [] h Q := by
    intro c
    induction c with
    | zero =>
      intro j v5 hc hj
      have ej : j = gs.length := by omega
      subst ej
      refine B_Md_takenAt_5 hM.1 (fun _ => B_Md_takenAt_102 k) (fun q => ?_)
      rw [hg.2.1, nI_leI (by omega) (by omega)] at q
      omega
    | succ c ih =>
      intro j v5 hc hj
      have gj : gs[j]? = some gs[j] := List.getElem?_eq_getElem (by omega)
      generalize gs[j] = l at gj
      have nx := fun v => ih (j + 1) v (by omega) (by omega)
      refine B_Md_takenAt_5 hM.1 (fun q => ?_) (fun _ => B_Md_takenAt_14 hM.1 (mr_word hM) ?_)
      · rw [hg.2.1, nI_leI (by omega) (by omega)] at q
        omega
      · rw [hw.2.1]
        refine md_stands hM (hw.rw hM) hg gj hp (fun q => ?_) (fun q => ?_)
        · refine B_Md_takenAt_29 (fun z => absurd z (by decide)) (fun _ => ?_)
          have yes : rdk gs m w kd p (j + 1) = some j → wpx (d + 2) P_Md_takenAt 77 [.ref 17, .int (nI kd), .int (nI p), .int (oI (rdk gs m w kd p j)), .int (nI j), v5] [] h Q := fun e => by
            refine B_Md_takenAt_77 (B_Md_takenAt_82 (fun z => absurd z (by decide)) (fun _ => B_Md_takenAt_89 (B_Md_takenAt_95 (B_Md_takenAt_96 ?_))))
            rw [nI_1]
            have := nx (.int 1)
            rw [e] at this
            exact this
          have no : rdk gs m w kd p (j + 1) = rdk gs m w kd p j → wpx (d + 2) P_Md_takenAt 81 [.ref 17, .int (nI kd), .int (nI p), .int (oI (rdk gs m w kd p j)), .int (nI j), v5] [] h Q := fun e => by
            refine B_Md_takenAt_81 (B_Md_takenAt_82 (fun _ => B_Md_takenAt_94 (B_Md_takenAt_95 (B_Md_takenAt_96 ?_))) (fun z => absurd rfl z))
            rw [nI_1]
            have := nx (.int 0)
            rw [e] at this
            exact this
          cases hr : rdk gs m w kd p j with
          | none =>
            rw [hr] at yes
            exact B_Md_takenAt_32 (fun _ => yes (rdk_1st q hr)) (fun z => absurd (by decide) z)
          | some a =>
            rw [hr] at yes no
            have ha := rdk_lt j a hr
            have ga : gs[a]? = some gs[a] := List.getElem?_eq_getElem (by omega)
            generalize gs[a] = la at ga
            obtain ⟨j1, j2, j3⟩ := hg.1.at gj
            obtain ⟨a1, a2, a3⟩ := hg.1.at ga
            have lj7 := j1.2
            have la7 := a1.2
            have vj : vp_in (nI j) 14 := vp_in_nI j3 (by omega)
            have va : vp_in (nI a) 14 := vp_in_nI a3 (by omega)
            refine B_Md_takenAt_32 (fun z => absurd z (nI_pos (by omega))) (fun _ => ?_)
            rcases (show kd = 0 ∨ kd = 1 ∨ kd = 2 by omega) with rfl | rfl | rfl
            · refine B_Md_takenAt_36 (fun z => absurd rfl z) (fun _ => B_Md_takenAt_40 hM.1 (mr_size hM) (ms_size hM) vj va (fun z => ?_) (fun z => ?_))
              · change h_i h 19 (nI a).toNatClampNeg < _ at z
                rw [nI_clamp (by omega), nI_clamp (by omega), (hg.2.2.2 j l gj).1, (hg.2.2.2 a la ga).1, nI_ltI (by omega) (by omega)] at z
                exact yes (rdk_yes q hr gj ga (Or.inl ⟨rfl, z⟩))
              · change ¬ h_i h 19 (nI a).toNatClampNeg < _ at z
                rw [nI_clamp (by omega), nI_clamp (by omega), (hg.2.2.2 j l gj).1, (hg.2.2.2 a la ga).1, nI_ltI (by omega) (by omega)] at z
                exact B_Md_takenAt_56 (fun _ => no (rdk_not q hr gj ga (fun y => y.elim (fun y => by omega) (fun y => by omega)))) (fun z => absurd z (by decide))
            · refine B_Md_takenAt_36 (fun _ => B_Md_takenAt_56 (fun z => absurd rfl z) (fun _ => B_Md_takenAt_61 hM.1 (mr_size hM) (ms_size hM) vj va (fun z => ?_) (fun z => ?_))) (fun z => absurd z (by decide))
              · change h_i h 19 (nI a).toNatClampNeg ≤ _ at z
                rw [nI_clamp (by omega), nI_clamp (by omega), (hg.2.2.2 j l gj).1, (hg.2.2.2 a la ga).1, nI_leI (by omega) (by omega)] at z
                exact no (rdk_not q hr gj ga (fun y => y.elim (fun y => by omega) (fun y => by omega)))
              · change ¬ h_i h 19 (nI a).toNatClampNeg ≤ _ at z
                rw [nI_clamp (by omega), nI_clamp (by omega), (hg.2.2.2 j l gj).1, (hg.2.2.2 a la ga).1, nI_leI (by omega) (by omega)] at z
                exact yes (rdk_yes q hr gj ga (Or.inr ⟨rfl, by omega⟩))
            · exact B_Md_takenAt_36 (fun _ => B_Md_takenAt_56 (fun _ => no (rdk_not q hr gj ga (fun y => y.elim (fun y => by omega) (fun y => by omega)))) (fun z => absurd z (by decide))) (fun z => absurd z (by decide))
        · refine B_Md_takenAt_29 (fun _ => B_Md_takenAt_96 ?_) (fun z => absurd rfl z)
          rw [nI_1]
          have := nx v5
          rw [rdk_no q] at this
          exact this
  exact loop _ 0 _ rfl (Nat.zero_le _)
