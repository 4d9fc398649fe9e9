/-! table on the reference's side: names, groups, signs -/
theorem wps_by {h h' : PH} {B : List Nat} (hf : Fr Wps h h') (hB : MBy h B) : MBy h' B := hB.fr hf (fun k z => by unfold Wps at z; omega) (fun z => by unfold Wps at z; omega)
def Out (B : List Nat) (a : Nat × Nat × PSt) (n q : Nat) (g : PH) : Prop := (∃ s' q', s'.1 = n ∧ q < q' ∧ PG B g s' q' a) ∨ PB g a
theorem md_readName {d : Nat} {h : PH} {Q : PQ} {B : List Nat} {q : Nat} {s : PSt} {a : Nat × Nat × PSt} (hM : MdS h) (hB : MBy h B) (hg : PG B h s q a) (h1 : s.1 = 1) (k : ∀ h', Out B a 2 q h' → Fr Wps h h' → Q none h') : wpm (d + 4) 190 [.ref 17] h Q := by
  refine wpm_in P_Md_readName rfl (by decide) (by show ¬ 2 < 1; decide) ?_
  obtain ⟨hs, ht, h19, ha, ho⟩ := hg
  have hn10 := ho.2.2.2.2.2.2.1 h1
  -- behind a fault
  have p90 : ∀ (g : PH) (x1 : Int32), PB g a → Fr Wps h g → wpx (d + 3) P_Md_readName 90 [.ref 17, .int x1] [] g Q := fun g x1 hb hf =>
    B_Md_readName_90 (hf.md hM).1 (md_goOnB (hf.md hM) hb.no (B_Md_readName_94 (k g (Or.inr hb) hf)))
  have p60 : ∀ (g : PH) (x1 : Int32), PB g a → Fr Wps h g → wpx (d + 3) P_Md_readName 60 [.ref 17, .int x1] [] g Q := fun g x1 hb hf =>
    B_Md_readName_60 (hf.md hM).1 (md_isGood (hf.md hM) (fun z => absurd z hb.no) (fun _ => B_Md_readName_64 (fun _ => p90 g x1 hb hf) (fun z => absurd rfl z)))
  have p21 : ∀ (g : PH) (x1 : Int32), PB g a → Fr Wps h g → wpx (d + 3) P_Md_readName 21 [.ref 17, .int x1] [] g Q := fun g x1 hb hf =>
    B_Md_readName_21 (hf.md hM).1 (fun _ => p60 g x1 hb hf) (fun _ => B_Md_readName_29 (hf.md hM).1 (md_isGood (hf.md hM) (fun z => absurd z hb.no) (fun _ => B_Md_readName_33 (fun _ => p60 g x1 hb hf) (fun z => absurd rfl z))))
  have bad2 : (a.1 = (if tkK B q = 3 then 1 else 2)) → a.2.1 = q → ∀ v1, wpx (d + 3) P_Md_readName 14 [.ref 17, v1] [] h Q := fun e1 e2 v1 => by
    refine B_Md_readName_14 hM.1 (md_fails (d := d + 2) (e := 2) hM ht h19 (by omega) (by omega) e1 e2 (fun g hb hf => B_Md_readName_19 (p21 g _ hb hf)))
  have na : ¬ tkK B q = 1 → a.1 = (if tkK B q = 3 then 1 else 2) ∧ a.2.1 = q := fun z => ha.bad ht.2.1 z (fun _ => by omega) (fun z2 => by
    obtain ⟨_, _, s3⟩ := tkK_sign z2
    unfold stepS
    rw [if_neg (fun u => u s3), if_neg (by omega), if_neg (by omega), if_neg (by omega)]
    show ¬ 2 = 0
    omega)
  refine B_Md_readName_0 hM.1 (md_isShort hM hB.1 ht (fun z1 z2 => B_Md_readName_4 (fun z => absurd z (by decide)) (fun _ => ?_)) (fun z => B_Md_readName_4 (fun _ => ?_) (fun y => absurd rfl y)))
  · have hokn := row_okn z1 z2
    have eR : stepR s (rowAt B q) = if rowAt B q = snd5 then (2, s) else if rowAt B q ∈ s.2.1 then (3, s) else (0, (2, s.2.1 ++ [rowAt B q], s.2.2)) := by
      unfold stepR
      rw [if_neg (by omega), if_neg (by rw [rowAt_len]; omega), if_pos h1]
    obtain ⟨r1, r2, r3⟩ := tkK_row z1
    have hAr := ha.row z1
    rw [eR] at hAr
    refine B_Md_readName_7 hM.1 (md_isSound (d := d) hM hB ht (fun _ y => B_Md_readName_11 (fun u => absurd u (by decide)) (fun _ => ?_)) (fun y => B_Md_readName_11 (fun _ => B_Md_readName_19 ?_) (fun u => absurd rfl u)))
    · rw [if_pos y] at hAr
      obtain ⟨e1, e2⟩ := hAr.2 (by show ¬ 2 = 0; omega)
      exact bad2 (by rw [if_neg (by omega)]; exact e1) e2 _
    · have y' : ¬ rowAt B q = snd5 := fun u => y ⟨z1, u⟩
      rw [if_neg y'] at hAr
      have loop : ∀ (c j : Nat), s.2.1.length - j = c → j ≤ s.2.1.length → (∀ (t : Nat) (l' : List Nat), t < j → s.2.1[t]? = some l' → l' ≠ rowAt B q) → wpx (d + 3) P_Md_readName 21 [.ref 17, .int (nI j)] [] h Q := by
        intro c
        induction c with
        | zero =>
          intro j hc hj hi
          have ej : j = s.2.1.length := by omega
          have hnot : ¬ rowAt B q ∈ s.2.1 := fun u => by
            obtain ⟨t, ht⟩ := List.mem_iff_getElem?.mp u
            have := (List.getElem?_eq_some_iff.mp ht).1
            exact hi t _ (by omega) ht rfl
          rw [if_neg hnot] at hAr
          have hAN := hAr.1 rfl
          have hoS := stepR_ok ho rowAt_ok (by rw [rowAt_len]; omega) (by rw [eR, if_neg y', if_neg hnot])
          rw [eR, if_neg y', if_neg hnot] at hoS
          refine B_Md_readName_21 hM.1 (fun _ => B_Md_readName_60 hM.1 (md_isGood hM (fun _ => B_Md_readName_64 (fun u => absurd u (by decide)) (fun _ => B_Md_readName_67 hM.1 (mr_nameRead hM) (md_packed (d := d + 1) hM hB ht z1 z2 ?_))) (fun u => absurd h19 u))) (fun u => ?_)
          · rw [hs.1]
            refine B_Md_readName_79 (ms_nameRead hM) (vp_in_nI hn10 (by omega)) hM.1 ?_
            rw [nI_clamp (by omega), wi_ne _ _ (by omega), hs.1, nI_1]
            have hf1 : Fr Wps h (w_i (w_i h 22 s.2.1.length (nI (pkN (rowAt B q)))) 17 21 (nI (s.2.1.length + 1))) := (Fr.wi h _ (by unfold Wps; omega)).tr (Fr.wi _ _ (by unfold Wps; omega))
            have hM1 := hf1.md hM
            obtain ⟨b1, b2, b3, b4, b5⟩ := hs
            have hs1 : MPs (w_i (w_i h 22 s.2.1.length (nI (pkN (rowAt B q)))) 17 21 (nI (s.2.1.length + 1))) (2, s.2.1 ++ [rowAt B q], s.2.2) := by
              refine ⟨by rw [wi_eq]; show _ = nI (s.2.1 ++ [rowAt B q]).length; rw [List.length_append]; rfl, by rw [wi_ne _ _ (by omega), wi_ne _ _ (by omega)]; exact b2, fun t l' htl => ?_, fun t l' htl => ⟨by rw [wi_ne _ _ (by omega), wi_ne _ _ (by omega)]; exact (b4 t l' htl).1, fun j' x hx => by rw [wi_ne _ _ (by omega), wi_ne _ _ (by omega)]; exact (b4 t l' htl).2 j' x hx⟩, fun t x htx => by rw [wi_ne _ _ (by omega), wi_ne _ _ (by omega)]; exact b5 t x htx⟩
              have htl' : (s.2.1 ++ [rowAt B q])[t]? = some l' := htl
              rw [wi_ne _ _ (by omega)]
              by_cases e : t = s.2.1.length
              · subst e
                rw [List.getElem?_append_right (Nat.le_refl _), Nat.sub_self] at htl'
                cases htl'
                rw [wi_eq]
              · have hlt := (List.getElem?_eq_some_iff.mp htl').1
                rw [List.length_append] at hlt
                have e1 : [rowAt B q].length = 1 := rfl
                rw [List.getElem?_append_left (by omega)] at htl'
                rw [wi_ne _ _ (by omega)]
                exact b3 t l' htl'
            refine B_Md_readName_90 hM1.1 (md_goOn (d := d) hM1 (wps_by hf1 hB) hs1 (p := q + rlen B q) ?_ ?_ hAN hoS (fun g2 q2 hg2 hq2 hf2 => B_Md_readName_94 (k g2 (Or.inl ⟨_, q2, rfl, by omega, hg2⟩) (hf1.tr hf2))))
            · rw [wi_ne _ _ (by omega), wi_ne _ _ (by omega), ht.2.2.2.1, r3]
            · rw [wi_ne _ _ (by omega), wi_ne _ _ (by omega)]
              exact h19
          · rw [hs.1, nI_leI (by omega) (by omega)] at u
            omega
        | succ c ih =>
          intro j hc hj hi
          have gj : s.2.1[j]? = some s.2.1[j] := List.getElem?_eq_getElem (by omega)
          generalize s.2.1[j] = l' at gj
          have hl' := ho.2.2.2.2.1 l' (List.mem_of_getElem? gj)
          refine B_Md_readName_21 hM.1 (fun u => ?_) (fun _ => B_Md_readName_29 hM.1 (md_isGood hM (fun _ => B_Md_readName_33 (fun u => absurd u (by decide)) (fun _ => B_Md_readName_36 hM.1 (mr_nameRead hM) (ms_nameRead hM) (vp_in_nI (by omega) (by omega)) (md_packed (d := d + 1) hM hB ht z1 z2 ?_))) (fun u => absurd h19 u)))
          · rw [hs.1, nI_leI (by omega) (by omega)] at u
            omega
          · rw [nI_clamp (by omega), hs.2.2.1 j l' gj]
            refine B_Md_readName_46 (fun u => B_Md_readName_54 ?_) (fun u => ?_)
            · rw [okn.inj hl' hokn] at u
              rw [nI_1]
              refine ih (j + 1) (by omega) (by omega) (fun t l2 ht2 h2 => ?_)
              by_cases e : t = j
              · subst e
                rw [gj] at h2
                cases h2
                exact u
              · exact hi t l2 (by omega) h2
            · rw [okn.inj hl' hokn] at u
              have hin : rowAt B q ∈ s.2.1 := by rw [← u]; exact List.mem_of_getElem? gj
              rw [if_pos hin] at hAr
              obtain ⟨e1, e2⟩ := hAr.2 (by show ¬ 3 = 0; omega)
              exact B_Md_readName_49 hM.1 (md_fails (d := d + 2) (e := 3) hM ht h19 (by omega) (by omega) (by rw [if_neg (by omega)]; exact e1) e2 (fun g hb hf => B_Md_readName_54 (p21 g _ hb hf)))
      exact loop _ 0 rfl (Nat.zero_le _) (fun t l' ht => absurd ht (by omega))
  · by_cases z1 : tkK B q = 1
    · have z2 : ¬ rlen B q ≤ 6 := fun u => z ⟨z1, u⟩
      have hAr := ha.row z1
      have eR : stepR s (rowAt B q) = (2, s) := by
        unfold stepR
        rw [if_neg (by omega), if_pos (by rw [rowAt_len]; omega)]
      rw [eR] at hAr
      obtain ⟨e1, e2⟩ := hAr.2 (by show ¬ 2 = 0; omega)
      exact bad2 (by rw [if_neg (by omega)]; exact e1) e2 _
    · obtain ⟨e1, e2⟩ := na z1
      exact bad2 e1 e2 _
theorem md_isTold {d : Nat} {h : PH} {Q : PQ} {B : List Nat} {q j : Nat} {s : PSt} {l : List Nat} (hM : MdS h) (hB : MBy h B) (hs : MPs h s) (ho : okS s) (ht : TKN h B q) (h1 : tkK B q = 1) (gj : s.2.2.1[j]? = some l) (kt : l = rowAt B q → Q (some (.int 1)) h) (kf : ¬ l = rowAt B q → Q (some (.int 0)) h) : wpm (d + 2) 191 [.ref 17, .int (nI j)] h Q := by
  refine wpm_in P_Md_isTold rfl (by decide) (by show ¬ 3 < 2; decide) ?_
  obtain ⟨r1, r2, r3⟩ := tkK_row h1
  have hle := rlen_le B q (by omega)
  have h600 := hB.1
  have h14 := ho.2.2.1
  have hj := (List.getElem?_eq_some_iff.mp gj).1
  have hl := ho.2.2.2.2.2.1 l (List.mem_of_getElem? gj)
  have hl6 := hl.2.1
  have hrl := rowAt_len B q
  obtain ⟨b1, b2⟩ := hs.2.2.2.1 j l gj
  have va : vp_in (nI j) 14 := vp_in_nI (by omega) (by omega)
  have e3 : h_i h 17 15 - h_i h 17 14 = nI (rlen B q) := by
    rw [ht.2.2.1, ht.2.2.2.1, r3, nI_subN (by omega)]
    congr 1
    omega
  refine B_Md_isTold_0 hM.1 (mr_sizeRead hM) (ms_sizeRead hM) va (fun z => B_Md_isTold_20 ?_) (fun z => B_Md_isTold_18 (kf (fun u => z ?_)))
  · rw [nI_clamp (by omega), b1, e3, nI_eq (by omega) (by omega)] at z
    have loop : ∀ (c i : Nat), l.length - i = c → i ≤ l.length → (∀ t, t < i → l[t]? = (rowAt B q)[t]?) → wpx (d + 1) P_Md_isTold 22 [.ref 17, .int (nI j), .int (nI i)] [] h Q := by
      intro c
      induction c with
      | zero =>
        intro i hc hi hh
        refine B_Md_isTold_22 hM.1 (mr_sizeRead hM) (ms_sizeRead hM) va (fun _ => B_Md_isTold_64 (kt ?_)) (fun u => ?_)
        · refine List.ext_getElem? (fun t => ?_)
          by_cases ht2 : t < i
          · exact hh t ht2
          · rw [List.getElem?_eq_none (by omega), List.getElem?_eq_none (by omega)]
        · rw [nI_clamp (by omega), b1, nI_leI (by omega) (by omega)] at u
          omega
      | succ c ih =>
        intro i hc hi hh
        have gx : l[i]? = some l[i] := List.getElem?_eq_getElem (by omega)
        generalize l[i] = x at gx
        have hx := hl.1 x (List.mem_of_getElem? gx)
        have gy : (rowAt B q)[i]? = some (rowAt B q)[i] := List.getElem?_eq_getElem (by omega)
        generalize (rowAt B q)[i] = y at gy
        obtain ⟨n, w1, w2, w3⟩ := rowAt_at gy
        have hn := (hB.2.2 _ _ w1).1
        have hsm := sml_i w2
        have e8 : (8 : Int32) * nI j + nI i = nI (8 * j + i) := by rw [show (8 : Int32) = nI 8 from rfl, nI_mulN, nI_add]
        refine B_Md_isTold_22 hM.1 (mr_sizeRead hM) (ms_sizeRead hM) va (fun u => ?_) (fun _ => B_Md_isTold_32 hM.1 (mr_lettersRead hM) (ms_lettersRead hM) (by rw [e8]; exact vp_in_nI (by omega) (by omega)) ?_)
        · rw [nI_clamp (by omega), b1, nI_leI (by omega) (by omega)] at u
          omega
        · rw [e8, nI_clamp (by omega), b2 i x gx, ht.2.2.1, nI_add]
          refine md_byteAt hM hB (by omega) ?_
          rw [byv_in w1]
          refine B_Md_isTold_53 (fun u => B_Md_isTold_58 ?_) (fun u => B_Md_isTold_56 (kf (fun e => u ?_)))
          · have u' := (nI_eq (a := x + 96) (b := n) (by omega) (by omega)).mp u
            rw [nI_1]
            refine ih (i + 1) (by omega) (by omega) (fun t ht2 => ?_)
            by_cases e : t = i
            · subst e
              rw [gx, gy]
              congr 1
              omega
            · exact hh t (by omega)
          · rw [e, gy] at gx
            have := Option.some.inj gx
            congr 1
            omega
    exact loop _ 0 rfl (Nat.zero_le _) (fun t ht => absurd ht (by omega))
  · rw [nI_clamp (by omega), b1, e3, u, hrl]
