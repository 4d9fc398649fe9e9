/-! table on the reference's side: groups, signs, lines -/
theorem md_readGroup {d : Nat} {h : PH} {Q : PQ} {B : List Nat} {q : Nat} {s : PSt} {a : Nat × Nat × PSt} (hM : MdS h) (hB : MBy h B) (hg : PG B h s q a) (h3 : s.1 = 3) (k : ∀ h', Out B a 4 q h' → Fr Wps h h' → Q none h') : wpm (d + 4) 192 [.ref 17] h Q := by
  refine wpm_in P_Md_readGroup rfl (by decide) (by show ¬ 2 < 1; decide) ?_
  obtain ⟨hs, ht, h19, ha, ho⟩ := hg
  have h600 := hB.1
  have h14 := ho.2.2.1
  have hn0 := ho.2.2.2.2.2.2.2.1 (by omega)
  have h10 := ho.2.1
  -- behind a fault
  have p162 : ∀ (g : PH) (x1 : Int32), PB g a → Fr Wps h g → wpx (d + 3) P_Md_readGroup 162 [.ref 17, .int x1] [] g Q := fun g x1 hb hf =>
    B_Md_readGroup_162 (hf.md hM).1 (md_goOnB (hf.md hM) hb.no (B_Md_readGroup_166 (k g (Or.inr hb) hf)))
  have p69 : ∀ (g : PH) (x1 : Int32), PB g a → Fr Wps h g → wpx (d + 3) P_Md_readGroup 69 [.ref 17, .int x1] [] g Q := fun g x1 hb hf =>
    B_Md_readGroup_69 (hf.md hM).1 (md_isGood (hf.md hM) (fun z => absurd z hb.no) (fun _ => B_Md_readGroup_73 (fun _ => p162 g x1 hb hf) (fun z => absurd rfl z)))
  have p48 : ∀ (g : PH) (x1 : Int32), PB g a → Fr Wps h g → wpx (d + 3) P_Md_readGroup 48 [.ref 17, .int x1] [] g Q := fun g x1 hb hf =>
    B_Md_readGroup_48 (hf.md hM).1 (md_isGood (hf.md hM) (fun z => absurd z hb.no) (fun _ => B_Md_readGroup_52 (fun _ => p69 g x1 hb hf) (fun z => absurd rfl z)))
  have p14 : ∀ (g : PH) (x1 : Int32), PB g a → Fr Wps h g → wpx (d + 3) P_Md_readGroup 14 [.ref 17, .int x1] [] g Q := fun g x1 hb hf =>
    B_Md_readGroup_14 (hf.md hM).1 (fun _ => p48 g x1 hb hf) (fun _ => B_Md_readGroup_22 (hf.md hM).1 (md_isGood (hf.md hM) (fun z => absurd z hb.no) (fun _ => B_Md_readGroup_26 (fun _ => p48 g x1 hb hf) (fun z => absurd rfl z))))
  have bad2 : (a.1 = (if tkK B q = 3 then 1 else 2)) → a.2.1 = q → ∀ v1, wpx (d + 3) P_Md_readGroup 7 [.ref 17, v1] [] h Q := fun e1 e2 v1 =>
    B_Md_readGroup_7 hM.1 (md_fails (d := d + 2) (e := 2) hM ht h19 (by omega) (by omega) e1 e2 (fun g hb hf => B_Md_readGroup_12 (p14 g _ hb hf)))
  have na : ¬ tkK B q = 1 → a.1 = (if tkK B q = 3 then 1 else 2) ∧ a.2.1 = q := fun z => ha.bad ht.2.1 z (fun _ => by omega) (fun z2 => by
    obtain ⟨_, _, s3⟩ := tkK_sign z2
    unfold stepS
    rw [if_neg (fun u => u s3), if_neg (by omega), if_neg (by omega), if_neg (by omega)]
    show ¬ 2 = 0
    omega)
  refine B_Md_readGroup_0 hM.1 (md_isShort hM hB.1 ht (fun z1 z2 => B_Md_readGroup_4 (fun _ => B_Md_readGroup_12 ?_) (fun z => absurd z (by decide))) (fun z => B_Md_readGroup_4 (fun y => absurd rfl y) (fun _ => ?_)))
  · have hokn := row_okn z1 z2
    have eR : stepR s (rowAt B q) = if rowAt B q ∈ s.2.2.1 then (3, s) else if ¬ s.2.2.1.length < 14 then (4, s) else (0, (4, s.2.1, s.2.2.1 ++ [rowAt B q], s.2.2.2 ++ [s.2.1.length - 1])) := by
      unfold stepR
      rw [if_neg (by omega), if_neg (by rw [rowAt_len]; omega), if_neg (by omega), if_pos h3]
    obtain ⟨r1, r2, r3⟩ := tkK_row z1
    have hle := rlen_le B q (by omega)
    have hrl := rowAt_len B q
    have hAr := ha.row z1
    rw [eR] at hAr
    have e3 : h_i h 17 15 - h_i h 17 14 = nI (rlen B q) := by
      rw [ht.2.2.1, ht.2.2.2.1, r3, nI_subN (by omega)]
      congr 1
      omega
    have loop : ∀ (c j : Nat), s.2.2.1.length - j = c → j ≤ s.2.2.1.length → (∀ (t : Nat) (l' : List Nat), t < j → s.2.2.1[t]? = some l' → l' ≠ rowAt B q) → wpx (d + 3) P_Md_readGroup 14 [.ref 17, .int (nI j)] [] h Q := by
      intro c
      induction c with
      | zero =>
        intro j hc hj hi
        have ej : j = s.2.2.1.length := by omega
        have hnot : ¬ rowAt B q ∈ s.2.2.1 := fun u => by
          obtain ⟨t, ht⟩ := List.mem_iff_getElem?.mp u
          have := (List.getElem?_eq_some_iff.mp ht).1
          exact hi t _ (by omega) ht rfl
        rw [if_neg hnot] at hAr
        refine B_Md_readGroup_14 hM.1 (fun _ => B_Md_readGroup_48 hM.1 (md_isGood hM (fun _ => B_Md_readGroup_52 (fun u => absurd u (by decide)) (fun _ => B_Md_readGroup_55 hM.1 (fun u => ?_) (fun u => ?_))) (fun u => absurd h19 u))) (fun u => ?_)
        · have u' : s.2.2.1.length < 14 := by
            rcases Nat.lt_or_ge s.2.2.1.length 14 with y | y
            · exact y
            · exact absurd (by rw [hs.2.1, show s.2.2.1.length = 14 by omega]; rfl) u
          rw [if_neg (fun y => y u')] at hAr
          have hAN := hAr.1 rfl
          have hoS := stepR_ok ho rowAt_ok (by rw [rowAt_len]; omega) (by rw [eR, if_neg hnot, if_neg (fun y => y u')])
          rw [eR, if_neg hnot, if_neg (fun y => y u')] at hoS
          have va : vp_in (nI s.2.2.1.length) 14 := vp_in_nI u' (by omega)
          refine B_Md_readGroup_69 hM.1 (md_isGood hM (fun _ => B_Md_readGroup_73 (fun y => absurd y (by decide)) (fun _ => B_Md_readGroup_76 hM.1 (mr_sizeRead hM) (ms_sizeRead hM) (by rw [hs.2.1]; exact va) (mr_soundRead hM) (ms_soundRead hM) (by rw [wi_ne _ _ (by omega), hs.2.1]; exact va) ?_)) (fun y => absurd h19 y))
          rw [hs.2.1, e3, nI_clamp (by omega), wi_ne _ _ (by omega), hs.2.1, nI_clamp (by omega), wi_ne _ _ (by omega), hs.1, show nI s.2.1.length - (1 : Int32) = nI (s.2.1.length - 1) from nI_subN (b := 1) (by omega)]
          have hf1 : Fr Wps h (w_i (w_i h 24 s.2.2.1.length (nI (rlen B q))) 25 s.2.2.1.length (nI (s.2.1.length - 1))) := (Fr.wi h _ (by unfold Wps; omega)).tr (Fr.wi _ _ (by unfold Wps; omega))
          have hfN : Fr (fun c k => (c = 24 ∨ c = 25) ∧ k = s.2.2.1.length) h (w_i (w_i h 24 s.2.2.1.length (nI (rlen B q))) 25 s.2.2.1.length (nI (s.2.1.length - 1))) := (Fr.wi h _ ⟨Or.inl rfl, rfl⟩).tr (Fr.wi _ _ ⟨Or.inr rfl, rfl⟩)
          have n24 : h_i (w_i (w_i h 24 s.2.2.1.length (nI (rlen B q))) 25 s.2.2.1.length (nI (s.2.1.length - 1))) 24 s.2.2.1.length = nI (rlen B q) := by rw [wi_ne _ _ (by omega), wi_eq]
          have n25 : h_i (w_i (w_i h 24 s.2.2.1.length (nI (rlen B q))) 25 s.2.2.1.length (nI (s.2.1.length - 1))) 25 s.2.2.1.length = nI (s.2.1.length - 1) := wi_eq _ _ _ _
          generalize w_i (w_i h 24 s.2.2.1.length (nI (rlen B q))) 25 s.2.2.1.length (nI (s.2.1.length - 1)) = g1 at hf1 hfN n24 n25 ⊢
          have hM1 := hf1.md hM
          refine B_Md_readGroup_109 hM1.1 ?_
          rw [hfN.i _ _ (by omega), ht.2.2.1]
          have copy : ∀ (e i : Nat) (g : PH), rlen B q - i = e → i ≤ rlen B q → Fr (fun c k => c = 23 ∧ 8 * s.2.2.1.length ≤ k) g1 g → (∀ t x, t < i → (rowAt B q)[t]? = some x → h_i g 23 (8 * s.2.2.1.length + t) = nI (x + 96)) → wpx (d + 3) P_Md_readGroup 114 [.ref 17, .int (nI (q + i))] [] g Q := by
            intro e
            induction e with
            | zero =>
              intro i g he hi hf hl
              have hF : Fr Wps h g := hf1.tr (hf.up (fun c k z => by unfold Wps; omega))
              have hM2 := hF.md hM
              have ei : i = rlen B q := by omega
              have i15 : h_i g 17 15 = nI (q + rlen B q) := by rw [hf.i _ _ (by omega), hfN.i _ _ (by omega), ht.2.2.2.1, r3]
              refine B_Md_readGroup_114 hM2.1 (fun _ => B_Md_readGroup_152 hM2.1 ?_) (fun y => ?_)
              · have i22 : h_i g 17 22 = nI s.2.2.1.length := by rw [hf.i _ _ (by omega), hfN.i _ _ (by omega), hs.2.1]
                rw [i22, nI_1]
                have hF3 : Fr Wps h (w_i g 17 22 (nI (s.2.2.1.length + 1))) := hF.tr (Fr.wi _ _ (by unfold Wps; omega))
                have hM3 := hF3.md hM
                obtain ⟨b1, b2, b3, b4, b5⟩ := hs
                have hs3 : MPs (w_i g 17 22 (nI (s.2.2.1.length + 1))) (4, s.2.1, s.2.2.1 ++ [rowAt B q], s.2.2.2 ++ [s.2.1.length - 1]) := by
                  have old : ∀ c k, ¬ (c = 17 ∧ k = 22) → ¬ (c = 23 ∧ 8 * s.2.2.1.length ≤ k) → ¬ ((c = 24 ∨ c = 25) ∧ k = s.2.2.1.length) → h_i (w_i g 17 22 (nI (s.2.2.1.length + 1))) c k = h_i h c k := fun c k y1 y2 y3 => by
                    rw [wi_ne _ _ y1, hf.i _ _ y2, hfN.i _ _ y3]
                  refine ⟨(old _ _ (by omega) (by omega) (by omega)).trans b1, ?_, fun t l' htl => (old _ _ (by omega) (by omega) (by omega)).trans (b3 t l' htl), fun t l' htl => ?_, fun t x htx => ?_⟩
                  · rw [wi_eq]
                    show _ = nI (s.2.2.1 ++ [rowAt B q]).length
                    rw [List.length_append]
                    rfl
                  · have htl' : (s.2.2.1 ++ [rowAt B q])[t]? = some l' := htl
                    have hlt := (List.getElem?_eq_some_iff.mp htl').1
                    rw [List.length_append] at hlt
                    have e1 : [rowAt B q].length = 1 := rfl
                    by_cases e : t = s.2.2.1.length
                    · subst e
                      rw [List.getElem?_append_right (Nat.le_refl _), Nat.sub_self] at htl'
                      cases htl'
                      refine ⟨?_, fun j' x hx => ?_⟩
                      · rw [wi_ne _ _ (by omega), hf.i _ _ (by omega), n24, hrl]
                      · rw [wi_ne _ _ (by omega)]
                        have := (List.getElem?_eq_some_iff.mp hx).1
                        exact hl j' x (by omega) hx
                    · rw [List.getElem?_append_left (by omega)] at htl'
                      obtain ⟨c1, c2⟩ := b4 t l' htl'
                      have hl7 := (ho.2.2.2.2.2.1 l' (List.mem_of_getElem? htl')).2.1
                      refine ⟨(old _ _ (by omega) (by omega) (by omega)).trans c1, fun j' x hx => ?_⟩
                      have := (List.getElem?_eq_some_iff.mp hx).1
                      exact (old _ _ (by omega) (by omega) (by omega)).trans (c2 j' x hx)
                  · have htx' : (s.2.2.2 ++ [s.2.1.length - 1])[t]? = some x := htx
                    have hsl := ho.2.2.2.1
                    have hlt := (List.getElem?_eq_some_iff.mp htx').1
                    rw [List.length_append] at hlt
                    have e1 : [s.2.1.length - 1].length = 1 := rfl
                    by_cases e : t = s.2.2.2.length
                    · rw [e, List.getElem?_append_right (Nat.le_refl _), Nat.sub_self] at htx'
                      cases htx'
                      rw [wi_ne _ _ (by omega), hf.i _ _ (by omega), e, hsl, n25]
                    · rw [List.getElem?_append_left (by omega)] at htx'
                      exact (old _ _ (by omega) (by omega) (by omega)).trans (b5 t x htx')
                refine B_Md_readGroup_162 hM3.1 (md_goOn (d := d) hM3 (wps_by hF3 hB) hs3 (p := q + rlen B q) (by rw [wi_ne _ _ (by omega)]; exact i15) (by rw [wi_ne _ _ (by omega), hf.i _ _ (by omega), hfN.i _ _ (by omega)]; exact h19) hAN hoS (fun g2 q2 hg2 hq2 hf2 => B_Md_readGroup_166 (k g2 (Or.inl ⟨_, q2, rfl, by omega, hg2⟩) (hF3.tr hf2))))
              · rw [i15, nI_leI (by omega) (by omega)] at y
                omega
            | succ e ih =>
              intro i g he hi hf hl
              have hF : Fr Wps h g := hf1.tr (hf.up (fun c k z => by unfold Wps; omega))
              have hM2 := hF.md hM
              have i15 : h_i g 17 15 = nI (q + rlen B q) := by rw [hf.i _ _ (by omega), hfN.i _ _ (by omega), ht.2.2.2.1, r3]
              have i22 : h_i g 17 22 = nI s.2.2.1.length := by rw [hf.i _ _ (by omega), hfN.i _ _ (by omega), hs.2.1]
              have i14 : h_i g 17 14 = nI q := by rw [hf.i _ _ (by omega), hfN.i _ _ (by omega), ht.2.2.1]
              have gy : (rowAt B q)[i]? = some (rowAt B q)[i] := List.getElem?_eq_getElem (by omega)
              generalize (rowAt B q)[i] = y at gy
              obtain ⟨n, w1, w2, w3⟩ := rowAt_at gy
              have hsm := sml_i w2
              refine B_Md_readGroup_114 hM2.1 (fun z => ?_) (fun _ => B_Md_readGroup_122 hM2.1 (mr_lettersRead hM2) (md_byteAt (d := d + 2) hM2 (wps_by hF hB) (by omega) ?_))
              · rw [i15, nI_leI (by omega) (by omega)] at z
                omega
              · rw [byv_in w1, i22, i14, show (8 : Int32) = nI 8 from rfl, nI_mulN, nI_add, nI_subN (by omega), show 8 * s.2.2.1.length + (q + i) - q = 8 * s.2.2.1.length + i by omega]
                refine B_Md_readGroup_145 (ms_lettersRead hM2) (vp_in_nI (by omega) (by omega)) ?_
                rw [nI_clamp (by omega), nI_1]
                refine ih (i + 1) _ (by omega) (by omega) (hf.tr (Fr.wi _ _ ⟨rfl, by omega⟩)) (fun t x ht2 hx => ?_)
                by_cases e : t = i
                · subst e
                  rw [gy] at hx
                  cases hx
                  rw [wi_eq, w3]
                  congr 1
                  omega
                · rw [wi_ne _ _ (by omega)]
                  exact hl t x (by omega) hx
          exact copy _ 0 g1 rfl (Nat.zero_le _) (Fr.rf _ _) (fun t x ht => absurd ht (by omega))
        · rw [hs.2.1] at u
          have u' := (nI_eq (b := 14) (by omega) (by omega)).mp u
          rw [if_pos (by omega)] at hAr
          obtain ⟨e1, e2⟩ := hAr.2 (by show ¬ 4 = 0; omega)
          exact B_Md_readGroup_64 hM.1 (md_fails (d := d + 2) (e := 4) hM ht h19 (by omega) (by omega) (by rw [if_neg (by omega)]; exact e1) e2 (fun g hb hf => p69 g _ hb hf))
        · rw [hs.2.1, nI_leI (by omega) (by omega)] at u
          omega
      | succ c ih =>
        intro j hc hj hi
        have gj : s.2.2.1[j]? = some s.2.2.1[j] := List.getElem?_eq_getElem (by omega)
        generalize s.2.2.1[j] = l' at gj
        refine B_Md_readGroup_14 hM.1 (fun u => ?_) (fun _ => B_Md_readGroup_22 hM.1 (md_isGood hM (fun _ => B_Md_readGroup_26 (fun u => absurd u (by decide)) (fun _ => B_Md_readGroup_29 hM.1 (md_isTold (d := d + 1) hM hB hs ho ht z1 gj (fun u => ?_) (fun u => ?_)))) (fun u => absurd h19 u)))
        · rw [hs.2.1, nI_leI (by omega) (by omega)] at u
          omega
        · have hin : rowAt B q ∈ s.2.2.1 := by rw [← u]; exact List.mem_of_getElem? gj
          rw [if_pos hin] at hAr
          obtain ⟨e1, e2⟩ := hAr.2 (by show ¬ 3 = 0; omega)
          exact B_Md_readGroup_34 (fun y => absurd y (by decide)) (fun _ => B_Md_readGroup_37 hM.1 (md_fails (d := d + 2) (e := 3) hM ht h19 (by omega) (by omega) (by rw [if_neg (by omega)]; exact e1) e2 (fun g hb hf => B_Md_readGroup_42 (p14 g _ hb hf))))
        · refine B_Md_readGroup_34 (fun _ => B_Md_readGroup_42 ?_) (fun y => absurd rfl y)
          rw [nI_1]
          refine ih (j + 1) (by omega) (by omega) (fun t l2 ht2 h2 => ?_)
          by_cases e : t = j
          · subst e
            rw [gj] at h2
            cases h2
            exact u
          · exact hi t l2 (by omega) h2
    exact loop _ 0 rfl (Nat.zero_le _) (fun t l' ht => absurd ht (by omega))
  · by_cases z1 : tkK B q = 1
    · have z2 : ¬ rlen B q ≤ 6 := fun u => z ⟨z1, u⟩
      have hAr := ha.row z1
      have eR : stepR s (rowAt B q) = (2, s) := by
        unfold stepR
        rw [if_neg (by omega), if_pos (by rw [rowAt_len]; omega)]
      rw [eR] at hAr
      obtain ⟨e1, e2⟩ := hAr.2 (by show ¬ 2 = 0; omega)
      exact bad2 (by rw [if_neg (by omega)]; exact e1) e2 _
    · obtain ⟨e1, e2⟩ := na z1
      exact bad2 e1 e2 _
