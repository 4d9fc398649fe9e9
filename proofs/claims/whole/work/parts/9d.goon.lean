/-! spell on the class's side: all rows in their order, what can't be better cut off -/
def bl (gs : List (List Nat)) : Option (List Nat) → Nat
  | none => 29
  | some v => (catG gs v).length
theorem btr_bl {gs : List (List Nat)} {n : Nat} {b : Option (List Nat)} (h : n < bl gs b) : btr gs n b = true := by
  cases b with
  | none => rfl
  | some v => exact decide_eq_true h
def CSp (h : PH) (c : Nat) (gs : List (List Nat)) (m : Nat) (so : Nat → Int32) (A0 : List Int32) (r : List Nat) (b : Option (List Nat)) : Prop := h_i h c 1 = nI A0.length ∧ (∀ i a, A0[i]? = some a → h_i h (c + 1) i = a) ∧ (∀ i, i ≤ A0.length → h_i h (c + 2) i = nI (alw gs m so (A0.drop i))) ∧ (∀ i k, r[i]? = some k → h_i h (c + 3) i = nI k) ∧ CSw h c gs m (catG gs r) (catG gs r).length ∧ h_i h c 5 = nI (bl gs b) ∧ bl gs b ≤ 29 ∧ ∀ v, b = some v → v.length = A0.length ∧ ∀ i k, v[i]? = some k → h_i h (c + 4) i = nI k ∧ k < gs.length
theorem alw_le {gs : List (List Nat)} {m : Nat} {so : Nat → Int32} (ho : okg gs m) : ∀ A : List Int32, alw gs m so A ≤ 7 * A.length
  | [] => Nat.le_refl _
  | a :: A => by
    have := alw_le (so := so) ho A
    show (mnl gs m so a gs.length).getD 0 + alw gs m so A ≤ 7 * (A.length + 1)
    cases hm : mnl gs m so a gs.length with
    | none => show 0 + _ ≤ _; omega
    | some n =>
      have := mnl_7 ho _ n (Nat.le_refl _) hm
      show n + _ ≤ _
      omega
theorem catG_ok {gs : List (List Nat)} {m : Nat} (ho : okg gs m) {r : List Nat} (hr : ∀ k ∈ r, k < gs.length) : ∀ x ∈ catG gs r, 0 < x ∧ x < 28 := by
  intro x hx
  obtain ⟨k, hk, hxk⟩ := List.mem_flatMap.mp hx
  have hkl := hr k hk
  have gk : gs[k]? = some gs[k] := List.getElem?_eq_getElem hkl
  have el : gs.getD k [] = gs[k] := by rw [List.getD_eq_getElem?_getD, gk]; rfl
  rw [el] at hxk
  exact (ho.at gk).1.1 x hxk
theorem CSp.back {h : PH} {c : Nat} {gs : List (List Nat)} {m : Nat} {so : Nat → Int32} {A0 : List Int32} {r : List Nat} {j : Nat} {b : Option (List Nat)} (hs : CSp h c gs m so A0 (r ++ [j]) b) : CSp h c gs m so A0 r b := by
  obtain ⟨a1, a2, a3, a4, a5, a6, a7, a8⟩ := hs
  refine ⟨a1, a2, a3, fun i k hi => a4 i k ?_, fun i hi => ?_, a6, a7, a8⟩
  · have := (List.getElem?_eq_some_iff.mp hi).1
    rw [List.getElem?_append_left this]
    exact hi
  · have := a5 i (by rw [catG_snoc, List.length_append]; omega)
    rw [catG_snoc, List.take_append_of_le_length hi] at this
    exact this
theorem drop_atG {α : Type} {l : List α} {i : Nat} {x : α} (hx : l[i]? = some x) : l.drop i = x :: l.drop (i + 1) := by
  obtain ⟨hi, e⟩ := List.getElem?_eq_some_iff.mp hx
  rw [List.drop_eq_getElem_cons hi, e]
theorem sp_goOn {c : Nat} {gs : List (List Nat)} {m : Nat} {so : Nat → Int32} {A0 : List Int32} (h4 : A0.length ≤ 4) : ∀ (A : List Int32) (d : Nat) (h : PH) (Q : PQ) (r : List Nat) (b : Option (List Nat)), A0.drop r.length = A → r.length + A.length = A0.length → SpS h c → OwS h → CGr h 2 gs m → CSo h 2 gs.length so → CSp h c gs m so A0 r b → (∀ k ∈ r, k < gs.length) → rdc gs m (catG gs r) = 1 → (A = [] → (catG gs r).length < bl gs b) → (catG gs r).length ≤ 7 * r.length → (∀ h', CSp h' c gs m so A0 r (spF gs m so A r b) → Fr (Wsp c) h h' → Q none h') → wpm (d + A.length + 4) 65 [.ref c, .ref 2, .int (nI r.length), .int (nI (catG gs r).length), .long (pk (ls7 (catG gs r)))] h Q
  | [], d, h, Q, r, b, hA, hl, hS, hO, hg, hso, hs, hr, h1, hb, h7, k => by
    refine wpm_in P_Sp_goOn rfl (by decide) (by show ¬ 10 < 6; decide) ?_
    have hl' : r.length = A0.length := hl
    obtain ⟨a1, a2, a3, a4, a5, a6, a7, a8⟩ := hs
    have hb' := hb rfl
    have e1 : h_i (w_i h c 5 (nI (catG gs r).length)) c 1 = nI A0.length := by rw [wi_ne _ _ (by omega), a1]
    have eF : spF gs m so [] r b = some r := if_pos ⟨btr_bl hb', h1⟩
    refine B_Sp_goOn_0 hS.1 (fun _ => B_Sp_goOn_13 hS.1 hS.2.2.2.1.1 hS.2.2.2.2.1.1 hS.2.2.2.1.2 hS.2.2.2.2.1.2 (by rw [e1, nI_clamp (by omega)]; exact ⟨by decide, by decide, nI_pos (by omega), by show 0 + A0.length ≤ 4; omega, by show 0 + A0.length ≤ 4; omega⟩) ?_) (fun q => ?_)
    · rw [e1, nI_clamp (by omega)]
      refine k _ ?_ ((Fr.wi h _ ⟨Nat.le_refl _, by omega⟩).tr (Fr.wri _ _ (fun k => ⟨by omega, by omega⟩)))
      rw [eF]
      refine ⟨by rw [wri_ne _ _ (by omega)]; exact e1, fun i a hi => ?_, fun i hi => ?_, fun i j hi => ?_, fun i hi => ?_, by rw [wri_ne _ _ (by omega), wi_eq]; rfl, ?_, fun v hv => ?_⟩
      · rw [wri_ne _ _ (by omega), wi_ne _ _ (by omega)]
        exact a2 i a hi
      · rw [wri_ne _ _ (by omega), wi_ne _ _ (by omega)]
        exact a3 i hi
      · rw [wri_ne _ _ (by omega), wi_ne _ _ (by omega)]
        exact a4 i j hi
      · rw [wri_ne _ _ (by omega), wi_ne _ _ (by omega)]
        exact a5 i hi
      · show (catG gs r).length ≤ 29
        omega
      · have ev : r = v := Option.some.inj hv
        rw [← ev]
        refine ⟨hl', fun i j hi => ?_⟩
        have hlt := (List.getElem?_eq_some_iff.mp hi).1
        refine ⟨?_, hr j (List.mem_of_getElem? hi)⟩
        rw [wri_eq]
        show va_cpy _ _ 0 0 A0.length i = _
        unfold va_cpy
        rw [if_pos ⟨by omega, by omega⟩, show 0 + (i - 0) = i by omega, wi_ne _ _ (by omega)]
        exact a4 i j hi
    · rw [a1, nI_leI (by omega) (by omega)] at q
      omega
  | a :: A, d, h, Q, r, b, hA, hl, hS, hO, hg, hso, hs, hr, h1, hb, h7, k => by
    refine wpm_in P_Sp_goOn rfl (by decide) (by show ¬ 10 < 6; decide) ?_
    have hl' : r.length + (A.length + 1) = A0.length := hl
    have h14 := hg.1.1
    have hc63 : 63 ≤ c := hS.2.2.2.2.2.2.1
    have hA0 : A0[r.length]? = some a := by
      have := List.getElem?_drop (xs := A0) (i := r.length) (j := 0)
      rw [hA] at this
      exact this.symm
    have hA1 : A0.drop (r.length + 1) = A := by
      have := drop_atG hA0
      rw [hA] at this
      exact (List.cons.inj this).2.symm
    have hwc : ∀ x ∈ catG gs r, 0 < x ∧ x < 28 := catG_ok hg.1 hr
    have haw := alw_le (so := so) hg.1 A
    refine B_Sp_goOn_0 hS.1 (fun q => ?_) (fun _ => B_Sp_goOn_8 (fun _ => B_Sp_goOn_36 ?_) (fun q => absurd ((nI_ltI (b := 4) (by omega) (by omega)).mpr (by omega)) q))
    · rw [hs.1, nI_leI (by omega) (by omega)] at q
      omega
    have loop : ∀ (e j : Nat) (b' : Option (List Nat)) (g : PH) (v7 v8 v9 : Value), gs.length - j = e → j ≤ gs.length → Fr (Wsp c) h g → CSp g c gs m so A0 r b' → (∀ h', CSp h' c gs m so A0 r (spJ gs m so (spF gs m so A) a r e j b') → Fr (Wsp c) h h' → Q none h') → wpx (d + A.length + 4) P_Sp_goOn 39 [.ref c, .ref 2, .int (nI r.length), .int (nI (catG gs r).length), .long (pk (ls7 (catG gs r))), .retAddr 2, .int (nI j), v7, v8, v9] [] g Q := by
      intro e
      induction e with
      | zero =>
        intro j b' g v7 v8 v9 he hj hf hs k
        have hO' := hf.ow hO
        have hG' := GrS_2 hO'
        have hg' : CGr g 2 gs m := hg.fr hf (fun a k q => by unfold Wsp at q; omega)
        refine B_Sp_goOn_39 hG'.1 (fun _ => B_Sp_goOn_151 (k g hs hf)) (fun q => ?_)
        rw [hg'.2.1, nI_leI (by omega) (by omega)] at q
        omega
      | succ e ih =>
        intro j b' g v7 v8 v9 he hj hf hs k
        have hO' := hf.ow hO
        have hG' := GrS_2 hO'
        have hS' := hS.fr hf
        have hg' : CGr g 2 gs m := hg.fr hf (fun a k q => by unfold Wsp at q; omega)
        have hso' : CSo g 2 gs.length so := hso.fr' hf (fun k q => by unfold Wsp at q; omega)
        have gj : gs[j]? = some gs[j] := List.getElem?_eq_getElem (by omega)
        generalize gs[j] = l at gj
        have el : gs.getD j [] = l := by rw [List.getD_eq_getElem?_getD, gj]; rfl
        obtain ⟨b1, b2, b3⟩ := hg.1.at gj
        have l7 := b1.2
        have va : vp_in (nI j) 14 := vp_in_nI b3 (by omega)
        -- the next group, the best as it is
        have nx : ∀ (g' : PH) (x7 : Int32) (v8 v9 : Value), CSp g' c gs m so A0 r b' → Fr (Wsp c) h g' → (if inm m j ∧ so j = a then spF gs m so A (r ++ [j]) b' else b') = b' → wpx (d + A.length + 4) P_Sp_goOn 145 [.ref c, .ref 2, .int (nI r.length), .int (nI (catG gs r).length), .long (pk (ls7 (catG gs r))), .retAddr 2, .int (nI j), .int x7, v8, v9] [] g' Q := fun g' x7 v8 v9 hs2 hf2 e2 => by
          refine B_Sp_goOn_145 ?_
          rw [nI_1]
          refine ih (j + 1) b' g' _ v8 v9 (by omega) (by omega) hf2 hs2 (fun h' hs3 hf3 => k h' ?_ hf3)
          show CSp h' c gs m so A0 r (spJ gs m so (spF gs m so A) a r e (j + 1) (if inm m j ∧ so j = a then spF gs m so A (r ++ [j]) b' else b'))
          rw [e2]
          exact hs3
        refine B_Sp_goOn_39 hG'.1 (fun q => ?_) (fun _ => B_Sp_goOn_48 hG'.1 hG'.2.2.1.1 hG'.2.2.1.2 va (gr_isIn hG' hg' (by omega) (fun q => ?_) (fun q => ?_)))
        · rw [hg'.2.1, nI_leI (by omega) (by omega)] at q
          omega
        · rw [nI_clamp (by omega), (hg'.2.2.2 j l gj).2, nI_add]
          refine B_Sp_goOn_65 (fun z => absurd z (by decide)) (fun _ => B_Sp_goOn_68 hG'.1 hG'.2.2.2.1.1 hG'.2.2.2.1.2 va hS'.1 hS'.2.1.1 hS'.2.1.2 (vp_in_nI (by omega) (by omega)) (fun z => ?_) (fun z => ?_))
          · rw [nI_clamp (by omega), nI_clamp (by omega), hso' j (by omega), hs.2.1 _ a hA0] at z
            exact nx g _ _ _ hs hf (if_neg (fun y => z y.2))
          · rw [nI_clamp (by omega), nI_clamp (by omega), hso' j (by omega), hs.2.1 _ a hA0] at z
            have eif : (if inm m j ∧ so j = a then spF gs m so A (r ++ [j]) b' else b') = spF gs m so A (r ++ [j]) b' := if_pos ⟨q, z⟩
            have ecat : catG gs (r ++ [j]) = catG gs r ++ l := by rw [catG_snoc, el]
            have hbl := hs.2.2.2.2.2.2.1
            refine B_Sp_goOn_84 hS'.1 hS'.2.2.1.1 hS'.2.2.1.2 (by rw [nI_1]; exact vp_in_nI (by omega) (by omega)) (fun y => ?_) (fun y => ?_)
            · rw [nI_1, nI_clamp (by omega), hs.2.2.1 _ (by omega), hA1, hs.2.2.2.2.2.1, nI_add, nI_leI (by omega) (by omega)] at y
              refine nx g _ _ _ hs hf (eif.trans (spF_cut hg.1 A (r ++ [j]) b' (Or.inr ?_)))
              cases b' with
              | none =>
                have e29 : bl gs none = 29 := rfl
                omega
              | some v =>
                have ev : bl gs (some v) = (catG gs v).length := rfl
                refine ⟨v, rfl, ?_⟩
                rw [ecat, List.length_append]
                omega
            · rw [nI_1, nI_clamp (by omega), hs.2.2.1 _ (by omega), hA1, hs.2.2.2.2.2.1, nI_add, nI_leI (by omega) (by omega)] at y
              refine B_Sp_goOn_102 hS'.1 (sp_countNew (d := d + A.length + 1) hS' hO' hg' gj hwc (by omega) hs.2.2.2.2.1 (fun g2 hw2 hf2 => ?_))
              have hF2 : Fr (Wsp c) h g2 := hf.tr (hf2.up (fun a k q => ⟨by omega, by omega⟩))
              have hS2 := hS.fr hF2
              have hge := rdc_app (w := catG gs r) hg.1 gj q
              have hs2 : CSp g2 c gs m so A0 r b' := by
                obtain ⟨a1, a2, a3, a4, a5, a6, a7, a8⟩ := hs
                refine ⟨(hf2.i _ _ (by omega)).trans a1, fun i x hi => (hf2.i _ _ (by omega)).trans (a2 i x hi), fun i hi => (hf2.i _ _ (by omega)).trans (a3 i hi), fun i x hi => (hf2.i _ _ (by omega)).trans (a4 i x hi), fun i hi => ?_, (hf2.i _ _ (by omega)).trans a6, a7, fun v hv => ⟨(a8 v hv).1, fun i x hi => ⟨(hf2.i _ _ (by omega)).trans ((a8 v hv).2 i x hi).1, ((a8 v hv).2 i x hi).2⟩⟩⟩
                have := hw2 i (by rw [List.length_append]; omega)
                rw [List.take_append_of_le_length hi] at this
                exact this
              have hlast := hw2 (catG gs r ++ l).length (Nat.le_refl _)
              rw [List.take_length, List.length_append] at hlast
              refine B_Sp_goOn_112 hS2.1 hS2.2.2.2.2.2.1.1 hS2.2.2.2.2.2.1.2 (vp_in_nI (by omega) (by omega)) (fun u => ?_) (fun u => ?_)
              · rw [nI_clamp (by omega), hlast, show (1 : Int32) = nI 1 from rfl, nI_eq (by omega) (by omega)] at u
                refine nx g2 _ _ _ hs2 hF2 (eif.trans (spF_cut hg.1 A (r ++ [j]) b' (Or.inl ?_)))
                rw [ecat]
                omega
              · rw [nI_clamp (by omega), hlast, show (1 : Int32) = nI 1 from rfl, nI_eq (by omega) (by omega)] at u
                refine B_Sp_goOn_125 hS2.1 hS2.2.2.2.1.1 hS2.2.2.2.1.2 (vp_in_nI (by omega) (by omega)) ?_
                rw [nI_1, nI_clamp (by omega)]
                have hf3 : Fr (Wsp c) g2 (w_i g2 (c + 3) r.length (nI j)) := Fr.wi _ _ ⟨by omega, by omega⟩
                have hF3 := hF2.tr hf3
                have hs3 : CSp (w_i g2 (c + 3) r.length (nI j)) c gs m so A0 (r ++ [j]) b' := by
                  obtain ⟨a1, a2, a3, a4, a5, a6, a7, a8⟩ := hs2
                  refine ⟨by rw [wi_ne _ _ (by omega)]; exact a1, fun i x hi => by rw [wi_ne _ _ (by omega)]; exact a2 i x hi, fun i hi => by rw [wi_ne _ _ (by omega)]; exact a3 i hi, fun i x hi => ?_, fun i hi => ?_, by rw [wi_ne _ _ (by omega)]; exact a6, a7, fun v hv => ⟨(a8 v hv).1, fun i x hi => ⟨by rw [wi_ne _ _ (by omega)]; exact ((a8 v hv).2 i x hi).1, ((a8 v hv).2 i x hi).2⟩⟩⟩
                  · by_cases hi2 : i < r.length
                    · rw [List.getElem?_append_left hi2] at hi
                      rw [wi_ne _ _ (by omega)]
                      exact a4 i x hi
                    · have hi3 : i = r.length := by
                        have := (List.getElem?_eq_some_iff.mp hi).1
                        rw [List.length_append] at this
                        have e1 : [j].length = 1 := rfl
                        omega
                      subst hi3
                      rw [List.getElem?_append_right (Nat.le_refl _), Nat.sub_self] at hi
                      cases hi
                      rw [wi_eq]
                  · rw [wi_ne _ _ (by omega), ecat]
                    rw [ecat] at hi
                    exact hw2 i hi
                have hrl : (r ++ [j]).length = r.length + 1 := by rw [List.length_append]; rfl
                have rc0 := sp_goOn (c := c) h4 A d (w_i g2 (c + 3) r.length (nI j)) (fun x h' => wpx (d + A.length + 4) P_Sp_goOn 145 [.ref c, .ref 2, .int (nI r.length), .int (nI (catG gs r).length), .long (pk (ls7 (catG gs r))), .retAddr 2, .int (nI j), .int (nI ((catG gs r).length + l.length)), .long (pk (ls7 (catG gs r ++ l))), .retAddr 2] (x.toList ++ []) h' Q) (r ++ [j]) b' (by rw [hrl]; exact hA1) (by rw [hrl]; omega) (hS.fr hF3) (hF3.ow hO) (hg.fr hF3 (fun a k q => by unfold Wsp at q; omega)) (hso.fr' hF3 (fun k q => by unfold Wsp at q; omega)) hs3 (fun k hk => by
                  rcases List.mem_append.mp hk with p | p
                  · exact hr k p
                  · rw [List.mem_singleton.mp p]; omega) (by rw [ecat]; omega) (fun eA => by
                  have e0 : alw gs m so A = 0 := by rw [eA]; rfl
                  rw [ecat, List.length_append]
                  omega) (by rw [ecat, hrl, List.length_append]; omega) (fun h' hs4 hf4 => by
                  refine B_Sp_goOn_145 ?_
                  rw [nI_1]
                  refine ih (j + 1) (spF gs m so A (r ++ [j]) b') h' _ _ _ (by omega) (by omega) (hF3.tr hf4) hs4.back (fun h2 hs5 hf5 => k h2 ?_ hf5)
                  show CSp h2 c gs m so A0 r (spJ gs m so (spF gs m so A) a r e (j + 1) (if inm m j ∧ so j = a then spF gs m so A (r ++ [j]) b' else b'))
                  rw [eif]
                  exact hs5)
                rw [hrl, ecat, List.length_append] at rc0
                exact rc0
        · exact B_Sp_goOn_65 (fun _ => nx g _ _ _ hs hf (if_neg (fun y => q y.1))) (fun z => absurd rfl z)
    exact loop gs.length 0 b h _ _ _ rfl (Nat.zero_le _) (Fr.rf _ _) hs k
