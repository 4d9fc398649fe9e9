/-! spell on the reference's side: all rows in their order, the answer -/
def Wsl (c k : Nat) : Prop := (c = 17 ∧ (k = 0 ∨ k = 38 ∨ k = 47)) ∨ c = 34 ∨ c = 36 ∨ c = 40 ∨ c = 42 ∨ c = 43
theorem wsl_g : ∀ c k, Wsl c k → ¬ ((c = 17 ∧ (k = 4 ∨ k = 6)) ∨ c = 18 ∨ c = 19) := fun c k q => by unfold Wsl at q; omega
theorem md_spLoop {gs : List (List Nat)} {m : Nat} {so : Nat → Int32} {A0 : List Int32} {x1 x2 x3 x4 x6 : Int32} (h4 : A0.length ≤ 4) (hu : unlk gs) : ∀ (A : List Int32) (a : Int32) (d : Nat) (Q : PQ) (r : List Nat), A0.drop r.length = a :: A → (∀ k ∈ r, k < gs.length) → ∀ (e j : Nat) (b : Option (List Nat)) (g : PH) (v8 : Value), gs.length - j ≤ e → j ≤ gs.length → MdS g → MGr g gs m → MSo g gs.length so → (∀ i a, A0[i]? = some a → h_i g 42 i = a) → (∀ i k, r[i]? = some k → h_i g 43 i = nI k) → h_i g 43 r.length = nI j - (1 : Int32) → MLs g gs b → (∀ (g' : PH) (v : Value), Fr (fun c k => (Wsl c k ∧ c ≠ 42)) g g' → (∀ i k, r[i]? = some k → h_i g' 43 i = nI k) → MLs g' gs (spJ gs m so (spF gs m so A) a r (gs.length - j) j b) → wpx (d + 4) P_Md_spell 153 [.ref 17, .int x1, .int x2, .int x3, .int x4, .int (nI A0.length), .int x6, .int (nI r.length - (1 : Int32)), v] [] g' Q) → wpx (d + 4) P_Md_spell 153 [.ref 17, .int x1, .int x2, .int x3, .int x4, .int (nI A0.length), .int x6, .int (nI r.length), v8] [] g Q := by
  intro A
  induction A with
  | nil =>
    intro a d Q r hA hr e
    have hlen : r.length + 1 = A0.length := by
      have := congrArg List.length hA
      rw [List.length_drop] at this
      have e1 : [a].length = 1 := rfl
      omega
    have hA0 : A0[r.length]? = some a := by
      have := List.getElem?_drop (xs := A0) (i := r.length) (j := 0)
      rw [hA] at this
      exact this.symm
    induction e with
    | zero =>
      intro j b g v8 he hj hM hg hso ht hc hcj hb K
      have ej : j = gs.length := by omega
      refine B_Md_spell_153 (fun q => absurd q (nI_pos (by omega))) (fun _ => B_Md_spell_158 hM.1 (mr_chosen hM) (ms_chosen hM) (vp_in_nI (by omega) (by omega)) ?_)
      rw [nI_clamp (by omega), hcj, Int32.sub_add_cancel]
      refine md_ofSound (d := d + 2) hM hg hso (by omega) (ht _ a hA0) hj ?_
      rw [show gs.length - j = 0 by omega, show osF m so a 0 j = none from rfl]
      refine B_Md_spell_179 (ms_chosen hM) (vp_in_nI (by omega) (by omega)) hM.1 (mr_chosen hM) (ms_chosen hM) (vp_in_nI (by omega) (by omega)) (fun q => ?_) (fun _ => B_Md_spell_190 ?_)
      · rw [nI_clamp (by omega), wi_eq] at q
        exact absurd q (by decide)
      · rw [nI_dn, nI_clamp (by omega)]
        refine K _ _ (Fr.wi _ _ ⟨Or.inr (Or.inr (Or.inr (Or.inr (Or.inr rfl)))), by decide⟩) (fun i k hi => ?_) ⟨fun z => ?_, fun v hv => ?_⟩
        · have := (List.getElem?_eq_some_iff.mp hi).1
          rw [wi_ne _ _ (by omega)]
          exact hc i k hi
        · rw [wi_ne _ _ (by omega)]
          rw [show gs.length - j = 0 by omega] at z
          exact hb.1 z
        · rw [show gs.length - j = 0 by omega] at hv
          obtain ⟨v1, v2, v3⟩ := hb.2 v hv
          exact ⟨by rw [wi_ne _ _ (by omega)]; exact v1, v2, fun k x hx => by rw [wi_ne _ _ (by omega)]; exact v3 k x hx⟩
    | succ e ihe =>
      intro j b g v8 he hj hM hg hso ht hc hcj hb K
      refine B_Md_spell_153 (fun q => absurd q (nI_pos (by omega))) (fun _ => B_Md_spell_158 hM.1 (mr_chosen hM) (ms_chosen hM) (vp_in_nI (by omega) (by omega)) ?_)
      rw [nI_clamp (by omega), hcj, Int32.sub_add_cancel]
      refine md_ofSound (d := d + 2) hM hg hso (by omega) (ht _ a hA0) hj ?_
      cases ho : osF m so a (gs.length - j) j with
      | none =>
        refine B_Md_spell_179 (ms_chosen hM) (vp_in_nI (by omega) (by omega)) hM.1 (mr_chosen hM) (ms_chosen hM) (vp_in_nI (by omega) (by omega)) (fun q => ?_) (fun _ => B_Md_spell_190 ?_)
        · rw [nI_clamp (by omega), wi_eq] at q
          exact absurd q (by decide)
        · rw [nI_dn, nI_clamp (by omega)]
          have es := osF_none (gs := gs) (F := spF gs m so []) (r := r) (b := b) _ _ ho
          refine K _ _ (Fr.wi _ _ ⟨Or.inr (Or.inr (Or.inr (Or.inr (Or.inr rfl)))), by decide⟩) (fun i k hi => ?_) ?_
          · have := (List.getElem?_eq_some_iff.mp hi).1
            rw [wi_ne _ _ (by omega)]
            exact hc i k hi
          · rw [es]
            exact ⟨fun z => by rw [wi_ne _ _ (by omega)]; exact hb.1 z, fun v hv => ⟨by rw [wi_ne _ _ (by omega)]; exact (hb.2 v hv).1, (hb.2 v hv).2.1, fun k x hx => by rw [wi_ne _ _ (by omega)]; exact (hb.2 v hv).2.2 k x hx⟩⟩
      | some i =>
        obtain ⟨o1, o2, o3, o4, o5⟩ := osF_some (gs := gs) (F := spF gs m so []) (r := r) (b := b) _ _ _ ho
        have hi14 := hg.1.1
        rw [o5, show j + (gs.length - j) - (i + 1) = gs.length - (i + 1) by omega] at K
        refine B_Md_spell_179 (ms_chosen hM) (vp_in_nI (by omega) (by omega)) hM.1 (mr_chosen hM) (ms_chosen hM) (vp_in_nI (by omega) (by omega)) (fun _ => B_Md_spell_196 (fun _ => ?_) (fun q => ?_)) (fun q => ?_)
        · rw [nI_clamp (by omega), show oI (some i) = nI i from rfl]
          have hf1 : Fr (fun c k => (Wsl c k ∧ c ≠ 42)) g (w_i g 43 r.length (nI i)) := Fr.wi _ _ ⟨Or.inr (Or.inr (Or.inr (Or.inr (Or.inr rfl)))), by decide⟩
          have hc1 : ∀ t k, (r ++ [i])[t]? = some k → h_i (w_i g 43 r.length (nI i)) 43 t = nI k ∧ k < gs.length := fun t k hk => by
            by_cases ht2 : t < r.length
            · rw [List.getElem?_append_left ht2] at hk
              rw [wi_ne _ _ (by omega)]
              exact ⟨hc t k hk, hr k (List.mem_of_getElem? hk)⟩
            · have ht3 : t = r.length := by
                have := (List.getElem?_eq_some_iff.mp hk).1
                rw [List.length_append] at this
                have e1 : [i].length = 1 := rfl
                omega
              subst ht3
              rw [List.getElem?_append_right (Nat.le_refl _), Nat.sub_self] at hk
              cases hk
              rw [wi_eq]
              exact ⟨rfl, by omega⟩
          have hb1 : MLs (w_i g 43 r.length (nI i)) gs b := ⟨fun z => by rw [wi_ne _ _ (by omega)]; exact hb.1 z, fun v hv => ⟨by rw [wi_ne _ _ (by omega)]; exact (hb.2 v hv).1, (hb.2 v hv).2.1, fun k x hx => by rw [wi_ne _ _ (by omega)]; exact (hb.2 v hv).2.2 k x hx⟩⟩
          generalize w_i g 43 r.length (nI i) = g1 at hf1 hc1 hb1 ⊢
          have hM1 := hf1.md hM
          have hg1 : MGr g1 gs m := hg.fr hf1 (fun c k q => wsl_g c k q.1)
          have hrl : (r ++ [i]).length = A0.length := by rw [List.length_append]; exact hlen
          refine B_Md_spell_219 hM1.1 ?_
          rw [← hrl]
          refine md_isSpelling (d := d) hu hM1 hg1 (by omega) hc1 hb1 (fun g2 ht2 h28 hf2 => ?_)
          rw [hrl]
          have hf2' : Fr (fun c k => (Wsl c k ∧ c ≠ 42)) g1 g2 := hf2.up (fun c k q => by unfold Wis Wtr at q; unfold Wsl; omega)
          have hF2 := hf1.tr hf2'
          have hM2 := hf2.md hM1
          have hc2 : ∀ t k, (r ++ [i])[t]? = some k → h_i g2 43 t = nI k := fun t k hk => (hf2.i _ _ (fun q => by unfold Wis Wtr at q; omega)).trans (hc1 t k hk).1
          have hb2 : MLs g2 gs b := ⟨fun z => (hf2.i _ _ (fun q => by unfold Wis Wtr at q; omega)).trans (hb1.1 z), fun v hv => ⟨(hf2.i _ _ (fun q => by unfold Wis Wtr at q; omega)).trans (hb1.2 v hv).1, (hb1.2 v hv).2.1, fun k x hx => (hf2.i _ _ (fun q => by unfold Wis Wtr at q; omega)).trans ((hb1.2 v hv).2.2 k x hx)⟩⟩
          have eF : spF gs m so [] (r ++ [i]) b = if btr gs (catG gs (r ++ [i])).length b = true ∧ rdc gs m (catG gs (r ++ [i])) = 1 then some (r ++ [i]) else b := rfl
          have go : ∀ (g3 : PH) (b3 : Option (List Nat)) (v : Value), Fr (fun c k => (Wsl c k ∧ c ≠ 42)) g2 g3 → (∀ t k, (r ++ [i])[t]? = some k → h_i g3 43 t = nI k) → MLs g3 gs b3 → spF gs m so [] (r ++ [i]) b = b3 → wpx (d + 4) P_Md_spell 153 [.ref 17, .int x1, .int x2, .int x3, .int x4, .int (nI A0.length), .int x6, .int (nI r.length), v] [] g3 Q := fun g3 b3 v hf3 hc3 hb3 e3 => by
            have hF3 := hF2.tr hf3
            rw [e3] at K
            refine ihe (i + 1) b3 g3 v (by omega) (by omega) (hF3.md hM) (hg.fr hF3 (fun c k q => wsl_g c k q.1)) (hso.fr' hF3 (fun k q => by have := q.1; unfold Wsl at this; omega)) (fun t x hx => (hF3.i _ _ (fun q => q.2 rfl)).trans (ht t x hx)) (fun t k hk => hc3 t k (by rw [List.getElem?_append_left ((List.getElem?_eq_some_iff.mp hk).1)]; exact hk)) ?_ hb3 (fun g4 v4 hf4 hc4 hb4 => K g4 v4 (hF3.tr hf4) hc4 hb4)
            rw [hc3 r.length i (by rw [List.getElem?_append_right (Nat.le_refl _), Nat.sub_self]; rfl)]
            exact (nI_subN (a := i + 1) (b := 1) (by omega)).symm
          by_cases qb : btr gs (catG gs (r ++ [i])).length b = true ∧ rdc gs m (catG gs (r ++ [i])) = 1
          · rw [if_pos qb] at eF ⊢
            refine B_Md_spell_225 (fun z => absurd z (by decide)) (fun _ => B_Md_spell_228 ?_)
            have copy : ∀ (e2 t : Nat) (g3 : PH), (catG gs (r ++ [i])).length - t = e2 → t ≤ (catG gs (r ++ [i])).length → Fr (fun c _ => c = 40) g2 g3 → (∀ k x, k < t → (catG gs (r ++ [i]))[k]? = some x → h_i g3 40 k = nI (x + 96)) → wpx (d + 4) P_Md_spell 231 [.ref 17, .int x1, .int x2, .int x3, .int x4, .int (nI A0.length), .int x6, .int (nI r.length), .int (nI t)] [] g3 Q := by
              intro e2
              induction e2 with
              | zero =>
                intro t g3 he2 ht3 hf3 hl3
                have hM3 := hf3.md hM2
                have ht3' : MTr g3 (catG gs (r ++ [i])) := ht2.fr hf3 (fun c k q z => by unfold Wtr at z; omega)
                refine B_Md_spell_231 hM3.1 (fun _ => B_Md_spell_260 hM3.1 ?_) (fun q => ?_)
                · rw [ht3'.2.1]
                  refine go _ (some (r ++ [i])) _ ((hf3.up (fun c k q => ⟨Or.inr (Or.inr (Or.inr (Or.inl q))), by omega⟩)).tr (Fr.wi _ _ ⟨Or.inl ⟨rfl, Or.inr (Or.inr rfl)⟩, by decide⟩)) (fun t k hk => by rw [wi_ne _ _ (by omega), hf3.i _ _ (by omega)]; exact hc2 t k hk) ⟨fun z => (by cases z), fun v hv => ?_⟩ eF
                  have ev : r ++ [i] = v := Option.some.inj hv
                  rw [← ev]
                  exact ⟨wi_eq _ _ _ _, h28, fun k x hx => by rw [wi_ne _ _ (by omega)]; exact hl3 k x (by have := (List.getElem?_eq_some_iff.mp hx).1; omega) hx⟩
                · rw [ht3'.2.1, nI_leI (by omega) (by omega)] at q
                  omega
              | succ e2 ih2 =>
                intro t g3 he2 ht3 hf3 hl3
                have hM3 := hf3.md hM2
                have ht3' : MTr g3 (catG gs (r ++ [i])) := ht2.fr hf3 (fun c k q z => by unfold Wtr at z; omega)
                have gx : (catG gs (r ++ [i]))[t]? = some (catG gs (r ++ [i]))[t] := List.getElem?_eq_getElem (by omega)
                generalize (catG gs (r ++ [i]))[t] = x at gx
                refine B_Md_spell_231 hM3.1 (fun q => ?_) (fun _ => B_Md_spell_240 hM3.1 (mr_least hM3) (mr_trial hM3) (ms_trial hM3) (vp_in_nI (by omega) (by omega)) (ms_least hM3) (vp_in_nI (by omega) (by omega)) ?_)
                · rw [ht3'.2.1, nI_leI (by omega) (by omega)] at q
                  omega
                · rw [nI_1, nI_clamp (by omega), ht3'.2.2 t x gx]
                  refine ih2 (t + 1) _ (by omega) (by omega) (hf3.tr (Fr.wi _ _ rfl)) (fun k y hk hy => ?_)
                  by_cases z : k = t
                  · subst z
                    rw [wi_eq]
                    rw [gx] at hy
                    cases hy
                    rfl
                  · rw [wi_ne _ _ (by omega)]
                    exact hl3 k y (by omega) hy
            exact copy _ 0 g2 rfl (Nat.zero_le _) (Fr.rf _ _) (fun k x hk => absurd hk (by omega))
          · rw [if_neg qb] at eF ⊢
            exact B_Md_spell_225 (fun _ => go g2 b _ (Fr.rf _ _) hc2 hb2 eF) (fun z => absurd rfl z)
        · have e1 : nI A0.length - (1 : Int32) = nI (A0.length - 1) := nI_subN (b := 1) (by omega)
          rw [e1, nI_leI (by omega) (by omega)] at q
          omega
        · rw [nI_clamp (by omega), wi_eq] at q
          exact absurd (Int32.not_lt.mp (nI_pos (n := i) (by omega))) q
  | cons a' A ihA =>
    intro a d Q r hA hr e
    have hlen : r.length + A.length + 2 = A0.length := by
      have := congrArg List.length hA
      rw [List.length_drop] at this
      have e1 : (a :: a' :: A).length = A.length + 2 := rfl
      omega
    have hA0 : A0[r.length]? = some a := by
      have := List.getElem?_drop (xs := A0) (i := r.length) (j := 0)
      rw [hA] at this
      exact this.symm
    have hA1 : A0.drop (r.length + 1) = a' :: A := by
      have := drop_atG hA0
      rw [hA] at this
      exact (List.cons.inj this).2.symm
    induction e with
    | zero =>
      intro j b g v8 he hj hM hg hso ht hc hcj hb K
      have ej : j = gs.length := by omega
      refine B_Md_spell_153 (fun q => absurd q (nI_pos (by omega))) (fun _ => B_Md_spell_158 hM.1 (mr_chosen hM) (ms_chosen hM) (vp_in_nI (by omega) (by omega)) ?_)
      rw [nI_clamp (by omega), hcj, Int32.sub_add_cancel]
      refine md_ofSound (d := d + 2) hM hg hso (by omega) (ht _ a hA0) hj ?_
      rw [show gs.length - j = 0 by omega, show osF m so a 0 j = none from rfl]
      refine B_Md_spell_179 (ms_chosen hM) (vp_in_nI (by omega) (by omega)) hM.1 (mr_chosen hM) (ms_chosen hM) (vp_in_nI (by omega) (by omega)) (fun q => ?_) (fun _ => B_Md_spell_190 ?_)
      · rw [nI_clamp (by omega), wi_eq] at q
        exact absurd q (by decide)
      · rw [nI_dn, nI_clamp (by omega)]
        refine K _ _ (Fr.wi _ _ ⟨Or.inr (Or.inr (Or.inr (Or.inr (Or.inr rfl)))), by decide⟩) (fun i k hi => ?_) ⟨fun z => ?_, fun v hv => ?_⟩
        · have := (List.getElem?_eq_some_iff.mp hi).1
          rw [wi_ne _ _ (by omega)]
          exact hc i k hi
        · rw [wi_ne _ _ (by omega)]
          rw [show gs.length - j = 0 by omega] at z
          exact hb.1 z
        · rw [show gs.length - j = 0 by omega] at hv
          obtain ⟨v1, v2, v3⟩ := hb.2 v hv
          exact ⟨by rw [wi_ne _ _ (by omega)]; exact v1, v2, fun k x hx => by rw [wi_ne _ _ (by omega)]; exact v3 k x hx⟩
    | succ e ihe =>
      intro j b g v8 he hj hM hg hso ht hc hcj hb K
      refine B_Md_spell_153 (fun q => absurd q (nI_pos (by omega))) (fun _ => B_Md_spell_158 hM.1 (mr_chosen hM) (ms_chosen hM) (vp_in_nI (by omega) (by omega)) ?_)
      rw [nI_clamp (by omega), hcj, Int32.sub_add_cancel]
      refine md_ofSound (d := d + 2) hM hg hso (by omega) (ht _ a hA0) hj ?_
      cases ho : osF m so a (gs.length - j) j with
      | none =>
        refine B_Md_spell_179 (ms_chosen hM) (vp_in_nI (by omega) (by omega)) hM.1 (mr_chosen hM) (ms_chosen hM) (vp_in_nI (by omega) (by omega)) (fun q => ?_) (fun _ => B_Md_spell_190 ?_)
        · rw [nI_clamp (by omega), wi_eq] at q
          exact absurd q (by decide)
        · rw [nI_dn, nI_clamp (by omega)]
          have es := osF_none (gs := gs) (F := spF gs m so (a' :: A)) (r := r) (b := b) _ _ ho
          refine K _ _ (Fr.wi _ _ ⟨Or.inr (Or.inr (Or.inr (Or.inr (Or.inr rfl)))), by decide⟩) (fun i k hi => ?_) ?_
          · have := (List.getElem?_eq_some_iff.mp hi).1
            rw [wi_ne _ _ (by omega)]
            exact hc i k hi
          · rw [es]
            exact ⟨fun z => by rw [wi_ne _ _ (by omega)]; exact hb.1 z, fun v hv => ⟨by rw [wi_ne _ _ (by omega)]; exact (hb.2 v hv).1, (hb.2 v hv).2.1, fun k x hx => by rw [wi_ne _ _ (by omega)]; exact (hb.2 v hv).2.2 k x hx⟩⟩
      | some i =>
        obtain ⟨o1, o2, o3, o4, o5⟩ := osF_some (gs := gs) (F := spF gs m so (a' :: A)) (r := r) (b := b) _ _ _ ho
        have hi14 := hg.1.1
        rw [o5, show j + (gs.length - j) - (i + 1) = gs.length - (i + 1) by omega] at K
        refine B_Md_spell_179 (ms_chosen hM) (vp_in_nI (by omega) (by omega)) hM.1 (mr_chosen hM) (ms_chosen hM) (vp_in_nI (by omega) (by omega)) (fun _ => B_Md_spell_196 (fun q => ?_) (fun _ => ?_)) (fun q => ?_)
        · have e1 : nI A0.length - (1 : Int32) = nI (A0.length - 1) := nI_subN (b := 1) (by omega)
          rw [e1, nI_leI (by omega) (by omega)] at q
          omega
        · refine B_Md_spell_205 hM.1 (mr_chosen hM) (ms_chosen hM) (by rw [nI_1]; exact vp_in_nI (by omega) (by omega)) ?_
          rw [nI_1, nI_clamp (by omega), nI_clamp (by omega), show oI (some i) = nI i from rfl]
          have hf1 : Fr (fun c k => (Wsl c k ∧ c ≠ 42)) g (w_i (w_i g 43 r.length (nI i)) 43 (r.length + 1) (-1)) := (Fr.wi _ _ ⟨Or.inr (Or.inr (Or.inr (Or.inr (Or.inr rfl)))), by decide⟩).tr (Fr.wi _ _ ⟨Or.inr (Or.inr (Or.inr (Or.inr (Or.inr rfl)))), by decide⟩)
          have hrl : (r ++ [i]).length = r.length + 1 := by rw [List.length_append]; rfl
          have hc1 : ∀ t k, (r ++ [i])[t]? = some k → h_i (w_i (w_i g 43 r.length (nI i)) 43 (r.length + 1) (-1)) 43 t = nI k := fun t k hk => by
            have htl := (List.getElem?_eq_some_iff.mp hk).1
            rw [hrl] at htl
            rw [wi_ne _ _ (by omega)]
            by_cases ht2 : t < r.length
            · rw [List.getElem?_append_left ht2] at hk
              rw [wi_ne _ _ (by omega)]
              exact hc t k hk
            · have ht3 : t = r.length := by omega
              subst ht3
              rw [List.getElem?_append_right (Nat.le_refl _), Nat.sub_self] at hk
              cases hk
              rw [wi_eq]
          have hb1 : MLs (w_i (w_i g 43 r.length (nI i)) 43 (r.length + 1) (-1)) gs b := ⟨fun z => by rw [wi_ne _ _ (by omega), wi_ne _ _ (by omega)]; exact hb.1 z, fun v hv => ⟨by rw [wi_ne _ _ (by omega), wi_ne _ _ (by omega)]; exact (hb.2 v hv).1, (hb.2 v hv).2.1, fun k x hx => by rw [wi_ne _ _ (by omega), wi_ne _ _ (by omega)]; exact (hb.2 v hv).2.2 k x hx⟩⟩
          have hcx : h_i (w_i (w_i g 43 r.length (nI i)) 43 (r.length + 1) (-1)) 43 (r.length + 1) = nI 0 - (1 : Int32) := by
            rw [wi_eq]
            decide
          generalize w_i (w_i g 43 r.length (nI i)) 43 (r.length + 1) (-1) = g1 at hf1 hc1 hb1 hcx ⊢
          have key := ihA a' d Q (r ++ [i]) (by rw [hrl]; exact hA1) (fun k hk => by
            rcases List.mem_append.mp hk with p | p
            · exact hr k p
            · rw [List.mem_singleton.mp p]; omega) gs.length 0 b g1 v8 (by omega) (Nat.zero_le _) (hf1.md hM) (hg.fr hf1 (fun c k q => wsl_g c k q.1)) (hso.fr' hf1 (fun k q => by have := q.1; unfold Wsl at this; omega)) (fun t x hx => (hf1.i _ _ (fun q => q.2 rfl)).trans (ht t x hx)) hc1 (by rw [hrl]; exact hcx) hb1 (fun g3 v3 hf3 hc3 hb3 => by
            have hF3 := hf1.tr hf3
            have e3 : spJ gs m so (spF gs m so A) a' (r ++ [i]) (gs.length - 0) 0 b = spF gs m so (a' :: A) (r ++ [i]) b := rfl
            rw [e3] at hb3
            rw [hrl, show nI (r.length + 1) - (1 : Int32) = nI r.length from nI_subN (b := 1) (by omega)]
            refine ihe (i + 1) _ g3 v3 (by omega) (by omega) (hF3.md hM) (hg.fr hF3 (fun c k q => wsl_g c k q.1)) (hso.fr' hF3 (fun k q => by have := q.1; unfold Wsl at this; omega)) (fun t x hx => (hF3.i _ _ (fun q => q.2 rfl)).trans (ht t x hx)) (fun t k hk => hc3 t k (by rw [List.getElem?_append_left ((List.getElem?_eq_some_iff.mp hk).1)]; exact hk)) ?_ hb3 (fun g4 v4 hf4 hc4 hb4 => K g4 v4 (hF3.tr hf4) hc4 hb4)
            rw [hc3 r.length i (by rw [List.getElem?_append_right (Nat.le_refl _), Nat.sub_self]; rfl)]
            exact (nI_subN (a := i + 1) (b := 1) (by omega)).symm)
          rw [hrl] at key
          exact key
        · rw [nI_clamp (by omega), wi_eq] at q
          exact absurd (Int32.not_lt.mp (nI_pos (n := i) (by omega))) q
