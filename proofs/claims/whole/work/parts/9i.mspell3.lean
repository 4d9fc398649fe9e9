/-! spell on the reference's side: what is asked, the answer -/
theorem askF_nil (S : Int32) : ∀ (X : List Int32) (i : Nat), 0 < i → askF S X [] i = none ∨ askF S X [] i = some []
  | [], i, _ => Or.inr rfl
  | x :: X, i, hi => by
    unfold askF
    by_cases q : x = (-1 : Int32)
    · rw [if_pos q]
      exact askF_nil S X (i + 1) (by omega)
    · rw [if_neg q, if_pos (Or.inl (show ([] : List Int32).length < i from hi))]
      exact Or.inl rfl
theorem m1_lt (S : Nat) (hS : S < 2 ^ 31) : ¬ nI S - (1 : Int32) < (-1 : Int32) := by
  cases S with
  | zero => decide
  | succ k =>
    rw [show nI (k + 1) - (1 : Int32) = nI k from nI_subN (b := 1) (by omega)]
    intro z
    have h1 := nI_pos (n := k) (by omega)
    rw [Int32.lt_iff_toInt_lt] at z h1
    have e1 : (-1 : Int32).toInt = -1 := by decide
    have e0 : (0 : Int32).toInt = 0 := by decide
    omega
theorem neg_m1 {x : Int32} (h : x < 0) (h1 : ¬ x < (-1 : Int32)) : x = -1 := by
  apply Int32.toInt_inj.mp
  rw [Int32.lt_iff_toInt_lt] at h h1
  have e1 : (-1 : Int32).toInt = -1 := by decide
  have e0 : (0 : Int32).toInt = 0 := by decide
  omega
theorem md_spell {d : Nat} {h : PH} {Q : PQ} {gs : List (List Nat)} {m S : Nat} {so : Nat → Int32} {x0 x1 x2 x3 : Int32} (hu : unlk gs) (hM : MdS h) (hg : MGr h gs m) (hso : MSo h gs.length so) (hs : h_i h 17 5 = nI S) (hS : S < 2 ^ 31) (k1 : spV gs m so (nI S) [x0, x1, x2, x3] = none → ∀ h', Fr Wsl h h' → Q (some (.int (-1))) h') (k2 : ∀ v, spV gs m so (nI S) [x0, x1, x2, x3] = some v → (catG gs v).length ≤ 28 → ∀ h', MWd h' (catG gs v) → Fr (fun c k => Wsl c k ∨ Wmd c k) h h' → Q (some (.int (nI (catG gs v).length))) h') : wpm (d + 5) 245 [.ref 17, .int x0, .int x1, .int x2, .int x3] h Q := by
  refine wpm_in P_Md_spell rfl (by decide) (by show ¬ 9 < 5; decide) (B_Md_spell_0 hM.1 (mr_told hM) (ms_told hM) (vp_in_nI (n := 0) (by omega) (by omega)) (vp_in_nI (n := 1) (by omega) (by omega)) (vp_in_nI (n := 2) (by omega) (by omega)) (vp_in_nI (n := 3) (by omega) (by omega)) ?_)
  have hf0 : Fr Wsl h (w_i (w_i (w_i (w_i (w_i h 17 0 0) 42 0 x0) 42 1 x1) 42 2 x2) 42 3 x3) := (Fr.wi h _ (by unfold Wsl; omega)).tr ((Fr.wi _ _ (by unfold Wsl; omega)).tr ((Fr.wi _ _ (by unfold Wsl; omega)).tr ((Fr.wi _ _ (by unfold Wsl; omega)).tr (Fr.wi _ _ (by unfold Wsl; omega)))))
  have hent : ∀ (t : Nat) (a : Int32), [x0, x1, x2, x3][t]? = some a → h_i (w_i (w_i (w_i (w_i (w_i h 17 0 0) 42 0 x0) 42 1 x1) 42 2 x2) 42 3 x3) 42 t = a := fun t a ht => by
    match t, ht with
    | 0, ht =>
      cases ht
      rw [wi_ne _ _ (by omega), wi_ne _ _ (by omega), wi_ne _ _ (by omega), wi_eq]
    | 1, ht =>
      cases ht
      rw [wi_ne _ _ (by omega), wi_ne _ _ (by omega), wi_eq]
    | 2, ht =>
      cases ht
      rw [wi_ne _ _ (by omega), wi_eq]
    | 3, ht =>
      cases ht
      rw [wi_eq]
    | t + 4, ht => cases ht
  generalize w_i (w_i (w_i (w_i (w_i h 17 0 0) 42 0 x0) 42 1 x1) 42 2 x2) 42 3 x3 = g at hf0 hent ⊢
  have hM0 := hf0.md hM
  have hg0 : MGr g gs m := hg.fr hf0 wsl_g
  have hso0 : MSo g gs.length so := hso.fr' hf0 (fun k q => by unfold Wsl at q; omega)
  have hs0 : h_i g 17 5 = nI S := (hf0.i _ _ (fun q => by unfold Wsl at q; omega)).trans hs
  have bad : ∀ (X : List Int32) (i : Nat) (y : Int32) (v8 : Value), [x0, x1, x2, x3].drop i = X → i + X.length = 4 → spA (nI S) [x0, x1, x2, x3] = none → wpx (d + 4) P_Md_spell 43 [.ref 17, .int x0, .int x1, .int x2, .int x3, .int y, .int 0, .int (nI i), v8] [] g Q := by
    intro X
    induction X with
    | nil =>
      intro i y v8 hX hi hn
      have hi' : i = 4 := hi
      refine B_Md_spell_43 (fun _ => B_Md_spell_131 (fun z => absurd rfl z) (fun _ => B_Md_spell_136 (k1 (by unfold spV; rw [hn]) g hf0))) (fun q => absurd ((nI_leI (a := 4) (by omega) (by omega)).mpr (by omega)) q)
    | cons x X ih =>
      intro i y v8 hX hi hn
      have hi' : i + (X.length + 1) = 4 := hi
      have hx : [x0, x1, x2, x3][i]? = some x := by
        have := List.getElem?_drop (xs := [x0, x1, x2, x3]) (i := i) (j := 0)
        rw [hX] at this
        exact this.symm
      have hX1 : [x0, x1, x2, x3].drop (i + 1) = X := by
        have := drop_atG hx
        rw [hX] at this
        exact (List.cons.inj this).2.symm
      have va : vp_in (nI i) 4 := vp_in_nI (by omega) (by omega)
      have nx : ∀ s1 : Int32, wpx (d + 4) P_Md_spell 102 [.ref 17, .int x0, .int x1, .int x2, .int x3, .int y, .int 0, .int (nI i), v8] [.int s1, .int 0] g Q := fun s1 => by
        refine B_Md_spell_102 hM0.1 (mr_told hM0) (ms_told hM0) va (fun _ => B_Md_spell_121 (B_Md_spell_122 ?_)) (fun _ => B_Md_spell_117 (B_Md_spell_122 ?_))
        · rw [Int32.zero_and, nI_1]
          exact ih (i + 1) _ v8 hX1 (by omega) hn
        · rw [Int32.zero_and, nI_1]
          exact ih (i + 1) _ v8 hX1 (by omega) hn
      have mid : ∀ lo : Int32, wpx (d + 4) P_Md_spell 68 [.ref 17, .int x0, .int x1, .int x2, .int x3, .int y, .int 0, .int (nI i), v8] [.int lo, .int (h_i g 42 (nI i).toNatClampNeg), .int 0] g Q := fun lo => by
        refine B_Md_spell_68 hM0.1 (md_in ?_)
        exact B_Md_spell_77 (fun _ => B_Md_spell_101 (nx 0)) (fun _ => B_Md_spell_80 hM0.1 (mr_told hM0) (ms_told hM0) va (fun _ => B_Md_spell_97 (nx 1)) (fun _ => B_Md_spell_90 (fun _ => B_Md_spell_101 (nx 0)) (fun _ => B_Md_spell_97 (nx 1))))
      refine B_Md_spell_43 (fun q => ?_) (fun _ => B_Md_spell_49 hM0.1 (mr_told hM0) (ms_told hM0) va (fun _ => B_Md_spell_67 (mid _)) (fun _ => B_Md_spell_63 (mid _)))
      have := (nI_leI (a := 4) (by omega) (by omega)).mp q
      omega
  have good : ∀ (X acc : List Int32) (i : Nat) (v8 : Value), [x0, x1, x2, x3].drop i = X → i + X.length = 4 → acc.length ≤ i → (0 < i → 0 < acc.length) → (∀ (t : Nat) (a : Int32), acc[t]? = some a → [x0, x1, x2, x3][t]? = some a) → askF (nI S) [x0, x1, x2, x3] [] 0 = askF (nI S) X acc i → wpx (d + 4) P_Md_spell 43 [.ref 17, .int x0, .int x1, .int x2, .int x3, .int (nI acc.length), .int 1, .int (nI i), v8] [] g Q := by
    intro X
    induction X with
    | nil =>
      intro acc i v8 hX hi hacc hpos hpre hF
      have hi' : i = 4 := hi
      have hp := hpos (by omega)
      obtain ⟨a, A, rfl⟩ : ∃ a A, acc = a :: A := by
        cases acc with
        | nil => exact absurd hp (by decide)
        | cons a A => exact ⟨a, A, rfl⟩
      have eA : spA (nI S) [x0, x1, x2, x3] = some (a :: A) := by
        unfold spA
        rw [hF]
        rfl
      have eV : spV gs m so (nI S) [x0, x1, x2, x3] = spF gs m so (a :: A) [] none := by
        unfold spV
        rw [eA]
      refine B_Md_spell_43 (fun _ => B_Md_spell_131 (fun _ => B_Md_spell_138 hM0.1 (mr_chosen hM0) (ms_chosen hM0) (vp_in_nI (n := 0) (by omega) (by omega)) ?_) (fun z => absurd z (by decide))) (fun q => absurd ((nI_leI (a := 4) (by omega) (by omega)).mpr (by omega)) q)
      have hf1 : Fr (fun c k => Wsl c k ∧ c ≠ 42) g (w_i (w_i g 17 47 (-1)) 43 0 (-1)) := (Fr.wi g _ ⟨by unfold Wsl; omega, by omega⟩).tr (Fr.wi _ _ ⟨by unfold Wsl; omega, by omega⟩)
      refine md_spLoop (A0 := a :: A) (by omega) hu A a d Q [] rfl (fun k hk => by cases hk) gs.length 0 none _ _ (by omega) (Nat.zero_le _) (hf1.md hM0) (hg0.fr hf1 (fun c k q => wsl_g c k q.1)) (hso0.fr' hf1 (fun k q => by have := q.1; unfold Wsl at this; omega)) (fun t x hx => (hf1.i _ _ (fun q => q.2 rfl)).trans (hent t x (hpre t x hx))) (fun i k hk => by cases hk) (by rw [show ([] : List Nat).length = 0 from rfl, wi_eq]; decide) ⟨fun _ => by rw [wi_ne _ _ (by omega), wi_eq], fun v hv => by cases hv⟩ (fun g2 v hf2 _ hb2 => ?_)
      have e3 : spJ gs m so (spF gs m so A) a [] (gs.length - 0) 0 none = spF gs m so (a :: A) [] none := rfl
      rw [e3, ← eV] at hb2
      have hF2 : Fr Wsl h g2 := hf0.tr ((hf1.tr hf2).up (fun c k q => q.1))
      have hM2 := hF2.md hM
      refine B_Md_spell_153 (fun _ => ?_) (fun q => absurd (by decide) q)
      cases hv : spV gs m so (nI S) [x0, x1, x2, x3] with
      | none =>
        rw [hv] at hb2
        refine B_Md_spell_271 hM2.1 (fun q => ?_) (fun _ => B_Md_spell_278 (k1 hv g2 hF2))
        rw [hb2.1 rfl] at q
        exact absurd q (by decide)
      | some w =>
        rw [hv] at hb2
        obtain ⟨b1, b2, b3⟩ := hb2.2 w rfl
        refine B_Md_spell_271 hM2.1 (fun _ => B_Md_spell_280 hM2.1 (mr_least hM2) ?_) (fun q => ?_)
        · rw [b1]
          have hlet : ∀ x ∈ catG gs w, 0 < x ∧ x < 28 := by
            intro x hx
            obtain ⟨k0, hk0, hxk⟩ := List.mem_flatMap.mp hx
            by_cases hkl : k0 < gs.length
            · have gk : gs[k0]? = some gs[k0] := List.getElem?_eq_getElem hkl
              have el : gs.getD k0 [] = gs[k0] := by rw [List.getD_eq_getElem?_getD, gk]; rfl
              rw [el] at hxk
              exact (hg.1.at gk).1.1 x hxk
            · rw [List.getD_eq_getElem?_getD, List.getElem?_eq_none (by omega)] at hxk
              cases hxk
          refine md_takesWord (f := 0) (d := d + 3) hM2 (ms_least hM2) (by omega) (by omega) (by omega) ⟨by omega, hlet⟩ (fun k x hk => by rw [Nat.zero_add]; exact b3 k x hk) (fun g3 hw3 hf3 => ?_)
          refine B_Md_spell_293 (hf3.md hM2).1 ?_
          rw [hw3.2.1]
          exact k2 w hv b2 g3 hw3 ((hF2.up (fun c k q => Or.inl q)).tr (hf3.up (fun c k q => Or.inr q)))
        · rw [b1] at q
          exact absurd (Int32.not_lt.mp (nI_pos (by omega))) q
    | cons x X ih =>
      intro acc i v8 hX hi hacc hpos hpre hF
      have hi' : i + (X.length + 1) = 4 := hi
      have hx : [x0, x1, x2, x3][i]? = some x := by
        have := List.getElem?_drop (xs := [x0, x1, x2, x3]) (i := i) (j := 0)
        rw [hX] at this
        exact this.symm
      have hX1 : [x0, x1, x2, x3].drop (i + 1) = X := by
        have := drop_atG hx
        rw [hX] at this
        exact (List.cons.inj this).2.symm
      have va : vp_in (nI i) 4 := vp_in_nI (by omega) (by omega)
      have ex : h_i g 42 (nI i).toNatClampNeg = x := by
        rw [nI_clamp (by omega)]
        exact hent i x hx
      have eF : askF (nI S) (x :: X) acc i = if x = (-1 : Int32) then askF (nI S) X acc (i + 1) else if acc.length < i ∨ x < 0 ∨ ¬ x < nI S then none else askF (nI S) X (acc ++ [x]) (i + 1) := rfl
      rw [eF] at hF
      -- the flag goes down
      have down : spA (nI S) [x0, x1, x2, x3] = none → wpx (d + 4) P_Md_spell 101 [.ref 17, .int x0, .int x1, .int x2, .int x3, .int (nI acc.length), .int 1, .int (nI i), v8] [.int 1] g Q := fun hn => by
        refine B_Md_spell_101 (B_Md_spell_102 hM0.1 (mr_told hM0) (ms_told hM0) va (fun _ => B_Md_spell_121 (B_Md_spell_122 ?_)) (fun _ => B_Md_spell_117 (B_Md_spell_122 ?_)))
        · rw [show (1 : Int32) &&& 0 = 0 from by decide, nI_1]
          exact bad X (i + 1) _ v8 hX1 (by omega) hn
        · rw [show (1 : Int32) &&& 0 = 0 from by decide, nI_1, nI_1]
          exact bad X (i + 1) _ v8 hX1 (by omega) hn
      -- and stays up
      have more : ¬ x < 0 → askF (nI S) [x0, x1, x2, x3] [] 0 = askF (nI S) X (acc ++ [x]) (i + 1) → acc.length = i → wpx (d + 4) P_Md_spell 97 [.ref 17, .int x0, .int x1, .int x2, .int x3, .int (nI acc.length), .int 1, .int (nI i), v8] [.int 1] g Q := fun hx0 hF2 ei => by
        refine B_Md_spell_97 (B_Md_spell_102 hM0.1 (mr_told hM0) (ms_told hM0) va (fun z => ?_) (fun _ => B_Md_spell_117 (B_Md_spell_122 ?_)))
        · rw [ex] at z
          exact absurd z hx0
        · rw [show (1 : Int32) &&& 1 = 1 from by decide, nI_1, nI_1]
          have hl : (acc ++ [x]).length = acc.length + 1 := by rw [List.length_append]; rfl
          have := ih (acc ++ [x]) (i + 1) v8 hX1 (by omega) (by omega) (fun _ => by omega) (fun t a ht => by
            by_cases ht2 : t < acc.length
            · rw [List.getElem?_append_left ht2] at ht
              exact hpre t a ht
            · have ht3 : t = acc.length := by
                have := (List.getElem?_eq_some_iff.mp ht).1
                omega
              subst ht3
              rw [List.getElem?_append_right (Nat.le_refl _), Nat.sub_self] at ht
              cases ht
              rw [ei]
              exact hx) hF2
          rw [hl] at this
          exact this
      have range : ¬ x < 0 → ¬ nI S ≤ x → wpx (d + 4) P_Md_spell 80 [.ref 17, .int x0, .int x1, .int x2, .int x3, .int (nI acc.length), .int 1, .int (nI i), v8] [.int 1] g Q := fun q0 q1 => by
        refine B_Md_spell_80 hM0.1 (mr_told hM0) (ms_told hM0) va (fun z => ?_) (fun _ => B_Md_spell_90 (fun z => ?_) (fun z => ?_))
        · rw [ex] at z
          exact absurd z q0
        · rw [nI_eq (by omega) (by omega)] at z
          refine down ?_
          unfold spA
          rw [hF, if_neg (fun y => q0 (by rw [y]; decide)), if_pos (Or.inl (by omega))]
        · rw [nI_eq (by omega) (by omega)] at z
          refine more q0 ?_ z
          rw [hF, if_neg (fun y => q0 (by rw [y]; decide)), if_neg]
          exact fun y => y.elim (fun y => by omega) (fun y => y.elim q0 (fun y => y (Int32.not_le.mp q1)))
      have over : ¬ x < 0 → nI S ≤ x → spA (nI S) [x0, x1, x2, x3] = none := fun q0 q1 => by
        unfold spA
        rw [hF, if_neg (fun y => q0 (by rw [y]; decide)), if_pos (Or.inr (Or.inr (Int32.not_lt.mpr q1)))]
      refine B_Md_spell_43 (fun q => ?_) (fun _ => B_Md_spell_49 hM0.1 (mr_told hM0) (ms_told hM0) va (fun z => ?_) (fun z => ?_))
      · have := (nI_leI (a := 4) (by omega) (by omega)).mp q
        omega
      · have i0 : 0 < i := by
          rcases Nat.eq_zero_or_pos i with y | y
          · exact absurd (by rw [y]; rfl) z
          · exact y
        refine B_Md_spell_67 (B_Md_spell_68 hM0.1 ?_)
        rw [ex, hs0]
        refine md_in ?_
        by_cases q0 : x < 0
        · by_cases qm : x = (-1 : Int32)
          · rw [if_neg (fun y => y.elim (fun y => by rw [qm] at y; exact absurd y (by decide)) (fun y => by rw [qm] at y; exact m1_lt S hS y))]
            rw [if_pos qm] at hF
            refine B_Md_spell_77 (fun y => absurd y (by decide)) (fun _ => B_Md_spell_80 hM0.1 (mr_told hM0) (ms_told hM0) va (fun _ => B_Md_spell_97 (B_Md_spell_102 hM0.1 (mr_told hM0) (ms_told hM0) va (fun _ => B_Md_spell_121 (B_Md_spell_122 ?_)) (fun y => ?_))) (fun y => ?_))
            · rw [show (1 : Int32) &&& 1 = 1 from by decide, nI_1, Int32.add_zero]
              exact ih acc (i + 1) v8 hX1 (by omega) (by omega) (fun _ => hpos i0) hpre hF
            · rw [ex] at y
              exact absurd q0 y
            · rw [ex] at y
              exact absurd q0 y
          · rw [if_pos (Or.inl (by
              refine Decidable.byContradiction (fun y => qm (neg_m1 q0 y))))]
            refine B_Md_spell_77 (fun _ => down ?_) (fun y => absurd rfl y)
            unfold spA
            rw [hF, if_neg qm, if_pos (Or.inr (Or.inl q0))]
        · by_cases q1 : nI S ≤ x
          · rw [if_pos (Or.inr (((in_pred hS).mpr (Or.inr q1)).resolve_left q0))]
            exact B_Md_spell_77 (fun _ => down (over q0 q1)) (fun y => absurd rfl y)
          · rw [if_neg (fun y => y.elim (fun y => q0 (by
              rw [Int32.lt_iff_toInt_lt] at y ⊢
              have e1 : (-1 : Int32).toInt = -1 := by decide
              have e0 : (0 : Int32).toInt = 0 := by decide
              omega)) (fun y => ((in_pred hS).mp (Or.inr y)).elim q0 q1))]
            exact B_Md_spell_77 (fun y => absurd y (by decide)) (fun _ => range q0 q1)
      · have i0 : i = 0 := (nI_eq (b := 0) (by omega) (by omega)).mp z
        have a0 : acc = [] := List.length_eq_zero_iff.mp (by omega)
        refine B_Md_spell_63 (B_Md_spell_68 hM0.1 ?_)
        rw [ex, hs0]
        refine md_in ?_
        by_cases q0 : x < 0
        · rw [if_pos (Or.inl q0)]
          refine B_Md_spell_77 (fun _ => down ?_) (fun y => absurd rfl y)
          unfold spA
          rw [hF]
          by_cases qm : x = (-1 : Int32)
          · rw [if_pos qm, a0]
            rcases askF_nil (nI S) X (i + 1) (by omega) with y | y <;> rw [y]
          · rw [if_neg qm, if_pos (Or.inr (Or.inl q0))]
        · by_cases q1 : nI S ≤ x
          · rw [if_pos (Or.inr (((in_pred hS).mpr (Or.inr q1)).resolve_left q0))]
            exact B_Md_spell_77 (fun _ => down (over q0 q1)) (fun y => absurd rfl y)
          · rw [if_neg (fun y => ((in_pred hS).mp y).elim q0 q1)]
            exact B_Md_spell_77 (fun y => absurd y (by decide)) (fun _ => range q0 q1)
  exact good [x0, x1, x2, x3] [] 0 _ rfl rfl (Nat.zero_le _) (fun h => absurd h (by decide)) (fun t a ht => by cases ht) rfl
