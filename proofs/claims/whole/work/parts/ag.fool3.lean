/-! fool on the class's side: the rest of a group covered; all pairs; the answer -/
theorem re_coverRest {d : Nat} {h : PH} {Q : PQ} {gs : List (List Nat)} {m c a b : Nat} {S : List Nat → Prop} {o : Option (List Nat)} (hR : ReS h c) (hG : GrS h 2) (hg : CGr h 2 gs m) (ha : a < gs.length) (hb : b < gs.length) (hab : (gs.getD a []).length < (gs.getD b []).length) (hS : lst S o) (hB : CBst h c o) (k : ∀ h' o', lst (fun w => S w ∨ tpS gs m (gs.getD b []) (gs.getD a []).length w) o' → CBst h' c o' → Fr (Wfo c) h h' → Q none h') : wpm (d + 4) 56 [.ref c, .ref 2, .int (nI a), .int (nI b)] h Q := by
  refine wpm_in P_Re_coverRest rfl (by decide) (by show ¬ 7 < 4; decide) ?_
  have h14 := hg.1.1
  obtain ⟨a1, a2, a3⟩ := hg.1.at (gS ha)
  obtain ⟨b1, b2, b3⟩ := hg.1.at (gS hb)
  have b7 := b1.2
  have c63 := hR.2.2.2.2.1
  have va : vp_in (nI a) 14 := vp_in_nI a3 (by omega)
  have vb : vp_in (nI b) 14 := vp_in_nI b3 (by omega)
  have ea := (hg.2.2.2 _ _ (gS ha)).2
  have eb := (hg.2.2.2 _ _ (gS hb)).2
  have cg : ∀ {g : PH}, Fr (Wfo c) h g → CGr g 2 gs m := fun hf => CGr.fr hf (fun x k z y => by unfold Wfo at z; omega) hg
  refine B_Re_coverRest_0 hG.1 hG.2.2.1.1 hG.2.2.1.2 vb hR.1 hR.2.2.2.1.1 hR.2.2.2.1.2 (ow_lower (c := 8) hR.2.2.2.1.2 (Nat.le_refl _) (by omega) (fun h1 z1 _ f1 => ?_))
  have F1 : Fr (Wfo c) h h1 := f1.up (fun x k z => by unfold Wfo; omega)
  have hR1 := hR.fr F1
  have hG1 := F1.gr hG
  rw [nI_clamp (by omega), eb]
  refine B_Re_coverRest_20 hR1.1 hR1.2.2.2.1.1 hG1.1 hG1.2.2.1.1 hG1.2.2.1.2 va hR1.2.2.2.1.2 (by rw [nI_clamp (by omega), ((cg F1).2.2.2 _ _ (gS ha)).2]; exact vp_in_nI (by omega) (by omega)) ?_
  rw [nI_clamp (by omega), ((cg F1).2.2.2 _ _ (gS ha)).2, nI_clamp (by omega), wi_ne _ _ (by omega), ((cg F1).2.2.2 _ _ (gS ha)).2, show ((1 : Int32) &&& 1) = 1 from rfl]
  have f2 : Fr (fun x k => x = c + 3 ∧ k = (gs.getD a []).length) h1 (w_i h1 (c + 3) (gs.getD a []).length 1) := Fr.wi h1 _ ⟨rfl, rfl⟩
  have cv0 : CCv (w_i h1 (c + 3) (gs.getD a []).length 1) c (fun q => decide (q = (gs.getD a []).length)) := fun q hq => by
    by_cases z : q = (gs.getD a []).length
    · rw [if_pos (decide_eq_true z), z]
      exact wi_eq _ _ _ _
    · rw [if_neg (fun y => z (of_decide_eq_true y)), wi_ne _ _ (by omega)]
      exact z1 q hq
  have F2 : Fr (Wfo c) h (w_i h1 (c + 3) (gs.getD a []).length 1) := F1.tr (f2.up (fun x k z => by unfold Wfo; omega))
  have B2 : CBst (w_i h1 (c + 3) (gs.getD a []).length 1) c o := CBst.fr f2 (fun x k z => by omega) (CBst.fr f1 (fun x k z => by omega) hB)
  generalize w_i h1 (c + 3) (gs.getD a []).length 1 = h2 at f2 cv0 F2 B2
  clear f2 f1 F1 hR1 hG1 z1
  -- one place
  have inner : ∀ (p : Nat), (gs.getD a []).length ≤ p → p < (gs.getD b []).length → ∀ (e j : Nat) (g : PH) (cf : Nat → Bool) (Sd : List Nat → Prop) (o : Option (List Nat)), gs.length - j = e → j ≤ gs.length → Fr (Wfo c) h g → CCv g c cf → cf p = true → CBst g c o → lst Sd o → (∀ w, (S w ∨ tpS gs m (gs.getD b []) (gs.getD a []).length w) ↔ (Sd w ∨ (∃ k', j ≤ k' ∧ k' < gs.length ∧ cpP gs m (gs.getD b []) p k' w) ∨ ∃ q, p < q ∧ q < (gs.getD b []).length ∧ cf q = true ∧ tpS gs m (gs.getD b []) q w)) → (∀ g cf Sd o x6, Fr (Wfo c) h g → CCv g c cf → CBst g c o → lst Sd o → (∀ w, (S w ∨ tpS gs m (gs.getD b []) (gs.getD a []).length w) ↔ (Sd w ∨ ∃ q, p < q ∧ q < (gs.getD b []).length ∧ cf q = true ∧ tpS gs m (gs.getD b []) q w)) → wpx (d + 3) P_Re_coverRest 94 [.ref c, .ref 2, .int (nI a), .int (nI b), .int (nI (gs.getD b []).length), .int (nI p), .int x6] [] g Q) → wpx (d + 3) P_Re_coverRest 50 [.ref c, .ref 2, .int (nI a), .int (nI b), .int (nI (gs.getD b []).length), .int (nI p), .int (nI j)] [] g Q := by
    intro p hp0 hp e
    induction e with
    | zero =>
      intro j g cf Sd o he hj hf hcv hcp hB hS hw kk
      refine B_Re_coverRest_50 (hf.gr hG).1 (fun _ => kk g cf Sd o _ hf hcv hB hS (fun w => (hw w).trans ⟨fun z => ?_, fun z => z.imp id Or.inr⟩)) (fun q => ?_)
      · rcases z with z | ⟨k', z1, z2, _⟩ | z
        · exact Or.inl z
        · omega
        · exact Or.inr z
      · rw [(cg hf).2.1, nI_leI (by omega) (by omega)] at q
        omega
    | succ e ih =>
      intro j g cf Sd o he hj hf hcv hcp hB hS hw kk
      have hR' := hR.fr hf
      have hG' := hf.gr hG
      have hg' := cg hf
      have vp : vp_in (nI p) 8 := vp_in_nI (by omega) (by omega)
      obtain ⟨j1, j2, j3⟩ := hg.1.at (gS (gs := gs) (k := j) (by omega))
      have j7 := j1.2
      -- this group gives nothing
      have no : (∀ w, ¬ cpP gs m (gs.getD b []) p j w) → wpx (d + 3) P_Re_coverRest 88 [.ref c, .ref 2, .int (nI a), .int (nI b), .int (nI (gs.getD b []).length), .int (nI p), .int (nI j)] [] g Q := fun hn => by
        refine B_Re_coverRest_88 ?_
        rw [nI_1]
        refine ih (j + 1) g cf Sd o (by omega) (by omega) hf hcv hcp hB hS (fun w => (hw w).trans ⟨fun z => ?_, fun z => ?_⟩) kk
        · rcases z with z | ⟨k', z1, z2, z3⟩ | z
          · exact Or.inl z
          · by_cases v : k' = j
            · rw [v] at z3
              exact absurd z3 (hn w)
            · exact Or.inr (Or.inl ⟨k', by omega, z2, z3⟩)
          · exact Or.inr (Or.inr z)
        · rcases z with z | ⟨k', z1, z2, z3⟩ | z
          · exact Or.inl z
          · exact Or.inr (Or.inl ⟨k', by omega, z2, z3⟩)
          · exact Or.inr (Or.inr z)
      refine B_Re_coverRest_50 hG'.1 (fun q => ?_) (fun _ => B_Re_coverRest_59 hR'.1 hR'.2.2.2.1.1 hR'.2.2.2.1.2 vp (fun q => ?_) (fun _ => B_Re_coverRest_69 hG'.1 (gr_isIn hG' hg' (by omega) (fun qi => B_Re_coverRest_75 (fun q => absurd q (by decide)) (fun _ => B_Re_coverRest_78 hR'.1 ?_)) (fun qi => B_Re_coverRest_75 (fun _ => no (fun w z => qi z.1)) (fun q => absurd rfl q)))))
      · rw [hg'.2.1, nI_leI (by omega) (by omega)] at q
        omega
      · rw [nI_clamp (by omega), hcv p (by omega), if_pos hcp] at q
        exact absurd q (by decide)
      refine re_coverWith hR' hG' hg' hb (by omega) hp hB (fun n0 n1 => no (fun w z => ?_)) (fun y1 y2 => B_Re_coverRest_88 ?_) (fun x g' ex B' f' => B_Re_coverRest_88 ?_)
      · rcases z.2 with ⟨x, z1, _⟩ | ⟨z1, z2, _⟩
        · exact n0 ⟨x, z1⟩
        · exact n1 ⟨z1, z2⟩
      · rw [nI_1]
        have f3 : Fr (fun x k => x = c + 3 ∧ k = p + (gs.getD j []).length) g (w_i g (c + 3) (p + (gs.getD j []).length) 1) := Fr.wi g _ ⟨rfl, rfl⟩
        refine ih (j + 1) _ (fun q => cf q || decide (q = p + (gs.getD j []).length)) Sd o (by omega) (by omega) (hf.tr (f3.up (fun x k z => by unfold Wfo; omega))) (fun q hq => ?_) (by rw [hcp]; rfl) (CBst.fr f3 (fun x k z => by omega) hB) hS (fun w => (hw w).trans ⟨fun z => ?_, fun z => ?_⟩) kk
        · show _ = if (cf q || decide (q = p + (gs.getD j []).length)) = true then (1 : Int32) else 0
          by_cases v : q = p + (gs.getD j []).length
          · rw [decide_eq_true v, Bool.or_true, if_pos rfl, v]
            exact wi_eq _ _ _ _
          · rw [wi_ne _ _ (by omega), hcv q hq, decide_eq_false v, Bool.or_false]
        · rcases z with z | ⟨k', z1, z2, z3⟩ | ⟨q, z1, z2, z3, z4⟩
          · exact Or.inl z
          · by_cases v : k' = j
            · rw [v] at z3
              refine Or.inr (Or.inr ⟨p + (gs.getD j []).length, by omega, y1, by rw [decide_eq_true rfl, Bool.or_true], ?_⟩)
              rcases z3.2 with ⟨x, u1, _⟩ | ⟨_, _, u3⟩
              · have := congrArg List.length u1
                rw [List.length_append, List.length_drop] at this
                omega
              · exact u3
            · exact Or.inr (Or.inl ⟨k', by omega, z2, z3⟩)
          · exact Or.inr (Or.inr ⟨q, z1, z2, by rw [z3]; rfl, z4⟩)
        · rcases z with z | ⟨k', z1, z2, z3⟩ | ⟨q, z1, z2, z3, z4⟩
          · exact Or.inl z
          · exact Or.inr (Or.inl ⟨k', by omega, z2, z3⟩)
          · by_cases v : q = p + (gs.getD j []).length
            · rw [v] at z4
              exact Or.inr (Or.inl ⟨j, Nat.le_refl _, by omega, qi, Or.inr ⟨y1, y2, z4⟩⟩)
            · rw [decide_eq_false v, Bool.or_false] at z3
              exact Or.inr (Or.inr ⟨q, z1, z2, z3, z4⟩)
      · rw [nI_1]
        refine ih (j + 1) g' cf (fun w => Sd w ∨ w = gs.getD b [] ++ x) _ (by omega) (by omega) (hf.tr (f'.up (fun x k z => by unfold Wfo; omega))) (fun q hq => (f'.i _ _ (by omega)).trans (hcv q hq)) hcp B' (lst_add hS) (fun w => (hw w).trans ⟨fun z => ?_, fun z => ?_⟩) kk
        · rcases z with z | ⟨k', z1, z2, z3⟩ | z
          · exact Or.inl (Or.inl z)
          · by_cases v : k' = j
            · rw [v] at z3
              rcases z3.2 with ⟨x', u1, u2⟩ | ⟨u1, _, _⟩
              · rw [ex] at u1
                rw [u2, ← List.append_cancel_left u1]
                exact Or.inl (Or.inr rfl)
              · have := congrArg List.length ex
                rw [List.length_append, List.length_drop] at this
                omega
            · exact Or.inr (Or.inl ⟨k', by omega, z2, z3⟩)
          · exact Or.inr (Or.inr z)
        · rcases z with (z | z) | ⟨k', z1, z2, z3⟩ | z
          · exact Or.inl z
          · exact Or.inr (Or.inl ⟨j, Nat.le_refl _, by omega, qi, Or.inl ⟨x, ex, z⟩⟩)
          · exact Or.inr (Or.inl ⟨k', by omega, z2, z3⟩)
          · exact Or.inr (Or.inr z)
  have outer : ∀ (e p : Nat) (g : PH) (cf : Nat → Bool) (Sd : List Nat → Prop) (o : Option (List Nat)) (v6 : Value), (gs.getD b []).length - p = e → p ≤ (gs.getD b []).length → (gs.getD a []).length ≤ p → Fr (Wfo c) h g → CCv g c cf → CBst g c o → lst Sd o → (∀ w, (S w ∨ tpS gs m (gs.getD b []) (gs.getD a []).length w) ↔ (Sd w ∨ ∃ q, p ≤ q ∧ q < (gs.getD b []).length ∧ cf q = true ∧ tpS gs m (gs.getD b []) q w)) → wpx (d + 3) P_Re_coverRest 40 [.ref c, .ref 2, .int (nI a), .int (nI b), .int (nI (gs.getD b []).length), .int (nI p), v6] [] g Q := by
    intro e
    induction e with
    | zero =>
      intro p g cf Sd o v6 he hp hp0 hf hcv hB hS hw
      refine B_Re_coverRest_40 (fun _ => B_Re_coverRest_100 (k g o (lst_up hS (fun w => ((hw w).trans ⟨fun z => ?_, Or.inl⟩).symm)) hB hf)) (fun q => ?_)
      · rcases z with z | ⟨q, z1, z2, _⟩
        · exact z
        · omega
      · rw [nI_leI (by omega) (by omega)] at q
        omega
    | succ e ih =>
      intro p g cf Sd o v6 he hp hp0 hf hcv hB hS hw
      have hR' := hR.fr hf
      have hG' := hf.gr hG
      have next : ∀ g cf Sd o x6, Fr (Wfo c) h g → CCv g c cf → CBst g c o → lst Sd o → (∀ w, (S w ∨ tpS gs m (gs.getD b []) (gs.getD a []).length w) ↔ (Sd w ∨ ∃ q, p < q ∧ q < (gs.getD b []).length ∧ cf q = true ∧ tpS gs m (gs.getD b []) q w)) → wpx (d + 3) P_Re_coverRest 94 [.ref c, .ref 2, .int (nI a), .int (nI b), .int (nI (gs.getD b []).length), .int (nI p), .int x6] [] g Q := fun g cf Sd o x6 f' c' b' s' w' => by
        refine B_Re_coverRest_94 ?_
        rw [nI_1]
        exact ih (p + 1) g cf Sd o _ (by omega) (by omega) (by omega) f' c' b' s' w'
      refine B_Re_coverRest_40 (fun q => ?_) (fun _ => B_Re_coverRest_47 ?_)
      · rw [nI_leI (by omega) (by omega)] at q
        omega
      by_cases y : cf p = true
      · refine inner p hp0 (by omega) gs.length 0 g cf Sd o rfl (Nat.zero_le _) hf hcv y hB hS (fun w => (hw w).trans ⟨fun z => ?_, fun z => ?_⟩) next
        · rcases z with z | ⟨q, z1, z2, z3, z4⟩
          · exact Or.inl z
          · by_cases v : q = p
            · rw [v] at z4
              obtain ⟨k', u1, u2⟩ := tp_un.mp z4
              exact Or.inr (Or.inl ⟨k', Nat.zero_le _, u1, u2⟩)
            · exact Or.inr (Or.inr ⟨q, by omega, z2, z3, z4⟩)
        · rcases z with z | ⟨k', u0, u1, u2⟩ | ⟨q, z1, z2, z3, z4⟩
          · exact Or.inl z
          · exact Or.inr ⟨p, Nat.le_refl _, by omega, y, tp_un.mpr ⟨k', u1, u2⟩⟩
          · exact Or.inr ⟨q, by omega, z2, z3, z4⟩
      · have out := next g cf Sd o 0 hf hcv hB hS (fun w => (hw w).trans ⟨fun z => ?_, fun z => ?_⟩)
        · refine B_Re_coverRest_50 hG'.1 (fun _ => out) (fun _ => B_Re_coverRest_59 hR'.1 hR'.2.2.2.1.1 hR'.2.2.2.1.2 (vp_in_nI (by omega) (by omega)) (fun _ => out) (fun q => ?_))
          rw [nI_clamp (by omega), hcv p (by omega), if_neg y] at q
          exact absurd rfl q
        · rcases z with z | ⟨q, z1, z2, z3, z4⟩
          · exact Or.inl z
          · by_cases v : q = p
            · rw [v] at z3
              exact absurd z3 y
            · exact Or.inr ⟨q, by omega, z2, z3, z4⟩
        · rcases z with z | ⟨q, z1, z2, z3, z4⟩
          · exact Or.inl z
          · exact Or.inr ⟨q, by omega, z2, z3, z4⟩
  refine outer ((gs.getD b []).length - (gs.getD a []).length) (gs.getD a []).length h2 _ S o _ rfl (by omega) (Nat.le_refl _) F2 cv0 B2 hS (fun w => ⟨fun z => z.imp id (fun y => ⟨_, Nat.le_refl _, hab, decide_eq_true rfl, y⟩), fun z => z.imp id (fun ⟨q, _, _, z3, z4⟩ => ?_)⟩)
  rw [of_decide_eq_true z3] at z4
  exact z4
