/-! tails on the class's side: doubt, and all rounds -/
def sdK (gs : List (List Nat)) (m : Nat) (t : List Nat × Nat) : Nat → Nat → Option Nat
  | 0, _ => none
  | e + 1, k => if inm m k ∧ gs.getD k [] = t.1 then some (t.2 ||| 2 ^ k) else sdK gs m t e (k + 1)
def sdT (gs : List (List Nat)) (m : Nat) : TL → Option Nat
  | [] => none
  | t :: B => match sdK gs m t gs.length 0 with
    | some x => some x
    | none => sdT gs m B
theorem ta_seek {d : Nat} {h : PH} {Q : PQ} {b o r : Nat} {A B : TL} {gs : List (List Nat)} {m : Nat} (hT : TaS h b) (hG : GrS h o) (hg : CGr h o gs m) (hc : CTa h b (A ++ B)) (hr : r < 100) (hst : h_i h (b + 4) r = nI A.length) (kn : sdT gs m B = none → Q none h) (ks : ∀ x, sdT gs m B = some x → Q none (w_i (w_i h b 6 (nI r)) b 7 (nI x))) : wpm (d + 3) 75 [.ref b, .ref o, .int (nI r)] h Q := by
  refine wpm_in P_Ta_seekDoubt rfl (by decide) (by show ¬ 5 < 3; decide) ?_
  have h14 := hg.1.1
  have h98 := hc.1.1
  rw [List.length_append] at h98
  have vr : vp_in (nI r) 100 := vp_in_nI hr (by omega)
  refine B_Ta_seekDoubt_0 hT.1 hT.2.2.2.2.1.1 hT.2.2.2.2.1.2 vr ?_
  rw [nI_clamp (by omega), hst]
  have inner : ∀ (i : Nat) (t : List Nat × Nat), (A ++ B)[i]? = some t → ∀ (e j : Nat), gs.length - j = e → j ≤ gs.length → (sdK gs m t e j = none → wpx (d + 2) P_Ta_seekDoubt 80 [.ref b, .ref o, .int (nI r), .int (nI i), .int (nI gs.length)] [] h Q) → (∀ x, sdK gs m t e j = some x → Q none (w_i (w_i h b 6 (nI r)) b 7 (nI x))) → wpx (d + 2) P_Ta_seekDoubt 18 [.ref b, .ref o, .int (nI r), .int (nI i), .int (nI j)] [] h Q := by
    intro i t ht e
    obtain ⟨t1, t2, t3, t4⟩ := hc.1.at ht
    obtain ⟨x1, x2, x3⟩ := hc.2.2 i t ht
    induction e with
    | zero =>
      intro j he hj k1 k2
      have ej : j = gs.length := by omega
      subst ej
      refine B_Ta_seekDoubt_18 hG.1 (fun _ => k1 rfl) (fun z => ?_)
      rw [hg.2.1, nI_leI (by omega) (by omega)] at z
      omega
    | succ e ih =>
      intro j he hj k1 k2
      have gj : gs[j]? = some gs[j] := List.getElem?_eq_getElem (by omega)
      generalize gs[j] = lj at gj
      have el : gs.getD j [] = lj := by rw [List.getD_eq_getElem?_getD, gj]; rfl
      obtain ⟨b1, b2, b3⟩ := hg.1.at gj
      have vi : vp_in (nI i) 98 := vp_in_nI t4 (by omega)
      have vj : vp_in (nI j) 14 := vp_in_nI b3 (by omega)
      have no : ¬ (inm m j ∧ gs.getD j [] = t.1) → wpx (d + 2) P_Ta_seekDoubt 74 [.ref b, .ref o, .int (nI r), .int (nI i), .int (nI j)] [] h Q := fun z => by
        refine B_Ta_seekDoubt_74 ?_
        rw [nI_1]
        have es : sdK gs m t (e + 1) j = sdK gs m t e (j + 1) := if_neg z
        rw [es] at k1 k2
        exact ih (j + 1) (by omega) (by omega) k1 k2
      have eL : lg_cmp (h_l h (o + 1) (nI j).toNatClampNeg) (h_l h (b + 1) (nI i).toNatClampNeg) = 0 ↔ lj = t.1 := by
        rw [nI_clamp (by omega), nI_clamp (by omega), (hg.2.2.2 j lj gj).1, x1, lg_cmp0, pk_inj b1 t1]
      refine B_Ta_seekDoubt_18 hG.1 (fun z => ?_) (fun _ => B_Ta_seekDoubt_27 hG.1 (gr_isIn hG hg (by omega) (fun q => B_Ta_seekDoubt_33 (fun z => absurd z (by decide)) (fun _ => B_Ta_seekDoubt_36 hG.1 hG.2.1.1 hG.2.1.2 vj hT.1 hT.2.1.1 hT.2.1.2 vi (fun z => no (fun y => z (eL.mpr (by rw [← el]; exact y.2)))) (fun z => B_Ta_seekDoubt_53 hT.1 hT.2.2.2.1.1 hT.2.2.2.1.2 vi ?_))) (fun q => B_Ta_seekDoubt_33 (fun _ => no (fun y => q y.1)) (fun z => absurd rfl z))))
      · rw [hg.2.1, nI_leI (by omega) (by omega)] at z
        omega
      · have yes : inm m j ∧ gs.getD j [] = t.1 := ⟨q, by rw [el]; exact eL.mp z⟩
        have e3 : h_i (w_i h b 6 (nI r)) (b + 3) (nI i).toNatClampNeg = nI t.2 := by
          rw [wi_ne _ _ (by omega), nI_clamp (by omega)]
          exact x3
        rw [e3, sh1k _ (by omega), nI_orN (by omega) (by have := p14 b3; omega)]
        exact k2 _ (if_pos yes)
  have outer : ∀ (R L : TL) (v4 : Value), L ++ R = B → (sdT gs m R = none → Q none h) → (∀ x, sdT gs m R = some x → Q none (w_i (w_i h b 6 (nI r)) b 7 (nI x))) → wpx (d + 2) P_Ta_seekDoubt 7 [.ref b, .ref o, .int (nI r), .int (nI (A.length + L.length)), v4] [] h Q := by
    intro R
    induction R with
    | nil =>
      intro L v4 e k1 k2
      rw [List.append_nil] at e
      subst e
      refine B_Ta_seekDoubt_7 hT.1 (fun _ => B_Ta_seekDoubt_86 (k1 rfl)) (fun z => ?_)
      rw [hc.2.1, List.length_append, nI_leI (by omega) (by omega)] at z
      omega
    | cons t R ih =>
      intro L v4 e k1 k2
      have hlen : L.length + (R.length + 1) = B.length := by
        rw [← e, List.length_append]
        rfl
      have ht : (A ++ B)[A.length + L.length]? = some t := by
        rw [← e, ← List.append_assoc]
        have := mdlL (C := A ++ L) (T := R) (x := t)
        rw [List.length_append] at this
        exact this
      refine B_Ta_seekDoubt_7 hT.1 (fun z => ?_) (fun _ => B_Ta_seekDoubt_15 (inner _ t ht gs.length 0 rfl (Nat.zero_le _) (fun z => B_Ta_seekDoubt_80 ?_) (fun x z => k2 x ?_)))
      · rw [hc.2.1, List.length_append, nI_leI (by omega) (by omega)] at z
        omega
      · rw [nI_1]
        have es : sdT gs m (t :: R) = sdT gs m R := by
          show (match sdK gs m t gs.length 0 with | some x => some x | none => sdT gs m R) = _
          rw [z]
        rw [es] at k1 k2
        have := ih (L ++ [t]) (.int (nI gs.length)) (by rw [List.append_assoc]; exact e) k1 k2
        rw [List.length_append] at this
        exact this
      · show (match sdK gs m t gs.length 0 with | some x => some x | none => sdT gs m R) = _
        rw [z]
  exact outer B [] _ (List.nil_append _) kn ks
theorem tadd_pre (ts : TL) (r : List Nat) (mk : Nat) : ∃ N, tadd ts r mk = ts ++ N := by
  unfold tadd
  by_cases z : r = [] ∨ 98 ≤ ts.length ∨ r ∈ ts.map Prod.fst
  · exact ⟨[], by rw [if_pos z, List.append_nil]⟩
  · exact ⟨[(r, mk)], by rw [if_neg z]⟩
theorem nxG_pre (gs : List (List Nat)) (m : Nat) (u : List Nat × Nat) (k : Nat) (ts : TL) : ∃ N, nxG gs m u k ts = ts ++ N := by
  unfold nxG
  by_cases z : inm m k
  · rw [if_pos z]
    by_cases y : u.1 = (gs.getD k []).take u.1.length
    · rw [if_pos y]
      exact tadd_pre _ _ _
    · rw [if_neg y]
      by_cases x : gs.getD k [] = u.1.take (gs.getD k []).length
      · rw [if_pos x]
        exact tadd_pre _ _ _
      · rw [if_neg x]
        exact ⟨[], (List.append_nil _).symm⟩
  · rw [if_neg z]
    exact ⟨[], (List.append_nil _).symm⟩
theorem nxK_pre (gs : List (List Nat)) (m : Nat) (u : List Nat × Nat) : ∀ (e k : Nat) (ts : TL), ∃ N, nxK gs m u e k ts = ts ++ N
  | 0, _, ts => ⟨[], (List.append_nil _).symm⟩
  | e + 1, k, ts => by
    obtain ⟨N1, h1⟩ := nxG_pre gs m u k ts
    obtain ⟨N2, h2⟩ := nxK_pre gs m u e (k + 1) (nxG gs m u k ts)
    exact ⟨N1 ++ N2, by show nxK gs m u e (k + 1) (nxG gs m u k ts) = _; rw [h2, h1, List.append_assoc]⟩
theorem nxT_pre (gs : List (List Nat)) (m : Nat) : ∀ (e k : Nat) (ts : TL), ∃ N, nxT gs m e k ts = ts ++ N
  | 0, _, ts => ⟨[], (List.append_nil _).symm⟩
  | e + 1, k, ts => by
    obtain ⟨N1, h1⟩ := nxK_pre gs m (ts.getD k ([], 0)) gs.length 0 ts
    obtain ⟨N2, h2⟩ := nxT_pre gs m e (k + 1) (nxK gs m (ts.getD k ([], 0)) gs.length 0 ts)
    exact ⟨N1 ++ N2, by show nxT gs m e (k + 1) (nxK gs m (ts.getD k ([], 0)) gs.length 0 ts) = _; rw [h2, h1, List.append_assoc]⟩
def dbN (gs : List (List Nat)) (m r : Nat) (db : Option (Nat × Nat)) (B : TL) : Option (Nat × Nat) :=
  match db with
  | some y => some y
  | none => (sdT gs m B).map (fun x => (r, x))
/-- all rounds, each sorted; where doubt comes up, and by which groups -/
def rnds (gs : List (List Nat)) (m : Nat) (only : Bool) : Nat → TL → TL → Option (Nat × Nat) → Nat → List TL × Option (Nat × Nat)
  | 0, _, _, db, _ => ([], db)
  | f + 1, A, B, db, r => if B = [] then ([], db) else if only = true ∧ (dbN gs m r db (srtF [] B)).isSome = true then ([srtF [] B], dbN gs m r db (srtF [] B)) else
    (srtF [] B :: (rnds gs m only f (A ++ srtF [] B) ((nxT gs m B.length A.length (A ++ srtF [] B)).drop (A.length + B.length)) (dbN gs m r db (srtF [] B)) (r + 1)).1, (rnds gs m only f (A ++ srtF [] B) ((nxT gs m B.length A.length (A ++ srtF [] B)).drop (A.length + B.length)) (dbN gs m r db (srtF [] B)) (r + 1)).2)
def DB (h : PH) (b : Nat) : Option (Nat × Nat) → Prop
  | none => h_i h b 6 = -1 ∧ h_i h b 7 = 0
  | some y => h_i h b 6 = nI y.1 ∧ h_i h b 7 = nI y.2 ∧ y.1 < 99
def STa (h : PH) (b : Nat) (RL : List TL) : Prop := ∀ i, i ≤ RL.length → h_i h (b + 4) (i + 1) = nI (RL.take i).flatten.length
def CTs (h : PH) (b : Nat) (R : List TL × Option (Nat × Nat)) : Prop := CTa h b R.1.flatten ∧ h_i h b 5 = nI R.1.length ∧ DB h b R.2 ∧ STa h b R.1 ∧ R.1.length ≤ 98
def WtB (b c k : Nat) : Prop := (c = b ∧ 3 ≤ k ∧ k ≤ 8) ∨ (b < c ∧ c ≤ b + 4)
theorem ta_build {d : Nat} {h : PH} {Q : PQ} {b o : Nat} {gs : List (List Nat)} {m : Nat} {only : Bool} (hT : TaS h b) (hG : GrS h o) (hob : o + 5 < b ∨ b + 7 < o) (hg : CGr h o gs m) (k : ∀ h', CTs h' b (rnds gs m only 98 [] (fsA gs m gs.length 0 []) none 1) → h_i h' b 8 = h_i h o 6 → Fr (WtB b) h h' → Q none h') : wpm (d + 5) 69 [.ref b, .ref o, .int (if only = true then 1 else 0)] h Q := by
  refine wpm_in P_Ta_build rfl (by decide) (by show ¬ 4 < 3; decide) ?_
  have cg : ∀ {g : PH}, Fr (WtB b) h g → CGr g o gs m := fun hf => CGr.fr hf (fun c k z y => by unfold WtB at z; omega) hg
  have upR : ∀ {g g' : PH}, Fr (WtailR b) g g' → Fr (WtB b) g g' := fun hf => hf.up (fun c k z => by unfold WtailR at z; unfold WtB; omega)
  have loop : ∀ (f r : Nat) (A B : TL) (RL0 : List TL) (db : Option (Nat × Nat)) (g : PH) (s : Int32), f + r = 99 → RL0.length + 1 = r → RL0.flatten = A → r ≤ A.length + 1 → Fr (WtB b) h g → CTa g b (A ++ B) → h_i g b 5 = nI RL0.length → DB g b db → STa g b RL0 → h_i g b 8 = s → (only = true → db = none) → (∀ g', CTs g' b (RL0 ++ (rnds gs m only f A B db r).1, (rnds gs m only f A B db r).2) → h_i g' b 8 = s → Fr (WtB b) h g' → Q none g') → wpx (d + 4) P_Ta_build 42 [.ref b, .ref o, .int (if only = true then 1 else 0), .int (nI r)] [] g Q := by
    intro f
    induction f with
    | zero =>
      intro r A B RL0 db g s hfr hrl hA hrA hf hc h5 hdb hst h8 hon kk
      have h98 := hc.1.1
      rw [List.length_append] at h98
      have hB : B = [] := List.length_eq_zero_iff.mp (by omega)
      refine B_Ta_build_42 (fun _ => B_Ta_build_144 (kk g ?_ h8 hf)) (fun z => absurd ?_ z)
      · show CTs g b (RL0 ++ [], db)
        rw [List.append_nil]
        rw [hB, List.append_nil, ← hA] at hc
        exact ⟨hc, h5, hdb, hst, by show RL0.length ≤ 98; omega⟩
      · rw [show (98 : Int32) = nI 98 from rfl, nI_ltI (by omega) (by omega)]
        omega
    | succ f ih =>
      intro r A B RL0 db g s hfr hrl hA hrA hf hc h5 hdb hst h8 hon kk
      have h98 := hc.1.1
      rw [List.length_append] at h98
      have hT' := hT.fr hf
      have vr : vp_in (nI r) 100 := vp_in_nI (by omega) (by omega)
      have sr : h_i g (b + 4) r = nI A.length := by
        have := hst RL0.length (Nat.le_refl _)
        rw [hrl, List.take_length, hA] at this
        exact this
      refine B_Ta_build_42 (fun z => ?_) (fun _ => B_Ta_build_48 hT'.1 hT'.2.2.2.2.1.1 hT'.2.2.2.2.1.2 vr (fun z => ?_) (fun z => ?_))
      · rw [show (98 : Int32) = nI 98 from rfl, nI_ltI (by omega) (by omega)] at z
        omega
      · rw [hc.2.1, List.length_append, nI_clamp (by omega), sr, nI_leI (by omega) (by omega)] at z
        have hB : B = [] := List.length_eq_zero_iff.mp (by omega)
        refine B_Ta_build_144 (kk g ?_ h8 hf)
        subst hB
        show CTs g b (RL0 ++ [], db)
        rw [List.append_nil]
        rw [List.append_nil, ← hA] at hc
        exact ⟨hc, h5, hdb, hst, by show RL0.length ≤ 98; omega⟩
      · rw [hc.2.1, List.length_append, nI_clamp (by omega), sr, nI_leI (by omega) (by omega)] at z
        have hB : B ≠ [] := fun y => z (by rw [y]; exact Nat.le_refl _)
        have vr1 : vp_in (nI r + (1 : Int32)) 100 := by
          rw [nI_1]
          exact vp_in_nI (by omega) (by omega)
        refine B_Ta_build_61 hT'.1 hT'.2.2.2.2.1.1 hT'.2.2.2.2.1.2 vr1 vr ?_
        have s0 : h_i (w_i g b 5 (nI r)) b 3 = nI (A.length + B.length) := by
          rw [wi_ne _ _ (by omega), hc.2.1, List.length_append]
        rw [s0, nI_1, nI_clamp (by omega), nI_clamp (by omega)]
        have f1 : Fr (WtB b) g (w_i (w_i g b 5 (nI r)) (b + 4) (r + 1) (nI (A.length + B.length))) := (Fr.wi g _ (Or.inl ⟨rfl, by omega, by omega⟩)).tr (Fr.wi _ _ (Or.inr (by omega)))
        have c1 : CTa (w_i (w_i g b 5 (nI r)) (b + 4) (r + 1) (nI (A.length + B.length))) b (A ++ B) := CTa.fr ((Fr.wi (W := fun c k => (c = b ∧ k = 5) ∨ c = b + 4) g _ (Or.inl ⟨rfl, rfl⟩)).tr (Fr.wi _ _ (Or.inr rfl))) (fun c k y => by omega) hc
        have q4 : ∀ i, ¬ i = r + 1 → h_i (w_i (w_i g b 5 (nI r)) (b + 4) (r + 1) (nI (A.length + B.length))) (b + 4) i = h_i g (b + 4) i := fun i hi => by rw [wi_ne _ _ (by omega), wi_ne _ _ (by omega)]
        have q4' : h_i (w_i (w_i g b 5 (nI r)) (b + 4) (r + 1) (nI (A.length + B.length))) (b + 4) (r + 1) = nI (A.length + B.length) := wi_eq _ _ _ _
        have q5 : h_i (w_i (w_i g b 5 (nI r)) (b + 4) (r + 1) (nI (A.length + B.length))) b 5 = nI r := by rw [wi_ne _ _ (by omega), wi_eq]
        have qo : ∀ i, ¬ i = 5 → h_i (w_i (w_i g b 5 (nI r)) (b + 4) (r + 1) (nI (A.length + B.length))) b i = h_i g b i := fun i hi => by rw [wi_ne _ _ (by omega), wi_ne _ _ (by omega)]
        generalize w_i (w_i g b 5 (nI r)) (b + 4) (r + 1) (nI (A.length + B.length)) = g1 at f1 c1 q4 q4' q5 qo ⊢
        rw [q4 r (by omega), sr, c1.2.1, List.length_append]
        refine ta_sort (hT'.fr f1) c1 hB (fun g2 c2 f2 => ?_)
        have F2 : Fr (WtB b) h g2 := hf.tr (f1.tr (upR f2))
        have old2 : ∀ c i, ¬ WtailR b c i → h_i g2 c i = h_i g1 c i := fun c i y => f2.i c i y
        have hT2 := hT.fr F2
        have hln : (srtF [] B).length = B.length := by
          have := (srtF_perm B []).length_eq
          rw [List.nil_append] at this
          exact this
        have st2 : ∀ i, i ≤ RL0.length + 1 → h_i g2 (b + 4) (i + 1) = nI ((RL0 ++ [srtF [] B]).take i).flatten.length := fun i hi => by
          rw [old2 _ _ (by unfold WtailR; omega)]
          by_cases y : i = RL0.length + 1
          · rw [y, hrl, q4', List.take_of_length_le (by rw [List.length_append]; show RL0.length + 1 ≤ r; omega), List.flatten_append, List.length_append, hA]
            show _ = nI (A.length + (srtF [] B ++ []).length)
            rw [List.append_nil, hln]
          · rw [q4 _ (by omega), List.take_append_of_le_length (by omega)]
            exact hst i (by omega)
        have d2 : DB g2 b db := by
          cases db with
          | none => exact ⟨by rw [old2 _ _ (by unfold WtailR; omega), qo _ (by omega)]; exact hdb.1, by rw [old2 _ _ (by unfold WtailR; omega), qo _ (by omega)]; exact hdb.2⟩
          | some y => exact ⟨by rw [old2 _ _ (by unfold WtailR; omega), qo _ (by omega)]; exact hdb.1, by rw [old2 _ _ (by unfold WtailR; omega), qo _ (by omega)]; exact hdb.2.1, hdb.2.2⟩
        have e5 : h_i g2 b 5 = nI r := by rw [old2 _ _ (by unfold WtailR; omega)]; exact q5
        have e8 : h_i g2 b 8 = s := by rw [old2 _ _ (by unfold WtailR; omega), qo _ (by omega)]; exact h8
        clear c1 q4 q4' q5 qo old2 s0 f2 f1
        have s2r : h_i g2 (b + 4) r = nI A.length := by
          have := st2 RL0.length (by omega)
          rw [hrl, List.take_left, hA] at this
          exact this
        have s2n : h_i g2 (b + 4) (r + 1) = nI (A.length + B.length) := by
          have := st2 (RL0.length + 1) (Nat.le_refl _)
          rw [hrl, List.take_of_length_le (by rw [List.length_append]; show RL0.length + 1 ≤ r; omega), List.flatten_append, List.length_append, hA] at this
          rw [this]
          show nI (A.length + (srtF [] B ++ []).length) = _
          rw [List.append_nil, hln]
        -- what stands behind the search for doubt
        have main : ∀ g3 : PH, Fr (WtB b) h g3 → Fr (fun c k => c = b ∧ (k = 6 ∨ k = 7)) g2 g3 → DB g3 b (dbN gs m r db (srtF [] B)) → wpx (d + 4) P_Ta_build 106 [.ref b, .ref o, .int (if only = true then 1 else 0), .int (nI r)] [] g3 Q := by
          intro g3 F3 f3 d3
          have hT3 := hT.fr F3
          have c3 : CTa g3 b (A ++ srtF [] B) := CTa.fr f3 (fun c k y => by omega) c2
          have st3 : STa g3 b (RL0 ++ [srtF [] B]) := fun i hi => (f3.i _ _ (by omega)).trans (st2 i (by rw [List.length_append] at hi; exact hi))
          have e53 : h_i g3 b 5 = nI r := (f3.i _ _ (by omega)).trans e5
          have e83 : h_i g3 b 8 = s := (f3.i _ _ (by omega)).trans e8
          have en : ¬ (only = true ∧ (dbN gs m r db (srtF [] B)).isSome = true) → wpx (d + 4) P_Ta_build 119 [.ref b, .ref o, .int (if only = true then 1 else 0), .int (nI r)] [] g3 Q := fun hno => by
            refine B_Ta_build_119 hT3.1 hT3.2.2.2.2.1.1 hT3.2.2.2.2.1.2 vr vr1 ?_
            rw [nI_1, nI_clamp (by omega), nI_clamp (by omega), f3.i _ _ (by omega), f3.i _ _ (by omega), s2r, s2n]
            refine ta_next hT3 (F3.gr hG) hob (cg F3) c3 (by omega) (by rw [List.length_append, hln]; exact Nat.le_refl _) (fun g4 c4 f4 => B_Ta_build_138 ?_)
            rw [nI_1]
            rw [show A.length + B.length - A.length = B.length by omega] at c4
            obtain ⟨N, hN⟩ := nxT_pre gs m B.length A.length (A ++ srtF [] B)
            have hN2 : (nxT gs m B.length A.length (A ++ srtF [] B)).drop (A.length + B.length) = N := by
              rw [hN, List.drop_left' (by rw [List.length_append, hln])]
            have er : rnds gs m only (f + 1) A B db r = (srtF [] B :: (rnds gs m only f (A ++ srtF [] B) N (dbN gs m r db (srtF [] B)) (r + 1)).1, (rnds gs m only f (A ++ srtF [] B) N (dbN gs m r db (srtF [] B)) (r + 1)).2) := by
              rw [← hN2]
              exact (if_neg hB).trans (if_neg hno)
            rw [hN] at c4
            have hBp : 0 < B.length := List.length_pos_iff.mpr hB
            refine ih (r + 1) (A ++ srtF [] B) N (RL0 ++ [srtF [] B]) (dbN gs m r db (srtF [] B)) g4 s (by omega) (by rw [List.length_append]; show RL0.length + 1 + 1 = r + 1; omega) ?_ ?_ (F3.tr (upR f4)) c4 ?_ ?_ ?_ ?_ ?_ (fun g' c' e' F' => kk g' ?_ e' F')
            · rw [List.flatten_append, hA]
              show A ++ (srtF [] B ++ []) = _
              rw [List.append_nil]
            · rw [List.length_append, hln]
              omega
            · rw [f4.i _ _ (by unfold WtailR; omega), e53, List.length_append]
              show nI r = nI (RL0.length + 1)
              rw [hrl]
            · cases hd : dbN gs m r db (srtF [] B) with
              | none =>
                rw [hd] at d3
                exact ⟨(f4.i _ _ (by unfold WtailR; omega)).trans d3.1, (f4.i _ _ (by unfold WtailR; omega)).trans d3.2⟩
              | some y =>
                rw [hd] at d3
                exact ⟨(f4.i _ _ (by unfold WtailR; omega)).trans d3.1, (f4.i _ _ (by unfold WtailR; omega)).trans d3.2.1, d3.2.2⟩
            · exact fun i hi => (f4.i _ _ (by unfold WtailR; omega)).trans (st3 i hi)
            · exact (f4.i _ _ (by unfold WtailR; omega)).trans e83
            · intro ho
              cases hd : dbN gs m r db (srtF [] B) with
              | none => rfl
              | some y => exact absurd ⟨ho, by rw [hd]; rfl⟩ hno
            · rw [er]
              rw [List.append_assoc] at c'
              exact c'
          refine B_Ta_build_106 (fun z => en (fun y => ?_)) (fun z => B_Ta_build_110 hT3.1 (fun w => en (fun y => ?_)) (fun w => B_Ta_build_118 (kk g3 ?_ e83 F3)))
          · rw [if_pos y.1] at z
            exact absurd z (by decide)
          · cases hd : dbN gs m r db (srtF [] B) with
            | none =>
              rw [hd] at y
              exact absurd y.2 (by decide)
            | some u =>
              rw [hd] at d3
              have d31 : h_i g3 b 6 = nI u.1 := d3.1
              rw [d31] at w
              exact nI_neg1 (by have : u.1 < 99 := d3.2.2; omega) w
          · have ho : only = true := by
              cases only
              · exact absurd rfl z
              · rfl
            have hs : (dbN gs m r db (srtF [] B)).isSome = true := by
              cases hd : dbN gs m r db (srtF [] B) with
              | none =>
                rw [hd] at d3
                exact absurd d3.1 w
              | some u => rfl
            have er : rnds gs m only (f + 1) A B db r = ([srtF [] B], dbN gs m r db (srtF [] B)) := (if_neg hB).trans (if_pos ⟨ho, hs⟩)
            rw [er]
            refine ⟨?_, ?_, d3, st3, by show (RL0 ++ [srtF [] B]).length ≤ 98; rw [List.length_append]; show RL0.length + 1 ≤ 98; omega⟩
            · show CTa g3 b (RL0 ++ [srtF [] B]).flatten
              rw [List.flatten_append, hA]
              show CTa g3 b (A ++ (srtF [] B ++ []))
              rw [List.append_nil]
              exact c3
            · show h_i g3 b 5 = nI (RL0 ++ [srtF [] B]).length
              rw [e53, List.length_append]
              show nI r = nI (RL0.length + 1)
              rw [hrl]
        refine B_Ta_build_92 hT2.1 (fun z => ?_) (fun z => ?_)
        · cases db with
          | none => exact absurd d2.1 z
          | some y => exact main g2 F2 (Fr.rf _ _) d2
        · cases db with
          | some y =>
            have d21 : h_i g2 b 6 = nI y.1 := d2.1
            rw [d21] at z
            exact absurd z (nI_neg1 (by have : y.1 < 99 := d2.2.2; omega))
          | none =>
            refine B_Ta_build_100 hT2.1 (ta_seek hT2 (F2.gr hG) (cg F2) c2 (by omega) s2r (fun y => ?_) (fun x y => ?_))
            · refine main g2 F2 (Fr.rf _ _) ?_
              show DB g2 b ((sdT gs m (srtF [] B)).map (fun x => (r, x)))
              rw [y]
              exact d2
            · have f3 : Fr (fun c k => c = b ∧ (k = 6 ∨ k = 7)) g2 (w_i (w_i g2 b 6 (nI r)) b 7 (nI x)) := (Fr.wi g2 _ ⟨rfl, Or.inl rfl⟩).tr (Fr.wi _ _ ⟨rfl, Or.inr rfl⟩)
              refine main _ (F2.tr (f3.up (fun c k z => by unfold WtB; omega))) f3 ?_
              show DB _ b ((sdT gs m (srtF [] B)).map (fun x => (r, x)))
              rw [y]
              exact ⟨by rw [wi_ne _ _ (by omega), wi_eq], wi_eq _ _ _ _, by show r < 99; omega⟩
  refine B_Ta_build_0 hG.1 hT.1 hT.2.2.2.2.1.1 hT.2.2.2.2.1.2 (vp_in_nI (n := 1) (by omega) (by omega)) ?_
  have f0 : Fr (WtB b) h (w_i (w_i (w_i (w_i (w_i (w_i h b 8 (h_i h o 6)) b 3 0) b 5 0) b 6 (-1)) b 7 0) (b + 4) 1 0) := (Fr.wi h _ (Or.inl ⟨rfl, by omega, by omega⟩)).tr ((Fr.wi _ _ (Or.inl ⟨rfl, by omega, by omega⟩)).tr ((Fr.wi _ _ (Or.inl ⟨rfl, by omega, by omega⟩)).tr ((Fr.wi _ _ (Or.inl ⟨rfl, by omega, by omega⟩)).tr ((Fr.wi _ _ (Or.inl ⟨rfl, by omega, by omega⟩)).tr (Fr.wi _ _ (Or.inr (by omega)))))))
  have a8 : h_i (w_i (w_i (w_i (w_i (w_i (w_i h b 8 (h_i h o 6)) b 3 0) b 5 0) b 6 (-1)) b 7 0) (b + 4) 1 0) b 8 = h_i h o 6 := by rw [wi_ne _ _ (by omega), wi_ne _ _ (by omega), wi_ne _ _ (by omega), wi_ne _ _ (by omega), wi_ne _ _ (by omega), wi_eq]
  have a3 : h_i (w_i (w_i (w_i (w_i (w_i (w_i h b 8 (h_i h o 6)) b 3 0) b 5 0) b 6 (-1)) b 7 0) (b + 4) 1 0) b 3 = 0 := by rw [wi_ne _ _ (by omega), wi_ne _ _ (by omega), wi_ne _ _ (by omega), wi_ne _ _ (by omega), wi_eq]
  have a5 : h_i (w_i (w_i (w_i (w_i (w_i (w_i h b 8 (h_i h o 6)) b 3 0) b 5 0) b 6 (-1)) b 7 0) (b + 4) 1 0) b 5 = 0 := by rw [wi_ne _ _ (by omega), wi_ne _ _ (by omega), wi_ne _ _ (by omega), wi_eq]
  have a6 : h_i (w_i (w_i (w_i (w_i (w_i (w_i h b 8 (h_i h o 6)) b 3 0) b 5 0) b 6 (-1)) b 7 0) (b + 4) 1 0) b 6 = -1 := by rw [wi_ne _ _ (by omega), wi_ne _ _ (by omega), wi_eq]
  have a7 : h_i (w_i (w_i (w_i (w_i (w_i (w_i h b 8 (h_i h o 6)) b 3 0) b 5 0) b 6 (-1)) b 7 0) (b + 4) 1 0) b 7 = 0 := by rw [wi_ne _ _ (by omega), wi_eq]
  have a4 : h_i (w_i (w_i (w_i (w_i (w_i (w_i h b 8 (h_i h o 6)) b 3 0) b 5 0) b 6 (-1)) b 7 0) (b + 4) 1 0) (b + 4) 1 = 0 := wi_eq _ _ _ _
  show wpm (d + 4) 70 [.ref b, .ref o] (w_i (w_i (w_i (w_i (w_i (w_i h b 8 (h_i h o 6)) b 3 0) b 5 0) b 6 (-1)) b 7 0) (b + 4) 1 0) _
  generalize w_i (w_i (w_i (w_i (w_i (w_i h b 8 (h_i h o 6)) b 3 0) b 5 0) b 6 (-1)) b 7 0) (b + 4) 1 0 = g0 at f0 a3 a4 a5 a6 a7 a8 ⊢
  refine ta_first (ts := []) (hT.fr f0) (f0.gr hG) hob (cg f0) ⟨⟨by decide, fun t ht => by cases ht⟩, a3, fun i t ht => by cases ht⟩ (fun g1 c1 f1 => B_Ta_build_40 ?_)
  exact loop 98 1 [] (fsA gs m gs.length 0 []) [] none g1 (h_i h o 6) rfl rfl rfl (Nat.le_refl _) (f0.tr (upR f1)) c1 ((f1.i _ _ (by unfold WtailR; omega)).trans a5) ⟨(f1.i _ _ (by unfold WtailR; omega)).trans a6, (f1.i _ _ (by unfold WtailR; omega)).trans a7⟩ (fun i hi => by
    have : i = 0 := Nat.le_zero.mp hi
    subst this
    exact (f1.i _ _ (by unfold WtailR; omega)).trans a4) ((f1.i _ _ (by unfold WtailR; omega)).trans a8) (fun _ => rfl) (fun g' c' e' F' => k g' c' e' F')
