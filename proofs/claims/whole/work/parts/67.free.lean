/-! none that is in begins (ends) another that is in -/
def bgR (a b : List Nat) : Prop := a = b.take a.length
def enR (a b : List Nat) : Prop := a.length ≤ b.length ∧ a = b.drop (b.length - a.length)
def badp (R : List Nat → List Nat → Prop) (gs : List (List Nat)) (m i j : Nat) : Prop := i ≠ j ∧ inm m i ∧ inm m j ∧ ∃ a b, gs[i]? = some a ∧ gs[j]? = some b ∧ R a b
def freeP (R : List Nat → List Nat → Prop) (gs : List (List Nat)) (m : Nat) : Prop := ∀ i j, i < gs.length → j < gs.length → ¬ badp R gs m i j
theorem gr_noneBeginsAnother {d : Nat} {h : PH} {Q : PQ} {o : Nat} {gs : List (List Nat)} {m : Nat} (hs : GrS h o) (hg : CGr h o gs m) (kt : freeP bgR gs m → Q (some (.int 1)) h) (kf : ¬ freeP bgR gs m → Q (some (.int 0)) h) : wpm (d + 3) 44 [.ref o] h Q := by
  refine wpm_in P_Gr_noneBeginsAnother rfl (by decide) (by show ¬ 3 < 1; decide) ?_
  refine B_Gr_noneBeginsAnother_0 ?_
  have h14 := hg.1.1
  have outer : ∀ (c i : Nat) (v : Value), gs.length - i = c → i ≤ gs.length → (∀ i' j, i' < i → j < gs.length → ¬ badp bgR gs m i' j) → wpx (d + 2) P_Gr_noneBeginsAnother 2 [.ref o, .int (nI i), v] [] h Q := by
    intro c
    induction c with
    | zero =>
      intro i v hc hi hf
      refine B_Gr_noneBeginsAnother_2 hs.1 (fun _ => ?_) (fun q => ?_)
      · exact B_Gr_noneBeginsAnother_64 (kt (fun i' j h1 h2 => hf i' j (by omega) h2))
      · rw [hg.2.1, nI_leI (by omega) (by omega)] at q
        omega
    | succ c ih =>
      intro i v hc hi hf
      refine B_Gr_noneBeginsAnother_2 hs.1 (fun q => ?_) (fun _ => B_Gr_noneBeginsAnother_10 ?_)
      · rw [hg.2.1, nI_leI (by omega) (by omega)] at q
        omega
      have hi' : i < gs.length := by omega
      have inner : ∀ (e j : Nat), gs.length - j = e → j ≤ gs.length → (∀ j', j' < j → ¬ badp bgR gs m i j') → wpx (d + 2) P_Gr_noneBeginsAnother 12 [.ref o, .int (nI i), .int (nI j)] [] h Q := by
        intro e
        induction e with
        | zero =>
          intro j he hj hk
          refine B_Gr_noneBeginsAnother_12 hs.1 (fun _ => B_Gr_noneBeginsAnother_58 ?_) (fun q => ?_)
          · rw [nI_1]
            refine ih (i + 1) _ (by omega) (by omega) (fun i' j' h1 h2 => ?_)
            by_cases e1 : i' = i
            · rw [e1]; exact hk j' (by omega)
            · exact hf i' j' (by omega) h2
          · rw [hg.2.1, nI_leI (by omega) (by omega)] at q
            omega
        | succ e ihe =>
          intro j he hj hk
          have hj' : j < gs.length := by omega
          have next : ¬ badp bgR gs m i j → wpx (d + 2) P_Gr_noneBeginsAnother 52 [.ref o, .int (nI i), .int (nI j)] [] h Q := fun hb => by
            refine B_Gr_noneBeginsAnother_52 ?_
            rw [nI_1]
            refine ihe (j + 1) (by omega) (by omega) (fun j' h1 => ?_)
            by_cases e1 : j' = j
            · rw [e1]; exact hb
            · exact hk j' (by omega)
          refine B_Gr_noneBeginsAnother_12 hs.1 (fun q => ?_) (fun _ => ?_)
          · rw [hg.2.1, nI_leI (by omega) (by omega)] at q
            omega
          refine B_Gr_noneBeginsAnother_20 (fun q => ?_) (fun q => ?_)
          · rw [nI_eq (by omega) (by omega)] at q
            exact next (fun b => b.1 q)
          rw [nI_eq (by omega) (by omega)] at q
          refine B_Gr_noneBeginsAnother_25 hs.1 (gr_isIn hs hg hi' (fun p1 => ?_) (fun p1 => ?_))
          · refine B_Gr_noneBeginsAnother_30 (fun z => absurd z (by decide)) (fun _ => ?_)
            refine B_Gr_noneBeginsAnother_33 hs.1 (gr_isIn hs hg hj' (fun p2 => ?_) (fun p2 => ?_))
            · refine B_Gr_noneBeginsAnother_38 (fun z => absurd z (by decide)) (fun _ => ?_)
              have ga : gs[i]? = some gs[i] := List.getElem?_eq_getElem hi'
              have gb : gs[j]? = some gs[j] := List.getElem?_eq_getElem hj'
              generalize gs[i] = a at ga
              generalize gs[j] = b at gb
              obtain ⟨a1, a2, a3⟩ := hg.1.at ga
              obtain ⟨b1, b2, b3⟩ := hg.1.at gb
              refine B_Gr_noneBeginsAnother_41 hs.1 (gr_groupBegins hs hg ga gb ?_)
              by_cases r : a = b.take a.length
              · rw [if_pos r]
                exact B_Gr_noneBeginsAnother_47 (fun z => absurd z (by decide)) (fun _ => B_Gr_noneBeginsAnother_50 (kf (fun f => f i j hi' hj' ⟨q, p1, p2, a, b, ga, gb, r⟩)))
              · rw [if_neg r]
                refine B_Gr_noneBeginsAnother_47 (fun _ => next ?_) (fun z => absurd rfl z)
                rintro ⟨_, _, _, a', b', ga', gb', r'⟩
                rw [ga] at ga'
                rw [gb] at gb'
                cases ga'
                cases gb'
                exact r r'
            · exact B_Gr_noneBeginsAnother_38 (fun _ => next (fun b => p2 b.2.2.1)) (fun z => absurd rfl z)
          · exact B_Gr_noneBeginsAnother_30 (fun _ => next (fun b => p1 b.2.1)) (fun z => absurd rfl z)
      exact inner _ 0 rfl (Nat.zero_le _) (fun j' h1 => absurd h1 (by omega))
  exact outer _ 0 _ rfl (Nat.zero_le _) (fun i' j h1 => absurd h1 (by omega))
theorem gr_noneEndsAnother {d : Nat} {h : PH} {Q : PQ} {o : Nat} {gs : List (List Nat)} {m : Nat} (hs : GrS h o) (hg : CGr h o gs m) (kt : freeP enR gs m → Q (some (.int 1)) h) (kf : ¬ freeP enR gs m → Q (some (.int 0)) h) : wpm (d + 3) 45 [.ref o] h Q := by
  refine wpm_in P_Gr_noneEndsAnother rfl (by decide) (by show ¬ 3 < 1; decide) ?_
  refine B_Gr_noneEndsAnother_0 ?_
  have h14 := hg.1.1
  have outer : ∀ (c i : Nat) (v : Value), gs.length - i = c → i ≤ gs.length → (∀ i' j, i' < i → j < gs.length → ¬ badp enR gs m i' j) → wpx (d + 2) P_Gr_noneEndsAnother 2 [.ref o, .int (nI i), v] [] h Q := by
    intro c
    induction c with
    | zero =>
      intro i v hc hi hf
      refine B_Gr_noneEndsAnother_2 hs.1 (fun _ => ?_) (fun q => ?_)
      · exact B_Gr_noneEndsAnother_85 (kt (fun i' j h1 h2 => hf i' j (by omega) h2))
      · rw [hg.2.1, nI_leI (by omega) (by omega)] at q
        omega
    | succ c ih =>
      intro i v hc hi hf
      refine B_Gr_noneEndsAnother_2 hs.1 (fun q => ?_) (fun _ => B_Gr_noneEndsAnother_10 ?_)
      · rw [hg.2.1, nI_leI (by omega) (by omega)] at q
        omega
      have hi' : i < gs.length := by omega
      have inner : ∀ (e j : Nat), gs.length - j = e → j ≤ gs.length → (∀ j', j' < j → ¬ badp enR gs m i j') → wpx (d + 2) P_Gr_noneEndsAnother 12 [.ref o, .int (nI i), .int (nI j)] [] h Q := by
        intro e
        induction e with
        | zero =>
          intro j he hj hk
          refine B_Gr_noneEndsAnother_12 hs.1 (fun _ => B_Gr_noneEndsAnother_79 ?_) (fun q => ?_)
          · rw [nI_1]
            refine ih (i + 1) _ (by omega) (by omega) (fun i' j' h1 h2 => ?_)
            by_cases e1 : i' = i
            · rw [e1]; exact hk j' (by omega)
            · exact hf i' j' (by omega) h2
          · rw [hg.2.1, nI_leI (by omega) (by omega)] at q
            omega
        | succ e ihe =>
          intro j he hj hk
          have hj' : j < gs.length := by omega
          have next : ¬ badp enR gs m i j → wpx (d + 2) P_Gr_noneEndsAnother 73 [.ref o, .int (nI i), .int (nI j)] [] h Q := fun hb => by
            refine B_Gr_noneEndsAnother_73 ?_
            rw [nI_1]
            refine ihe (j + 1) (by omega) (by omega) (fun j' h1 => ?_)
            by_cases e1 : j' = j
            · rw [e1]; exact hb
            · exact hk j' (by omega)
          refine B_Gr_noneEndsAnother_12 hs.1 (fun q => ?_) (fun _ => ?_)
          · rw [hg.2.1, nI_leI (by omega) (by omega)] at q
            omega
          refine B_Gr_noneEndsAnother_20 (fun q => ?_) (fun q => ?_)
          · rw [nI_eq (by omega) (by omega)] at q
            exact next (fun b => b.1 q)
          rw [nI_eq (by omega) (by omega)] at q
          refine B_Gr_noneEndsAnother_25 hs.1 (gr_isIn hs hg hi' (fun p1 => ?_) (fun p1 => ?_))
          · refine B_Gr_noneEndsAnother_30 (fun z => absurd z (by decide)) (fun _ => ?_)
            refine B_Gr_noneEndsAnother_33 hs.1 (gr_isIn hs hg hj' (fun p2 => ?_) (fun p2 => ?_))
            · refine B_Gr_noneEndsAnother_38 (fun z => absurd z (by decide)) (fun _ => ?_)
              have ga : gs[i]? = some gs[i] := List.getElem?_eq_getElem hi'
              have gb : gs[j]? = some gs[j] := List.getElem?_eq_getElem hj'
              generalize gs[i] = a at ga
              generalize gs[j] = b at gb
              obtain ⟨a1, a2, a3⟩ := hg.1.at ga
              obtain ⟨b1, b2, b3⟩ := hg.1.at gb
              have va : vp_in (nI i) 14 := vp_in_nI a3 (by omega)
              have vb : vp_in (nI j) 14 := vp_in_nI b3 (by omega)
              refine B_Gr_noneEndsAnother_41 hs.1 hs.2.1.1 hs.2.1.2 va hs.2.2.1.1 hs.2.2.1.2 va vb vb ?_
              rw [nI_clamp (by omega), nI_clamp (by omega), (hg.2.2.2 i a ga).1, (hg.2.2.2 i a ga).2, (hg.2.2.2 j b gb).1, (hg.2.2.2 j b gb).2]
              refine ow_ends a1 b1 ?_
              by_cases r : a.length ≤ b.length ∧ a = b.drop (b.length - a.length)
              · rw [if_pos r]
                exact B_Gr_noneEndsAnother_68 (fun z => absurd z (by decide)) (fun _ => B_Gr_noneEndsAnother_71 (kf (fun f => f i j hi' hj' ⟨q, p1, p2, a, b, ga, gb, r⟩)))
              · rw [if_neg r]
                refine B_Gr_noneEndsAnother_68 (fun _ => next ?_) (fun z => absurd rfl z)
                rintro ⟨_, _, _, a', b', ga', gb', r'⟩
                rw [ga] at ga'
                rw [gb] at gb'
                cases ga'
                cases gb'
                exact r r'
            · exact B_Gr_noneEndsAnother_38 (fun _ => next (fun b => p2 b.2.2.1)) (fun z => absurd rfl z)
          · exact B_Gr_noneEndsAnother_30 (fun _ => next (fun b => p1 b.2.1)) (fun z => absurd rfl z)
      exact inner _ 0 rfl (Nat.zero_le _) (fun j' h1 => absurd h1 (by omega))
  exact outer _ 0 _ rfl (Nat.zero_le _) (fun i' j h1 => absurd h1 (by omega))
theorem md_isFree_b {d : Nat} {h : PH} {Q : PQ} {gs : List (List Nat)} {m : Nat} (hM : MdS h) (hg : MGr h gs m) (kt : freeP bgR gs m → Q (some (.int 1)) h) (kf : ¬ freeP bgR gs m → Q (some (.int 0)) h) : wpm (d + 4) 202 [.ref 17, .int 1] h Q := by
  refine wpm_in P_Md_isFree rfl (by decide) (by show ¬ 5 < 2; decide) ?_
  refine B_Md_isFree_0 ?_
  have h14 := hg.1.1
  have outer : ∀ (c i : Nat) (v v' : Value), gs.length - i = c → i ≤ gs.length → (∀ i' j, i' < i → j < gs.length → ¬ badp bgR gs m i' j) → wpx (d + 3) P_Md_isFree 2 [.ref 17, .int 1, .int (nI i), v, v'] [] h Q := by
    intro c
    induction c with
    | zero =>
      intro i v v' hc hi hf
      refine B_Md_isFree_2 hM.1 (fun _ => ?_) (fun q => ?_)
      · exact B_Md_isFree_98 (kt (fun i' j h1 h2 => hf i' j (by omega) h2))
      · rw [hg.2.1, nI_leI (by omega) (by omega)] at q
        omega
    | succ c ih =>
      intro i v v' hc hi hf
      refine B_Md_isFree_2 hM.1 (fun q => ?_) (fun _ => B_Md_isFree_10 ?_)
      · rw [hg.2.1, nI_leI (by omega) (by omega)] at q
        omega
      have hi' : i < gs.length := by omega
      have inner : ∀ (e j : Nat) (v : Value), gs.length - j = e → j ≤ gs.length → (∀ j', j' < j → ¬ badp bgR gs m i j') → wpx (d + 3) P_Md_isFree 12 [.ref 17, .int 1, .int (nI i), .int (nI j), v] [] h Q := by
        intro e
        induction e with
        | zero =>
          intro j v he hj hk
          refine B_Md_isFree_12 hM.1 (fun _ => B_Md_isFree_92 ?_) (fun q => ?_)
          · rw [nI_1]
            refine ih (i + 1) _ _ (by omega) (by omega) (fun i' j' h1 h2 => ?_)
            by_cases e1 : i' = i
            · rw [e1]; exact hk j' (by omega)
            · exact hf i' j' (by omega) h2
          · rw [hg.2.1, nI_leI (by omega) (by omega)] at q
            omega
        | succ e ihe =>
          intro j v he hj hk
          have hj' : j < gs.length := by omega
          have next : ∀ z : Int32, ¬ badp bgR gs m i j → wpx (d + 3) P_Md_isFree 86 [.ref 17, .int 1, .int (nI i), .int (nI j), .int z] [] h Q := fun z hb => by
            refine B_Md_isFree_86 ?_
            rw [nI_1]
            refine ihe (j + 1) _ (by omega) (by omega) (fun j' h1 => ?_)
            by_cases e1 : j' = j
            · rw [e1]; exact hb
            · exact hk j' (by omega)
          have skip : ¬ badp bgR gs m i j → wpx (d + 3) P_Md_isFree 51 [.ref 17, .int 1, .int (nI i), .int (nI j), v] [] h Q := fun hb =>
            B_Md_isFree_51 (B_Md_isFree_52 (fun _ => next 0 hb) (fun z => absurd rfl z))
          refine B_Md_isFree_12 hM.1 (fun q => ?_) (fun _ => ?_)
          · rw [hg.2.1, nI_leI (by omega) (by omega)] at q
            omega
          refine B_Md_isFree_20 (fun q => ?_) (fun q => ?_)
          · rw [nI_eq (by omega) (by omega)] at q
            exact skip (fun b => b.1 q)
          rw [nI_eq (by omega) (by omega)] at q
          refine B_Md_isFree_25 hM.1 ?_
          rw [hg.2.2.1]
          refine md_isOf hg.1.m31 (by omega) (fun p1 => ?_) (fun p1 => ?_)
          · refine B_Md_isFree_33 (fun z => absurd z (by decide)) (fun _ => ?_)
            refine B_Md_isFree_36 hM.1 ?_
            rw [hg.2.2.1]
            refine md_isOf hg.1.m31 (by omega) (fun p2 => ?_) (fun p2 => ?_)
            · refine B_Md_isFree_44 (fun z => absurd z (by decide)) (fun _ => ?_)
              refine B_Md_isFree_47 (B_Md_isFree_52 (fun z => absurd z (by decide)) (fun _ => ?_))
              have ga : gs[i]? = some gs[i] := List.getElem?_eq_getElem hi'
              have gb : gs[j]? = some gs[j] := List.getElem?_eq_getElem hj'
              generalize gs[i] = a at ga
              generalize gs[j] = b at gb
              refine B_Md_isFree_59 (fun z => absurd z (by decide)) (fun _ => ?_)
              refine B_Md_isFree_63 hM.1 (md_begins hM hg ga gb ?_)
              by_cases r : a = b.take a.length
              · rw [if_pos r]
                exact B_Md_isFree_69 (fun z => absurd z (by decide)) (fun _ => B_Md_isFree_72 (B_Md_isFree_84 (kf (fun f => f i j hi' hj' ⟨q, p1, p2, a, b, ga, gb, r⟩))))
              · rw [if_neg r]
                refine B_Md_isFree_69 (fun _ => next 1 ?_) (fun z => absurd rfl z)
                rintro ⟨_, _, _, a', b', ga', gb', r'⟩
                rw [ga] at ga'
                rw [gb] at gb'
                cases ga'
                cases gb'
                exact r r'
            · exact B_Md_isFree_44 (fun _ => skip (fun b => p2 b.2.2.1)) (fun z => absurd rfl z)
          · exact B_Md_isFree_33 (fun _ => skip (fun b => p1 b.2.1)) (fun z => absurd rfl z)
      exact inner _ 0 _ rfl (Nat.zero_le _) (fun j' h1 => absurd h1 (by omega))
  exact outer _ 0 _ _ rfl (Nat.zero_le _) (fun i' j h1 => absurd h1 (by omega))
theorem md_isFree_e {d : Nat} {h : PH} {Q : PQ} {gs : List (List Nat)} {m : Nat} (hM : MdS h) (hg : MGr h gs m) (kt : freeP enR gs m → Q (some (.int 1)) h) (kf : ¬ freeP enR gs m → Q (some (.int 0)) h) : wpm (d + 4) 202 [.ref 17, .int 0] h Q := by
  refine wpm_in P_Md_isFree rfl (by decide) (by show ¬ 5 < 2; decide) ?_
  refine B_Md_isFree_0 ?_
  have h14 := hg.1.1
  have outer : ∀ (c i : Nat) (v v' : Value), gs.length - i = c → i ≤ gs.length → (∀ i' j, i' < i → j < gs.length → ¬ badp enR gs m i' j) → wpx (d + 3) P_Md_isFree 2 [.ref 17, .int 0, .int (nI i), v, v'] [] h Q := by
    intro c
    induction c with
    | zero =>
      intro i v v' hc hi hf
      refine B_Md_isFree_2 hM.1 (fun _ => ?_) (fun q => ?_)
      · exact B_Md_isFree_98 (kt (fun i' j h1 h2 => hf i' j (by omega) h2))
      · rw [hg.2.1, nI_leI (by omega) (by omega)] at q
        omega
    | succ c ih =>
      intro i v v' hc hi hf
      refine B_Md_isFree_2 hM.1 (fun q => ?_) (fun _ => B_Md_isFree_10 ?_)
      · rw [hg.2.1, nI_leI (by omega) (by omega)] at q
        omega
      have hi' : i < gs.length := by omega
      have inner : ∀ (e j : Nat) (v : Value), gs.length - j = e → j ≤ gs.length → (∀ j', j' < j → ¬ badp enR gs m i j') → wpx (d + 3) P_Md_isFree 12 [.ref 17, .int 0, .int (nI i), .int (nI j), v] [] h Q := by
        intro e
        induction e with
        | zero =>
          intro j v he hj hk
          refine B_Md_isFree_12 hM.1 (fun _ => B_Md_isFree_92 ?_) (fun q => ?_)
          · rw [nI_1]
            refine ih (i + 1) _ _ (by omega) (by omega) (fun i' j' h1 h2 => ?_)
            by_cases e1 : i' = i
            · rw [e1]; exact hk j' (by omega)
            · exact hf i' j' (by omega) h2
          · rw [hg.2.1, nI_leI (by omega) (by omega)] at q
            omega
        | succ e ihe =>
          intro j v he hj hk
          have hj' : j < gs.length := by omega
          have next : ∀ z : Int32, ¬ badp enR gs m i j → wpx (d + 3) P_Md_isFree 86 [.ref 17, .int 0, .int (nI i), .int (nI j), .int z] [] h Q := fun z hb => by
            refine B_Md_isFree_86 ?_
            rw [nI_1]
            refine ihe (j + 1) _ (by omega) (by omega) (fun j' h1 => ?_)
            by_cases e1 : j' = j
            · rw [e1]; exact hb
            · exact hk j' (by omega)
          have skip : ¬ badp enR gs m i j → wpx (d + 3) P_Md_isFree 51 [.ref 17, .int 0, .int (nI i), .int (nI j), v] [] h Q := fun hb =>
            B_Md_isFree_51 (B_Md_isFree_52 (fun _ => next 0 hb) (fun z => absurd rfl z))
          refine B_Md_isFree_12 hM.1 (fun q => ?_) (fun _ => ?_)
          · rw [hg.2.1, nI_leI (by omega) (by omega)] at q
            omega
          refine B_Md_isFree_20 (fun q => ?_) (fun q => ?_)
          · rw [nI_eq (by omega) (by omega)] at q
            exact skip (fun b => b.1 q)
          rw [nI_eq (by omega) (by omega)] at q
          refine B_Md_isFree_25 hM.1 ?_
          rw [hg.2.2.1]
          refine md_isOf hg.1.m31 (by omega) (fun p1 => ?_) (fun p1 => ?_)
          · refine B_Md_isFree_33 (fun z => absurd z (by decide)) (fun _ => ?_)
            refine B_Md_isFree_36 hM.1 ?_
            rw [hg.2.2.1]
            refine md_isOf hg.1.m31 (by omega) (fun p2 => ?_) (fun p2 => ?_)
            · refine B_Md_isFree_44 (fun z => absurd z (by decide)) (fun _ => ?_)
              refine B_Md_isFree_47 (B_Md_isFree_52 (fun z => absurd z (by decide)) (fun _ => ?_))
              have ga : gs[i]? = some gs[i] := List.getElem?_eq_getElem hi'
              have gb : gs[j]? = some gs[j] := List.getElem?_eq_getElem hj'
              generalize gs[i] = a at ga
              generalize gs[j] = b at gb
              refine B_Md_isFree_59 (fun _ => ?_) (fun z => absurd rfl z)
              refine B_Md_isFree_75 hM.1 (md_ends hM hg ga gb ?_)
              by_cases r : a.length ≤ b.length ∧ a = b.drop (b.length - a.length)
              · rw [if_pos r]
                exact B_Md_isFree_81 (fun z => absurd z (by decide)) (fun _ => B_Md_isFree_84 (kf (fun f => f i j hi' hj' ⟨q, p1, p2, a, b, ga, gb, r⟩)))
              · rw [if_neg r]
                refine B_Md_isFree_81 (fun _ => next 1 ?_) (fun z => absurd rfl z)
                rintro ⟨_, _, _, a', b', ga', gb', r'⟩
                rw [ga] at ga'
                rw [gb] at gb'
                cases ga'
                cases gb'
                exact r r'
            · exact B_Md_isFree_44 (fun _ => skip (fun b => p2 b.2.2.1)) (fun z => absurd rfl z)
          · exact B_Md_isFree_33 (fun _ => skip (fun b => p1 b.2.1)) (fun z => absurd rfl z)
      exact inner _ 0 _ rfl (Nat.zero_le _) (fun j' h1 => absurd h1 (by omega))
  exact outer _ 0 _ _ rfl (Nat.zero_le _) (fun i' j h1 => absurd h1 (by omega))
