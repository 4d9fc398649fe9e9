/-! tails on the class's side: the first round, and the next one -/
theorem sh1k : ∀ n, n < 15 → ((1 : Int32) <<< (nI n &&& 31)) = nI (2 ^ n) := by decide
theorem p14 {k : Nat} (hk : k < 14) : 2 ^ k < 2 ^ 14 := Nat.pow_lt_pow_right (by decide) hk
theorem tadd_get {ts : TL} {r : List Nat} {mk i : Nat} {t : List Nat × Nat} (h : ts[i]? = some t) : (tadd ts r mk)[i]? = some t := by
  unfold tadd
  by_cases z : r = [] ∨ 98 ≤ ts.length ∨ r ∈ ts.map Prod.fst
  · rw [if_pos z]
    exact h
  · rw [if_neg z, List.getElem?_append_left (List.getElem?_eq_some_iff.mp h).1]
    exact h
abbrev fsC (gs : List (List Nat)) (m a b : Nat) : Prop := ¬ a = b ∧ inm m a ∧ inm m b ∧ gs.getD a [] = (gs.getD b []).take (gs.getD a []).length
def fsB (gs : List (List Nat)) (m a : Nat) : Nat → Nat → TL → TL
  | 0, _, ts => ts
  | e + 1, b, ts => fsB gs m a e (b + 1) (if fsC gs m a b then tadd ts ((gs.getD b []).drop (gs.getD a []).length) (2 ^ a ||| 2 ^ b) else ts)
def fsA (gs : List (List Nat)) (m : Nat) : Nat → Nat → TL → TL
  | 0, _, ts => ts
  | e + 1, a, ts => fsA gs m e (a + 1) (fsB gs m a gs.length 0 ts)
theorem ta_first {d : Nat} {h : PH} {Q : PQ} {b o : Nat} {ts : TL} {gs : List (List Nat)} {m : Nat} (hT : TaS h b) (hG : GrS h o) (hob : o + 5 < b ∨ b + 7 < o) (hg : CGr h o gs m) (hc : CTa h b ts) (k : ∀ h', CTa h' b (fsA gs m gs.length 0 ts) → Fr (WtailR b) h h' → Q none h') : wpm (d + 4) 70 [.ref b, .ref o] h Q := by
  refine wpm_in P_Ta_addFirstRound rfl (by decide) (by show ¬ 4 < 2; decide) (B_Ta_addFirstRound_0 ?_)
  have h14 := hg.1.1
  have cg : ∀ {g : PH}, Fr (WtailR b) h g → CGr g o gs m := fun hf => CGr.fr hf (fun c k z y => by unfold WtailR at z; omega) hg
  have inner : ∀ (a : Nat) (la : List Nat), gs[a]? = some la → ∀ (e j : Nat) (g : PH) (ts : TL), gs.length - j = e → j ≤ gs.length → Fr (WtailR b) h g → CTa g b ts → (∀ g', Fr (WtailR b) h g' → CTa g' b (fsB gs m a e j ts) → wpx (d + 3) P_Ta_addFirstRound 86 [.ref b, .ref o, .int (nI a), .int (nI gs.length)] [] g' Q) → wpx (d + 3) P_Ta_addFirstRound 12 [.ref b, .ref o, .int (nI a), .int (nI j)] [] g Q := by
    intro a la ga e
    have ea : gs.getD a [] = la := by rw [List.getD_eq_getElem?_getD, ga]; rfl
    obtain ⟨a1, a2, a3⟩ := hg.1.at ga
    have a7 := a1.2
    have alt := (List.getElem?_eq_some_iff.mp ga).1
    induction e with
    | zero =>
      intro j g ts he hj hf hc kk
      have ej : j = gs.length := by omega
      subst ej
      refine B_Ta_addFirstRound_12 (hf.gr hG).1 (fun _ => kk g hf hc) (fun q => ?_)
      rw [(cg hf).2.1, nI_leI (by omega) (by omega)] at q
      omega
    | succ e ih =>
      intro j g ts he hj hf hc kk
      have hG' := hf.gr hG
      have hg' := cg hf
      have gj : gs[j]? = some gs[j] := List.getElem?_eq_getElem (by omega)
      generalize gs[j] = lj at gj
      have el : gs.getD j [] = lj := by rw [List.getD_eq_getElem?_getD, gj]; rfl
      obtain ⟨b1, b2, b3⟩ := hg.1.at gj
      have b7 := b1.2
      have va : vp_in (nI a) 14 := vp_in_nI a3 (by omega)
      have vj : vp_in (nI j) 14 := vp_in_nI b3 (by omega)
      have no : ¬ fsC gs m a j → wpx (d + 3) P_Ta_addFirstRound 80 [.ref b, .ref o, .int (nI a), .int (nI j)] [] g Q := fun z => by
        refine B_Ta_addFirstRound_80 ?_
        rw [nI_1]
        refine ih (j + 1) g ts (by omega) (by omega) hf hc (fun g' f' c' => kk g' f' ?_)
        show CTa g' b (fsB gs m a e (j + 1) (if _ then _ else _))
        rw [if_neg z]
        exact c'
      refine B_Ta_addFirstRound_12 hG'.1 (fun q => ?_) (fun _ => B_Ta_addFirstRound_20 (fun z => no (fun y => y.1 ((nI_eq (by omega) (by omega)).mp z))) (fun z0 => B_Ta_addFirstRound_25 hG'.1 (gr_isIn hG' hg' alt (fun q => ?_) (fun q => B_Ta_addFirstRound_30 (fun _ => no (fun y => q y.2.1)) (fun z => absurd rfl z)))))
      · rw [hg'.2.1, nI_leI (by omega) (by omega)] at q
        omega
      · refine B_Ta_addFirstRound_30 (fun z => absurd z (by decide)) (fun _ => B_Ta_addFirstRound_33 hG'.1 (gr_isIn hG' hg' (by omega) (fun q2 => ?_) (fun q2 => B_Ta_addFirstRound_38 (fun _ => no (fun y => q2 y.2.2.1)) (fun z => absurd rfl z))))
        refine B_Ta_addFirstRound_38 (fun z => absurd z (by decide)) (fun _ => B_Ta_addFirstRound_41 hG'.1 (gr_groupBegins hG' hg' ga gj ?_))
        by_cases y : la = lj.take la.length
        · rw [if_pos y]
          have ln : la.length ≤ lj.length := by
            have := congrArg List.length y
            rw [List.length_take] at this
            omega
          have yes : fsC gs m a j := ⟨fun z => z0 (by rw [z]), q, q2, by rw [ea, el]; exact y⟩
          refine B_Ta_addFirstRound_47 (fun z => absurd z (by decide)) (fun _ => B_Ta_addFirstRound_50 hG'.1 hG'.2.1.1 hG'.2.1.2 vj hG'.2.2.1.1 hG'.2.2.1.2 vj va (hT.fr hf).1 ?_)
          rw [nI_clamp (by omega), nI_clamp (by omega), (hg'.2.2.2 j lj gj).1, (hg'.2.2.2 j lj gj).2, (hg'.2.2.2 a la ga).2, nI_subN ln, sh1k _ (by omega), sh1k _ (by omega), nI_orN (by have := p14 a3; omega) (by have := p14 b3; omega)]
          refine ta_add (hT.fr hf) hc b1 (by omega) (Nat.or_lt_two_pow (p14 a3) (p14 b3)) (fun g1 c1 f1 => B_Ta_addFirstRound_80 ?_)
          rw [nI_1]
          refine ih (j + 1) g1 _ (by omega) (by omega) (hf.tr f1) c1 (fun g' f' c' => kk g' f' ?_)
          show CTa g' b (fsB gs m a e (j + 1) (if _ then _ else _))
          rw [if_pos yes, ea, el]
          rw [show lj.length - (lj.length - la.length) = la.length by omega] at c'
          exact c'
        · rw [if_neg y]
          exact B_Ta_addFirstRound_47 (fun _ => no (fun z => y (by have := z.2.2.2; rw [ea, el] at this; exact this))) (fun z => absurd rfl z)
  have outer : ∀ (e a : Nat) (g : PH) (ts : TL) (v3 : Value), gs.length - a = e → a ≤ gs.length → Fr (WtailR b) h g → CTa g b ts → (∀ g', Fr (WtailR b) h g' → CTa g' b (fsA gs m e a ts) → Q none g') → wpx (d + 3) P_Ta_addFirstRound 2 [.ref b, .ref o, .int (nI a), v3] [] g Q := by
    intro e
    induction e with
    | zero =>
      intro a g ts v3 he ha hf hc kk
      refine B_Ta_addFirstRound_2 (hf.gr hG).1 (fun _ => B_Ta_addFirstRound_92 (kk g hf hc)) (fun q => ?_)
      rw [(cg hf).2.1, nI_leI (by omega) (by omega)] at q
      omega
    | succ e ih =>
      intro a g ts v3 he ha hf hc kk
      have ga : gs[a]? = some gs[a] := List.getElem?_eq_getElem (by omega)
      refine B_Ta_addFirstRound_2 (hf.gr hG).1 (fun q => ?_) (fun _ => B_Ta_addFirstRound_10 (inner a _ ga gs.length 0 g ts rfl (Nat.zero_le _) hf hc (fun g1 f1 c1 => B_Ta_addFirstRound_86 ?_)))
      · rw [(cg hf).2.1, nI_leI (by omega) (by omega)] at q
        omega
      · rw [nI_1]
        exact ih (a + 1) g1 _ _ (by omega) (by omega) f1 c1 kk
  exact outer gs.length 0 h ts _ rfl (Nat.zero_le _) (Fr.rf _ _) hc (fun g' f' c' => k g' c' f')
def nxG (gs : List (List Nat)) (m : Nat) (t : List Nat × Nat) (k : Nat) (ts : TL) : TL :=
  if inm m k then (if t.1 = (gs.getD k []).take t.1.length then tadd ts ((gs.getD k []).drop t.1.length) (t.2 ||| 2 ^ k) else if gs.getD k [] = t.1.take (gs.getD k []).length then tadd ts (t.1.drop (gs.getD k []).length) (t.2 ||| 2 ^ k) else ts) else ts
def nxK (gs : List (List Nat)) (m : Nat) (t : List Nat × Nat) : Nat → Nat → TL → TL
  | 0, _, ts => ts
  | e + 1, k, ts => nxK gs m t e (k + 1) (nxG gs m t k ts)
def nxT (gs : List (List Nat)) (m : Nat) : Nat → Nat → TL → TL
  | 0, _, ts => ts
  | e + 1, i, ts => nxT gs m e (i + 1) (nxK gs m (ts.getD i ([], 0)) gs.length 0 ts)
theorem nxG_get {gs : List (List Nat)} {m : Nat} {u : List Nat × Nat} {k : Nat} {ts : TL} {i : Nat} {t : List Nat × Nat} (h : ts[i]? = some t) : (nxG gs m u k ts)[i]? = some t := by
  unfold nxG
  by_cases z : inm m k
  · rw [if_pos z]
    by_cases y : u.1 = (gs.getD k []).take u.1.length
    · rw [if_pos y]
      exact tadd_get h
    · rw [if_neg y]
      by_cases x : gs.getD k [] = u.1.take (gs.getD k []).length
      · rw [if_pos x]
        exact tadd_get h
      · rw [if_neg x]
        exact h
  · rw [if_neg z]
    exact h
theorem nxK_get {gs : List (List Nat)} {m : Nat} {u : List Nat × Nat} {i : Nat} {t : List Nat × Nat} : ∀ (e k : Nat) (ts : TL), ts[i]? = some t → (nxK gs m u e k ts)[i]? = some t
  | 0, _, _, h => h
  | e + 1, k, ts, h => nxK_get e (k + 1) _ (nxG_get h)
theorem ta_next {d : Nat} {h : PH} {Q : PQ} {b o p q : Nat} {ts : TL} {gs : List (List Nat)} {m : Nat} (hT : TaS h b) (hG : GrS h o) (hob : o + 5 < b ∨ b + 7 < o) (hg : CGr h o gs m) (hc : CTa h b ts) (hpq : p ≤ q) (hq : q ≤ ts.length) (k : ∀ h', CTa h' b (nxT gs m (q - p) p ts) → Fr (WtailR b) h h' → Q none h') : wpm (d + 4) 71 [.ref b, .ref o, .int (nI p), .int (nI q)] h Q := by
  refine wpm_in P_Ta_addNextRound rfl (by decide) (by show ¬ 7 < 4; decide) (B_Ta_addNextRound_0 ?_)
  have h14 := hg.1.1
  have cg : ∀ {g : PH}, Fr (WtailR b) h g → CGr g o gs m := fun hf => CGr.fr hf (fun c k z y => by unfold WtailR at z; omega) hg
  have q98 : q ≤ 98 := by have := hc.1.1; omega
  have inner : ∀ (i : Nat) (t : List Nat × Nat), okr t.1 → i < 98 → t.2 < 2 ^ 14 → ∀ (e j : Nat) (g : PH) (ts : TL) (v6 : Value), gs.length - j = e → j ≤ gs.length → Fr (WtailR b) h g → CTa g b ts → ts[i]? = some t → (∀ g' v6, Fr (WtailR b) h g' → CTa g' b (nxK gs m t e j ts) → wpx (d + 3) P_Ta_addNextRound 177 [.ref b, .ref o, .int (nI p), .int (nI q), .int (nI i), .int (nI gs.length), v6] [] g' Q) → wpx (d + 3) P_Ta_addNextRound 12 [.ref b, .ref o, .int (nI p), .int (nI q), .int (nI i), .int (nI j), v6] [] g Q := by
    intro i t t1 i98 t3 e
    have t7 := t1.2
    induction e with
    | zero =>
      intro j g ts v6 he hj hf hc hi kk
      have ej : j = gs.length := by omega
      subst ej
      refine B_Ta_addNextRound_12 (hf.gr hG).1 (fun _ => kk g v6 hf hc) (fun z => ?_)
      rw [(cg hf).2.1, nI_leI (by omega) (by omega)] at z
      omega
    | succ e ih =>
      intro j g ts v6 he hj hf hc hi kk
      have hG' := hf.gr hG
      have hg' := cg hf
      have hT' := hT.fr hf
      have gj : gs[j]? = some gs[j] := List.getElem?_eq_getElem (by omega)
      generalize gs[j] = lj at gj
      have el : gs.getD j [] = lj := by rw [List.getD_eq_getElem?_getD, gj]; rfl
      obtain ⟨b1, b2, b3⟩ := hg.1.at gj
      have b7 := b1.2
      have vi : vp_in (nI i) 98 := vp_in_nI i98 (by omega)
      have vj : vp_in (nI j) 14 := vp_in_nI b3 (by omega)
      have go : ∀ (g1 : PH) (ts1 : TL) (v : Value), nxG gs m t j ts = ts1 → Fr (WtailR b) h g1 → CTa g1 b ts1 → wpx (d + 3) P_Ta_addNextRound 171 [.ref b, .ref o, .int (nI p), .int (nI q), .int (nI i), .int (nI j), v] [] g1 Q := fun g1 ts1 v z f1 c1 => by
        refine B_Ta_addNextRound_171 ?_
        rw [nI_1]
        refine ih (j + 1) g1 ts1 v (by omega) (by omega) f1 c1 (by rw [← z]; exact nxG_get hi) (fun g' v' f' c' => kk g' v' f' ?_)
        show CTa g' b (nxK gs m t e (j + 1) (nxG gs m t j ts))
        rw [z]
        exact c'
      refine B_Ta_addNextRound_12 hG'.1 (fun z => ?_) (fun _ => B_Ta_addNextRound_21 hG'.1 (gr_isIn hG' hg' (by omega) (fun q1 => ?_) (fun q1 => B_Ta_addNextRound_27 (fun _ => go g ts v6 (by unfold nxG; rw [if_neg q1]) hf hc) (fun z => absurd rfl z))))
      · rw [hg'.2.1, nI_leI (by omega) (by omega)] at z
        omega
      · obtain ⟨x1, x2, x3⟩ := hc.2.2 i t hi
        obtain ⟨y1, y2⟩ := hg'.2.2.2 j lj gj
        refine B_Ta_addNextRound_27 (fun z => absurd z (by decide)) (fun _ => B_Ta_addNextRound_30 hT'.1 hT'.2.2.2.1.1 hT'.2.2.2.1.2 vi hT'.2.1.1 hT'.2.1.2 vi hT'.2.2.1.1 hT'.2.2.1.2 vi hG'.1 hG'.2.1.1 hG'.2.1.2 vj hG'.2.2.1.1 hG'.2.2.1.2 vj ?_)
        have hmk : t.2 ||| 2 ^ j < 2 ^ 14 := Nat.or_lt_two_pow t3 (p14 b3)
        rw [nI_clamp (by omega), nI_clamp (by omega), x1, x2, x3, y1, y2, sh1k _ (by omega), nI_orN (by omega) (by have := p14 b3; omega)]
        refine ow_begins t1 b1 ?_
        by_cases w1 : t.1 = lj.take t.1.length
        · rw [if_pos w1]
          have ln : t.1.length ≤ lj.length := by
            have := congrArg List.length w1
            rw [List.length_take] at this
            omega
          refine B_Ta_addNextRound_75 (fun z => absurd z (by decide)) (fun _ => B_Ta_addNextRound_78 hG'.1 hG'.2.1.1 hG'.2.1.2 vj hG'.2.2.1.1 hG'.2.2.1.2 vj hT'.1 hT'.2.2.1.1 hT'.2.2.1.2 vi ?_)
          rw [nI_clamp (by omega), nI_clamp (by omega), x2, y1, y2, nI_subN ln]
          refine ta_add hT' hc b1 (by omega) hmk (fun g1 c1 f1 => B_Ta_addNextRound_106 (go g1 _ _ ?_ (hf.tr f1) c1))
          unfold nxG
          rw [if_pos q1, el, if_pos w1, show lj.length - (lj.length - t.1.length) = t.1.length by omega]
        · rw [if_neg w1]
          refine B_Ta_addNextRound_75 (fun _ => B_Ta_addNextRound_109 hG'.1 hG'.2.1.1 hG'.2.1.2 vj hG'.2.2.1.1 hG'.2.2.1.2 vj hT'.1 hT'.2.1.1 hT'.2.1.2 vi hT'.2.2.1.1 hT'.2.2.1.2 vi ?_) (fun z => absurd rfl z)
          rw [nI_clamp (by omega), nI_clamp (by omega), x1, x2, y1, y2]
          refine ow_begins b1 t1 ?_
          by_cases w2 : lj = t.1.take lj.length
          · rw [if_pos w2]
            have ln : lj.length ≤ t.1.length := by
              have := congrArg List.length w2
              rw [List.length_take] at this
              omega
            refine B_Ta_addNextRound_140 (fun z => absurd z (by decide)) (fun _ => B_Ta_addNextRound_143 hT'.1 hT'.2.1.1 hT'.2.1.2 vi hT'.2.2.1.1 hT'.2.2.1.2 vi hG'.1 hG'.2.2.1.1 hG'.2.2.1.2 vj ?_)
            rw [nI_clamp (by omega), nI_clamp (by omega), x1, x2, y2, nI_subN ln]
            refine ta_add hT' hc t1 (by omega) hmk (fun g1 c1 f1 => go g1 _ _ ?_ (hf.tr f1) c1)
            unfold nxG
            rw [if_pos q1, el, if_neg w1, if_pos w2, show t.1.length - (t.1.length - lj.length) = lj.length by omega]
          · rw [if_neg w2]
            refine B_Ta_addNextRound_140 (fun _ => go g ts _ ?_ hf hc) (fun z => absurd rfl z)
            unfold nxG
            rw [if_pos q1, el, if_neg w1, if_neg w2]
  have outer : ∀ (e i : Nat) (g : PH) (ts : TL) (v5 v6 : Value), q - i = e → i ≤ q → q ≤ ts.length → Fr (WtailR b) h g → CTa g b ts → (∀ g', Fr (WtailR b) h g' → CTa g' b (nxT gs m e i ts) → Q none g') → wpx (d + 3) P_Ta_addNextRound 3 [.ref b, .ref o, .int (nI p), .int (nI q), .int (nI i), v5, v6] [] g Q := by
    intro e
    induction e with
    | zero =>
      intro i g ts v5 v6 he hi hqt hf hc kk
      refine B_Ta_addNextRound_3 (fun _ => B_Ta_addNextRound_183 (kk g hf hc)) (fun z => ?_)
      rw [nI_leI (by omega) (by omega)] at z
      omega
    | succ e ih =>
      intro i g ts v5 v6 he hi hqt hf hc kk
      have gi : ts[i]? = some ts[i] := List.getElem?_eq_getElem (by omega)
      generalize ts[i] = t at gi
      have et : ts.getD i ([], 0) = t := by rw [List.getD_eq_getElem?_getD, gi]; rfl
      obtain ⟨t1, t2, t3, t4⟩ := hc.1.at gi
      refine B_Ta_addNextRound_3 (fun z => ?_) (fun _ => B_Ta_addNextRound_9 (inner i t t1 t4 t3 gs.length 0 g ts v6 rfl (Nat.zero_le _) hf hc gi (fun g1 v f1 c1 => B_Ta_addNextRound_177 ?_)))
      · rw [nI_leI (by omega) (by omega)] at z
        omega
      · rw [nI_1]
        have hlen : q ≤ (nxK gs m t gs.length 0 ts).length := by
          by_cases z : q = 0
          · omega
          · have gq : ts[q - 1]? = some ts[q - 1] := List.getElem?_eq_getElem (by omega)
            have := (List.getElem?_eq_some_iff.mp (nxK_get (gs := gs) (m := m) (u := t) gs.length 0 ts gq)).1
            omega
        refine ih (i + 1) g1 _ _ _ (by omega) (by omega) hlen f1 c1 (fun g' f' c' => kk g' f' ?_)
        show CTa g' b (nxT gs m e (i + 1) (nxK gs m (ts.getD i ([], 0)) gs.length 0 ts))
        rw [et]
        exact c'
  exact outer (q - p) p h ts _ _ rfl hpq hq (Fr.rf _ _) hc (fun g' f' c' => k g' c' f')
