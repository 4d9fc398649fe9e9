/-! borders on the reference's side: does a row end where groups do, and within -/
/-- for the first letters of a row, so many each: whether they end where groups do -/
def MEd (h : PH) (gs : List (List Nat)) (m : Nat) (r : List Nat) (c : Nat) : Prop := ∀ b, b < c → bt (h_i h 59 b) (iE gs m (r.take b))
theorem tk_tk {r : List Nat} {b c : Nat} : (r.take b).take (b - c) = r.take (b - c) := by
  rw [List.take_take, Nat.min_eq_left (Nat.sub_le _ _)]
theorem md_layEndsOf {d n : Nat} {h : PH} {Q : PQ} {gs : List (List Nat)} {m : Nat} {r : List Nat} (hM : MdS h) (hg : MGr h gs m) (hI : MIt h r) (hr : r.length = n) (hn : n ≤ 4) (hx : ∀ x ∈ r, 0 < x ∧ x < 28) (k : ∀ h', MEd h' gs m r (n + 1) → Fr (fun x _ => x = 59) h h' → Q none h') : wpm (d + 3) 264 [.ref 17, .int (nI n)] h Q := by
  refine wpm_in P_Md_layEndsOf rfl (by decide) (by show ¬ 4 < 2; decide) ?_
  have h14 := hg.1.1
  have m31 := hg.1.m31
  have outer : ∀ (e b : Nat) (g : PH) (v3 : Value), n + 1 - b = e → b ≤ n + 1 → MEd g gs m r b → Fr (fun x _ => x = 59) h g → wpx (d + 2) P_Md_layEndsOf 2 [.ref 17, .int (nI n), .int (nI b), v3] [] g Q := by
    intro e
    induction e with
    | zero =>
      intro b g v3 he hb hE hf
      have eb : b = n + 1 := by omega
      subst eb
      refine B_Md_layEndsOf_2 (fun _ => B_Md_layEndsOf_116 (k g hE hf)) (fun w => absurd ?_ w)
      rw [nI_ltI (by omega) (by omega)]
      omega
    | succ e ih =>
      intro b g v3 he hb hE hf
      have hMg := hf.md hM
      have vb : vp_in (nI b) 5 := vp_in_nI (by omega) (by omega)
      have tl : (r.take b).length = b := by
        rw [List.length_take]
        omega
      have nxt : ∀ (g1 : PH) (v : Value), bt (h_i g1 59 b) (iE gs m (r.take b)) → MEd g1 gs m r b → Fr (fun x _ => x = 59) h g1 → ∀ x3, wpx (d + 2) P_Md_layEndsOf 110 [.ref 17, .int (nI n), .int (nI b), .int x3] [] g1 Q := by
        intro g1 v hb1 hE1 hf1 x3
        refine B_Md_layEndsOf_110 ?_
        rw [nI_1]
        refine ih (b + 1) g1 _ (by omega) (by omega) (fun c hc => ?_) hf1
        by_cases y : c = b
        · rw [y]
          exact hb1
        · exact hE1 c (by omega)
      have inner : ∀ (e2 j : Nat) (g1 : PH), gs.length - j = e2 → j ≤ gs.length → bt (h_i g1 59 b) (b = 0 ∨ ∃ t, t < j ∧ hitE gs m (r.take b) t) → MEd g1 gs m r b → Fr (fun x _ => x = 59) h g1 → wpx (d + 2) P_Md_layEndsOf 24 [.ref 17, .int (nI n), .int (nI b), .int (nI j)] [] g1 Q := by
        intro e2
        induction e2 with
        | zero =>
          intro j g1 he2 hj hB hE1 hf1
          have hM1 := hf1.md hM
          have hg1 := hg.fr hf1 (fun x k z => by omega)
          have ej : j = gs.length := by omega
          subst ej
          refine B_Md_layEndsOf_24 hM1.1 (fun _ => nxt g1 (.int 0) (hB.cg ?_) hE1 hf1 _) (fun w => ?_)
          · by_cases y : b = 0
            · subst y
              exact ⟨fun _ => by rw [List.take_zero]; exact iE_nil, fun _ => Or.inl rfl⟩
            · rw [iE_hit hg.1 (fun z => by rw [z] at tl; exact y tl.symm)]
              constructor
              · rintro (z | ⟨t, _, ht⟩)
                · exact absurd z y
                · exact ⟨t, ht⟩
              · rintro ⟨t, ht⟩
                obtain ⟨_, l, hl, _⟩ := id ht
                exact Or.inr ⟨t, (List.getElem?_eq_some_iff.mp hl).1, ht⟩
          · rw [hg1.2.1, nI_leI (by omega) (by omega)] at w
            omega
        | succ e2 ih2 =>
          intro j g1 he2 hj hB hE1 hf1
          have hM1 := hf1.md hM
          have hg1 := hg.fr hf1 (fun x k z => by omega)
          have hI1 : MIt g1 r := fun k x hk => by rw [hf1.i _ _ (by omega)]; exact hI k x hk
          have gl : gs[j]? = some (gs[j]'(by omega)) := List.getElem?_eq_getElem (by omega)
          generalize gs[j]'(by omega) = l at gl
          obtain ⟨l1, l2, l3⟩ := hg.1.at gl
          have l7 := l1.2
          have vj : vp_in (nI j) 14 := vp_in_nI (by omega) (by omega)
          have cj : (nI j).toNatClampNeg = j := nI_clamp (by omega)
          have cb : (nI b).toNatClampNeg = b := nI_clamp (by omega)
          refine B_Md_layEndsOf_24 hM1.1 (fun w => ?_) (fun _ => B_Md_layEndsOf_32 hM1.1 (mr_isEnd hM1) (ms_isEnd hM1) vb (fun w => ?_) (fun w => B_Md_layEndsOf_41 hM1.1 (mr_isEnd hM1) ?_))
          · rw [hg1.2.1, nI_leI (by omega) (by omega)] at w
            omega
          · rw [cb] at w
            refine nxt g1 (.int 0) ⟨fun _ => ?_, fun z => absurd ?_ z⟩ hE1 hf1 _
            · exact hB.1 (hB.f w)
            · rcases hB.f w with z0 | ⟨t, _, ht⟩
              · rw [z0, List.take_zero]
                exact iE_nil
              · by_cases y : b = 0
                · rw [y, List.take_zero]
                  exact iE_nil
                · exact (iE_hit hg.1 (fun z2 => by rw [z2] at tl; exact y tl.symm)).mpr ⟨t, ht⟩
          · rw [cb] at w
            have hno := hB.t w
            have put : ∀ (v : Int32), bt v (hitE gs m (r.take b) j) → wpx (d + 2) P_Md_layEndsOf 103 [.ref 17, .int (nI n), .int (nI b), .int (nI j)] [.int v, .int (nI b), .ref 59] g1 Q := by
              intro v hv
              refine B_Md_layEndsOf_103 (ms_isEnd hM1) vb ?_
              rw [cb, nI_1]
              have hv1 : v &&& 1 = v := by
                by_cases y : hitE gs m (r.take b) j
                · rw [hv.1 y]; decide
                · rw [hv.2 y]; decide
              rw [hv1]
              refine ih2 (j + 1) _ (by omega) (by omega) ?_ (fun c hc => ?_) (hf1.tr (Fr.wi _ _ rfl))
              · rw [wi_eq]
                refine hv.cg ⟨fun z => Or.inr ⟨j, by omega, z⟩, ?_⟩
                rintro (z | ⟨t, ht, z⟩)
                · exact absurd (Or.inl z) hno
                · by_cases y : t = j
                  · rw [← y]
                    exact z
                  · exact absurd (Or.inr ⟨t, by omega, z⟩) hno
              · rw [wi_ne _ _ (by omega)]
                exact hE1 c hc
            have b0 : b ≠ 0 := fun z => hno (Or.inl z)
            rw [hg1.2.2.1]
            refine md_isOf m31 (by omega) (fun hin => B_Md_layEndsOf_54 (fun z => absurd z (by decide)) (fun _ => B_Md_layEndsOf_57 hM1.1 (mr_size hM1) (ms_size hM1) vj ?_)) (fun hin => B_Md_layEndsOf_54 (fun _ => B_Md_layEndsOf_102 (put 0 ⟨fun z => absurd z.1 hin, fun _ => rfl⟩)) (fun z => absurd rfl z))
            have esz : h_i g1 19 j = nI l.length := (hg1.2.2.2 j l gl).1
            rw [cj, esz]
            have ltk : l.take l.length = l := List.take_length
            refine md_meetsEnd hM1 hg1 hI1 gl (Nat.le_refl _) (show b ≤ r.length by omega) (by omega) hx (fun hm => B_Md_layEndsOf_69 (fun z => absurd z (by decide)) (fun _ => B_Md_layEndsOf_72 hM1.1 (mr_size hM1) (ms_size hM1) vj (fun w2 => B_Md_layEndsOf_98 (put 1 ⟨fun _ => rfl, fun z => absurd ⟨hin, l, gl, by rw [ltk] at hm; exact hm, Or.inl ?_⟩ z⟩)) (fun w2 => ?_))) (fun hm => B_Md_layEndsOf_69 (fun _ => B_Md_layEndsOf_102 (put 0 ⟨fun z => ?_, fun _ => rfl⟩)) (fun z => absurd rfl z))
            · rw [cj, esz, nI_leI (by omega) (by omega)] at w2
              rw [ltk] at hm
              have es : nI b - nI l.length = nI (b - l.length) := nI_subN (by omega)
              have hb2 := hE1 (b - l.length) (by omega)
              have iff1 : hitE gs m (r.take b) j ↔ iE gs m (r.take (b - l.length)) := by
                constructor
                · rintro ⟨_, l', hl', _, (z | z)⟩
                  · rw [gl] at hl'
                    have : l = l' := Option.some.inj hl'
                    rw [tl, ← this] at z
                    exact absurd z w2
                  · rw [gl] at hl'
                    have : l = l' := Option.some.inj hl'
                    rw [tl, ← this, tk_tk] at z
                    exact z
                · intro z
                  refine ⟨hin, l, gl, hm, Or.inr ?_⟩
                  rw [tl, tk_tk]
                  exact z
              refine B_Md_layEndsOf_82 hM1.1 (mr_isEnd hM1) (mr_size hM1) (ms_size hM1) vj (ms_isEnd hM1) (by rw [cj, esz, es]; exact vp_in_nI (by omega) (by omega)) (fun w3 => B_Md_layEndsOf_102 (put 0 ⟨fun z => ?_, fun _ => rfl⟩)) (fun w3 => B_Md_layEndsOf_98 (put 1 ⟨fun _ => rfl, fun z => ?_⟩)) <;> rw [cj, esz, es, nI_clamp (show b - l.length < 2 ^ 31 by omega)] at w3
              · exact absurd (iff1.mp z) (hb2.t w3)
              · exact absurd (iff1.mpr (hb2.f w3)) z
            · obtain ⟨_, l', hl', hm', _⟩ := z
              rw [gl] at hl'
              have : l = l' := Option.some.inj hl'
              rw [ltk] at hm
              rw [← this] at hm'
              exact absurd hm' hm
            · rw [cj, esz, nI_leI (by omega) (by omega)] at w2
              rw [tl]
              exact w2
      refine B_Md_layEndsOf_2 (fun w => ?_) (fun _ => B_Md_layEndsOf_7 hMg.1 (mr_isEnd hMg) (fun w => B_Md_layEndsOf_20 (B_Md_layEndsOf_21 (ms_isEnd hMg) vb ?_)) (fun w => B_Md_layEndsOf_16 (B_Md_layEndsOf_21 (ms_isEnd hMg) vb ?_)))
      · rw [nI_ltI (by omega) (by omega)] at w
        omega
      · rw [show (0 : Int32) = nI 0 from rfl, nI_eq (by omega) (by omega)] at w
        rw [nI_clamp (show b < 2 ^ 31 by omega)]
        refine inner _ 0 _ rfl (Nat.zero_le _) ?_ (fun c hc => ?_) (hf.tr (Fr.wi _ _ rfl))
        · rw [wi_eq]
          refine ⟨fun z => ?_, fun _ => by decide⟩
          rcases z with z | ⟨t, ht, _⟩
          · exact absurd z w
          · omega
        · rw [wi_ne _ _ (by omega)]
          exact hE c hc
      · rw [show (0 : Int32) = nI 0 from rfl, nI_eq (by omega) (by omega)] at w
        rw [nI_clamp (show b < 2 ^ 31 by omega)]
        refine inner _ 0 _ rfl (Nat.zero_le _) ?_ (fun c hc => ?_) (hf.tr (Fr.wi _ _ rfl))
        · rw [wi_eq]
          exact ⟨fun _ => by decide, fun z => absurd (Or.inl w) z⟩
        · rw [wi_ne _ _ (by omega)]
          exact hE c hc
  exact B_Md_layEndsOf_0 (outer _ 0 h _ rfl (Nat.zero_le _) (fun b hb => absurd hb (by omega)) (Fr.rf _ _))
theorem md_isWithin {d n : Nat} {h : PH} {Q : PQ} {gs : List (List Nat)} {m : Nat} {r : List Nat} (hM : MdS h) (hg : MGr h gs m) (hI : MIt h r) (hE : MEd h gs m r (n + 1)) (hr : r.length = n) (hn : n ≤ 4) (hx : ∀ x ∈ r, 0 < x ∧ x < 28) (k1 : iW gs m r → Q (some (.int 1)) h) (k0 : ¬ iW gs m r → Q (some (.int 0)) h) : wpm (d + 3) 265 [.ref 17, .int (nI n)] h Q := by
  refine wpm_in P_Md_isWithin rfl (by decide) (by show ¬ 4 < 2; decide) ?_
  have h14 := hg.1.1
  have m31 := hg.1.m31
  have rt : r.take n = r := List.take_of_length_le (by omega)
  have outer : ∀ (e j : Nat) (v3 : Value), gs.length - j = e → j ≤ gs.length → (∀ t i, t < j → ¬ hitW gs m r t i) → wpx (d + 2) P_Md_isWithin 2 [.ref 17, .int (nI n), .int (nI j), v3] [] h Q := by
    intro e
    induction e with
    | zero =>
      intro j v3 he hj hno
      have ej : j = gs.length := by omega
      subst ej
      refine B_Md_isWithin_2 hM.1 (fun _ => B_Md_isWithin_73 (k0 (fun w => ?_))) (fun w => ?_)
      · obtain ⟨t, i, ht⟩ := iW_hit.mp w
        obtain ⟨_, l, hl, _⟩ := id ht
        exact hno t i (List.getElem?_eq_some_iff.mp hl).1 ht
      · rw [hg.2.1, nI_leI (by omega) (by omega)] at w
        omega
    | succ e ih =>
      intro j v3 he hj hno
      have gl : gs[j]? = some (gs[j]'(by omega)) := List.getElem?_eq_getElem (by omega)
      generalize gs[j]'(by omega) = l at gl
      obtain ⟨l1, l2, l3⟩ := hg.1.at gl
      have l7 := l1.2
      have vj : vp_in (nI j) 14 := vp_in_nI (by omega) (by omega)
      have cj : (nI j).toNatClampNeg = j := nI_clamp (by omega)
      have esz : h_i h 19 j = nI l.length := (hg.2.2.2 j l gl).1
      have nxt : (∀ i, ¬ hitW gs m r j i) → ∀ x3, wpx (d + 2) P_Md_isWithin 67 [.ref 17, .int (nI n), .int (nI j), .int x3] [] h Q := by
        intro hj0 x3
        refine B_Md_isWithin_67 ?_
        rw [nI_1]
        refine ih (j + 1) _ (by omega) (by omega) (fun t i ht => ?_)
        by_cases y : t = j
        · rw [y]
          exact hj0 i
        · exact hno t i (by omega)
      have inner : ∀ (e2 i : Nat), l.length - i = e2 → 1 ≤ i → i ≤ l.length → (∀ t, t < i → ¬ hitW gs m r j t) → wpx (d + 2) P_Md_isWithin 12 [.ref 17, .int (nI n), .int (nI j), .int (nI i)] [] h Q := by
        intro e2
        induction e2 with
        | zero =>
          intro i he2 h1 hi hno2
          have ei : i = l.length := by omega
          subst ei
          refine B_Md_isWithin_12 hM.1 (mr_size hM) (ms_size hM) vj (fun _ => nxt (fun t ht => ?_) _) (fun w => ?_)
          · obtain ⟨_, l', hl', _, h2, _⟩ := id ht
            rw [gl] at hl'
            have : l = l' := Option.some.inj hl'
            rw [← this] at h2
            exact hno2 t h2 ht
          · rw [cj, esz, nI_leI (by omega) (by omega)] at w
            omega
        | succ e2 ih2 =>
          intro i he2 h1 hi hno2
          refine B_Md_isWithin_12 hM.1 (mr_size hM) (ms_size hM) vj (fun w => ?_) (fun _ => B_Md_isWithin_22 hM.1 ?_)
          · rw [cj, esz, nI_leI (by omega) (by omega)] at w
            omega
          · rw [hg.2.2.1]
            have go : ¬ hitW gs m r j i → wpx (d + 2) P_Md_isWithin 61 [.ref 17, .int (nI n), .int (nI j), .int (nI i)] [] h Q := by
              intro hni
              refine B_Md_isWithin_61 ?_
              rw [nI_1]
              refine ih2 (i + 1) (by omega) (by omega) (by omega) (fun t ht => ?_)
              by_cases y : t = i
              · rw [y]
                exact hni
              · exact hno2 t (by omega)
            refine md_isOf m31 (by omega) (fun hin => B_Md_isWithin_30 (fun z => absurd z (by decide)) (fun _ => B_Md_isWithin_33 hM.1 (md_meetsEnd hM hg hI gl (show i ≤ l.length by omega) (show n ≤ r.length by omega) (by omega) hx (fun hm => B_Md_isWithin_40 (fun z => absurd z (by decide)) (fun _ => B_Md_isWithin_43 (fun w => B_Md_isWithin_59 (k1 (iW_hit.mpr ⟨j, i, hin, l, gl, h1, by omega, by rw [rt] at hm; exact hm, Or.inl ?_⟩))) (fun w => ?_))) (fun hm => B_Md_isWithin_40 (fun _ => go (fun z => ?_)) (fun z => absurd rfl z))))) (fun hin => B_Md_isWithin_30 (fun _ => nxt (fun t ht => hin ht.1) _) (fun z => absurd rfl z))
            · rw [nI_leI (by omega) (by omega)] at w
              omega
            · rw [nI_leI (by omega) (by omega)] at w
              rw [rt] at hm
              have es : nI n - nI i = nI (n - i) := nI_subN (by omega)
              have hb2 := hE (n - i) (by omega)
              refine B_Md_isWithin_48 hM.1 (mr_isEnd hM) (ms_isEnd hM) (by rw [es]; exact vp_in_nI (by omega) (by omega)) (fun w3 => go (fun z => ?_)) (fun w3 => B_Md_isWithin_59 (k1 (iW_hit.mpr ⟨j, i, hin, l, gl, h1, by omega, hm, Or.inr ?_⟩))) <;> rw [es, nI_clamp (show n - i < 2 ^ 31 by omega)] at w3
              · obtain ⟨_, l', _, _, _, _, (z | z)⟩ := z
                · omega
                · rw [hr] at z
                  exact hb2.t w3 z
              · rw [hr]
                exact hb2.f w3
            · obtain ⟨_, l', hl', _, _, hm', _⟩ := z
              rw [gl] at hl'
              have : l = l' := Option.some.inj hl'
              rw [← this] at hm'
              rw [rt] at hm
              exact hm hm'
      refine B_Md_isWithin_2 hM.1 (fun w => ?_) (fun _ => B_Md_isWithin_10 ?_)
      · rw [hg.2.1, nI_leI (by omega) (by omega)] at w
        omega
      · exact inner _ 1 rfl (by omega) (by omega) (fun t ht z => by
          obtain ⟨_, l', _, h1, _⟩ := z
          omega)
  exact B_Md_isWithin_0 (outer _ 0 _ rfl (Nat.zero_le _) (fun t i ht => absurd ht (by omega)))
