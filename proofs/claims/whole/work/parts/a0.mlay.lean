/-! tails on the reference's side: all ends laid, and where each end stands -/
def leI (gs : List (List Nat)) (g : Nat) : Nat → Nat → List (Nat × Nat) → List (Nat × Nat)
  | 0, _, E => E
  | e + 1, i, E => leI gs g e (i + 1) (insE gs E (g, i))
def leG (gs : List (List Nat)) (m : Nat) : Nat → Nat → List (Nat × Nat) → List (Nat × Nat)
  | 0, _, E => E
  | e + 1, g, E => leG gs m e (g + 1) (if inm m g then leI gs g ((gs.getD g []).length - 1) 1 E else E)
def HasR (gs : List (List Nat)) (E : List (Nat × Nat)) (r : List Nat) : Prop := ∃ f ∈ E, rwE gs f = r
theorem insE_has {gs : List (List Nat)} {e : Nat × Nat} : ∀ E, HasR gs (insE gs E e) (rwE gs e)
  | [] => ⟨e, List.mem_cons_self .., rfl⟩
  | f :: E => by
    unfold insE
    by_cases z : kyl (rwE gs f) < kyl (rwE gs e)
    · rw [if_pos z]
      obtain ⟨x, x1, x2⟩ := insE_has (gs := gs) (e := e) E
      exact ⟨x, List.mem_cons_of_mem _ x1, x2⟩
    · rw [if_neg z]
      by_cases y : rwE gs e = rwE gs f
      · rw [if_pos y]
        exact ⟨f, List.mem_cons_self .., y.symm⟩
      · rw [if_neg y]
        exact ⟨e, List.mem_cons_self .., rfl⟩
theorem insE_mem {gs : List (List Nat)} {e x : Nat × Nat} : ∀ E, x ∈ E → x ∈ insE gs E e
  | [], h => by cases h
  | f :: E, h => by
    unfold insE
    by_cases z : kyl (rwE gs f) < kyl (rwE gs e)
    · rw [if_pos z]
      rcases List.mem_cons.mp h with w | w
      · rw [w]
        exact List.mem_cons_self ..
      · exact List.mem_cons_of_mem _ (insE_mem E w)
    · rw [if_neg z]
      by_cases y : rwE gs e = rwE gs f
      · rw [if_pos y]
        exact h
      · rw [if_neg y]
        exact List.mem_cons_of_mem _ h
theorem insE_len {gs : List (List Nat)} {e : Nat × Nat} : ∀ E, (insE gs E e).length ≤ E.length + 1
  | [] => Nat.le_refl _
  | f :: E => by
    unfold insE
    by_cases z : kyl (rwE gs f) < kyl (rwE gs e)
    · rw [if_pos z, List.length_cons, List.length_cons]
      have := insE_len (gs := gs) (e := e) E
      omega
    · rw [if_neg z]
      by_cases y : rwE gs e = rwE gs f
      · rw [if_pos y]
        omega
      · rw [if_neg y]
        exact Nat.le_refl _
theorem leI_mem {gs : List (List Nat)} {g : Nat} {x : Nat × Nat} : ∀ (e i : Nat) (E : List (Nat × Nat)), x ∈ E → x ∈ leI gs g e i E
  | 0, _, _, h => h
  | e + 1, i, E, h => leI_mem e (i + 1) _ (insE_mem E h)
theorem leI_has {gs : List (List Nat)} {g : Nat} : ∀ (e i : Nat) (E : List (Nat × Nat)) (j : Nat), i ≤ j → j < i + e → HasR gs (leI gs g e i E) (rwE gs (g, j))
  | 0, i, E, j, h1, h2 => by omega
  | e + 1, i, E, j, h1, h2 => by
    by_cases z : j = i
    · subst z
      obtain ⟨x, x1, x2⟩ := insE_has (gs := gs) (e := (g, j)) E
      exact ⟨x, leI_mem e (j + 1) _ x1, x2⟩
    · exact leI_has e (i + 1) _ j (by omega) (by omega)
theorem leG_mem {gs : List (List Nat)} {m : Nat} {x : Nat × Nat} : ∀ (e g : Nat) (E : List (Nat × Nat)), x ∈ E → x ∈ leG gs m e g E
  | 0, _, _, h => h
  | e + 1, g, E, h => by
    show x ∈ leG gs m e (g + 1) (if inm m g then _ else E)
    by_cases z : inm m g
    · rw [if_pos z]
      exact leG_mem e (g + 1) _ (leI_mem _ _ _ h)
    · rw [if_neg z]
      exact leG_mem e (g + 1) _ h
theorem leG_has {gs : List (List Nat)} {m : Nat} : ∀ (e g : Nat) (E : List (Nat × Nat)) (a j : Nat), g ≤ a → a < g + e → inm m a → 0 < j → j < (gs.getD a []).length → HasR gs (leG gs m e g E) (rwE gs (a, j))
  | 0, g, E, a, j, h1, h2, _, _, _ => by omega
  | e + 1, g, E, a, j, h1, h2, h3, h4, h5 => by
    show HasR gs (leG gs m e (g + 1) (if inm m g then _ else E)) _
    by_cases z : a = g
    · subst z
      rw [if_pos h3]
      obtain ⟨x, x1, x2⟩ := leI_has (gs := gs) (g := a) ((gs.getD a []).length - 1) 1 E j (by omega) (by omega)
      exact ⟨x, leG_mem e (a + 1) _ x1, x2⟩
    · exact leG_has e (g + 1) _ a j (by omega) (by omega) h3 h4 h5
theorem md_agn {d : Nat} {h : PH} {Q : PQ} {gs : List (List Nat)} {m g i t : Nat} {E : List (Nat × Nat)} {f : Nat × Nat} {l : List Nat} (hM : MdS h) (hg : MGr h gs m) (hE : MEn h gs E) (ht : E[t]? = some f) (hl : gs[g]? = some l) (hi : i ≤ l.length) (kk : ∀ v : Int32, (v ≤ 0 ↔ ¬ kyl (rwE gs f) < kyl (l.drop i)) → (v = 0 ↔ l.drop i = rwE gs f) → Q (some (.int v)) h) : wpm (d + 3) 208 [.ref 17, .int (nI g), .int (nI i), .int (nI t)] h Q := by
  obtain ⟨l1, l2, l3⟩ := hg.1.at hl
  have okd := l1.drop i
  obtain ⟨l', f1, f2, f3, f4, _, _⟩ := hE.at ht
  obtain ⟨a1, a2, a3⟩ := hg.1.at f1
  have oka := a1.drop f.2
  rw [← f3] at oka
  refine md_against hM hg hE ht hl hi (kk _ ?_ ?_)
  all_goals
    have x1 := frs_lt (l := (l.drop i).drop (cpl (l.drop i) (rwE gs f))) (fun x hx => (okd.in32 x (List.mem_of_mem_drop hx)).2)
    have x2 := frs_lt (l := (rwE gs f).drop (cpl (l.drop i) (rwE gs f))) (fun x hx => (oka.in32 x (List.mem_of_mem_drop hx)).2)
    obtain ⟨s1, s2⟩ := sub_le _ x1 _ x2
    obtain ⟨u1, u2⟩ := ag_lex 7 (l.drop i) (rwE gs f) okd.2 oka.2 okd.in32 oka.in32
  · rw [s1]
    rw [kyw_7, kyw_7] at u2
    rw [← u2]
    omega
  · rw [s2]
    exact u1
def EOf (h : PH) (gs : List (List Nat)) (m : Nat) (E : List (Nat × Nat)) (a b : Nat) : Prop := ∀ g l i, gs[g]? = some l → inm m g → 0 < i → i < l.length → (g < a ∨ (g = a ∧ i < b)) → ∃ t e, E[t]? = some e ∧ rwE gs e = l.drop i ∧ h_i h 30 (8 * g + i) = nI t
theorem MEn.fr {W : Nat → Nat → Prop} {h h' : PH} {gs : List (List Nat)} {E : List (Nat × Nat)} (hf : Fr W h h') (hw : ∀ c k, W c k → ¬ ((c = 17 ∧ k = 32) ∨ c = 27 ∨ c = 28)) (hE : MEn h gs E) : MEn h' gs E :=
  ⟨hE.1, (hf.i _ _ (fun z => hw _ _ z (Or.inl ⟨rfl, rfl⟩))).trans hE.2.1, fun t e ht => ⟨(hf.i _ _ (fun z => hw _ _ z (Or.inr (Or.inl rfl)))).trans (hE.2.2 t e ht).1, (hf.i _ _ (fun z => hw _ _ z (Or.inr (Or.inr rfl)))).trans (hE.2.2 t e ht).2⟩⟩
theorem md_layEnds {d : Nat} {h : PH} {Q : PQ} {gs : List (List Nat)} {m : Nat} (hM : MdS h) (hg : MGr h gs m) (k : ∀ h', MEn h' gs (leG gs m gs.length 0 []) → EOf h' gs m (leG gs m gs.length 0 []) gs.length 0 → Fr Wle h h' → Q none h') : wpm (d + 4) 209 [.ref 17] h Q := by
  refine wpm_in P_Md_layEnds rfl (by decide) (by show ¬ 5 < 1; decide) ?_
  have h14 := hg.1.1
  have mg : ∀ {g : PH}, Fr Wle h g → MGr g gs m := fun hf => MGr.fr hf (fun c k z => by unfold Wle at z; omega) hg
  -- where each end stands
  have places : ∀ (E : List (Nat × Nat)) (h1 : PH) (v1 v2 v3 v4 : Value), Fr Wle h h1 → MEn h1 gs E → (∀ a j, a < gs.length → inm m a → 0 < j → j < (gs.getD a []).length → HasR gs E (rwE gs (a, j))) → (∀ h', MEn h' gs E → EOf h' gs m E gs.length 0 → Fr Wle h h' → Q none h') → wpx (d + 3) P_Md_layEnds 171 [.ref 17, .int (nI gs.length), v2, v3, v4] [] h1 Q := by
    intro E h1 _ v2 v3 v4 hf1 hE1 hH kk
    have find : ∀ (g i : Nat) (l : List Nat) (h2 : PH) (v4 : Value), Fr Wle h h2 → MEn h2 gs E → gs[g]? = some l → i < l.length → (∀ t e, E[t]? = some e → rwE gs e = l.drop i → wpx (d + 3) P_Md_layEnds 222 [.ref 17, .int (nI g), .int (nI i), .int (nI t), v4] [] h2 Q) → ∀ (R P : List (Nat × Nat)), P ++ R = E → (∃ f ∈ R, rwE gs f = l.drop i) → wpx (d + 3) P_Md_layEnds 206 [.ref 17, .int (nI g), .int (nI i), .int (nI P.length), v4] [] h2 Q := by
      intro g i l h2 v4 hf2 hE2 hl hi k2 R
      induction R with
      | nil =>
        intro P _ hx
        obtain ⟨f, f1, _⟩ := hx
        cases f1
      | cons f R ih =>
        intro P eE hx
        have hM2 := hf2.md hM
        have hft : E[P.length]? = some f := by rw [← eE]; exact mdlG
        refine B_Md_layEnds_206 hM2.1 (md_agn hM2 (mg hf2) hE2 hft hl (by omega) (fun v v1 v2 => B_Md_layEnds_213 (fun z => k2 _ f hft (v2.mp z).symm) (fun z => B_Md_layEnds_216 ?_)))
        rw [nI_1]
        have := ih (P ++ [f]) (by rw [List.append_assoc]; exact eE) (by
          obtain ⟨x, x1, x2⟩ := hx
          rcases List.mem_cons.mp x1 with w | w
          · exact absurd (v2.mpr (by rw [← w]; exact x2.symm)) z
          · exact ⟨x, w, x2⟩)
        rw [List.length_append] at this
        exact this
    have inner : ∀ (g : Nat) (l : List Nat), gs[g]? = some l → ∀ (e i : Nat) (h2 : PH) (v3 v4 : Value), l.length - i = e → 0 < i → i ≤ l.length → Fr Wle h h2 → MEn h2 gs E → EOf h2 gs m E g i → (∀ h3 v2 v3 v4, Fr Wle h h3 → MEn h3 gs E → EOf h3 gs m E (g + 1) 0 → wpx (d + 3) P_Md_layEnds 240 [.ref 17, .int (nI g), .int v2, v3, v4] [] h3 Q) → wpx (d + 3) P_Md_layEnds 183 [.ref 17, .int (nI g), .int (nI i), v3, v4] [] h2 Q := by
      intro g l hl e
      obtain ⟨l1, l2, l3⟩ := hg.1.at hl
      have l7 := l1.2
      have ed : gs.getD g [] = l := by rw [List.getD_eq_getElem?_getD, hl]; rfl
      have glt := (List.getElem?_eq_some_iff.mp hl).1
      have vg : vp_in (nI g) 14 := vp_in_nI l3 (by omega)
      have done : ∀ {h2 : PH} {i : Nat}, EOf h2 gs m E g i → (l.length ≤ i ∨ ¬ inm m g) → EOf h2 gs m E (g + 1) 0 := fun {h2 i} ho hz g' l' i' a1 a2 a3 a4 a5 => by
        rcases (show g' < g ∨ g' = g by omega) with w | w
        · exact ho g' l' i' a1 a2 a3 a4 (Or.inl w)
        · subst w
          rw [hl] at a1
          have : l = l' := Option.some.inj a1
          subst this
          rcases hz with z | z
          · exact ho g' l i' hl a2 a3 a4 (Or.inr ⟨rfl, by omega⟩)
          · exact absurd a2 z
      induction e with
      | zero =>
        intro i h2 v3 v4 he hi0 hi hf2 hE2 ho kn
        have hM2 := hf2.md hM
        refine B_Md_layEnds_183 hM2.1 (mr_size hM2) (ms_size hM2) vg (fun _ => kn h2 _ _ _ hf2 hE2 (done ho (Or.inl (by omega)))) (fun z => ?_)
        rw [nI_clamp (by omega), ((mg hf2).2.2.2 _ _ hl).1, nI_leI (by omega) (by omega)] at z
        omega
      | succ e ih =>
        intro i h2 v3 v4 he hi0 hi hf2 hE2 ho kn
        have hM2 := hf2.md hM
        refine B_Md_layEnds_183 hM2.1 (mr_size hM2) (ms_size hM2) vg (fun z => ?_) (fun _ => B_Md_layEnds_193 hM2.1 ?_)
        · rw [nI_clamp (by omega), ((mg hf2).2.2.2 _ _ hl).1, nI_leI (by omega) (by omega)] at z
          omega
        · rw [(mg hf2).2.2.1]
          refine md_isOf hg.1.m31 (by omega) (fun q => B_Md_layEnds_201 (fun z => absurd z (by decide)) (fun _ => B_Md_layEnds_204 ?_)) (fun q => B_Md_layEnds_201 (fun _ => kn h2 _ _ _ hf2 hE2 (done ho (Or.inr q))) (fun z => absurd rfl z))
          refine find g i l h2 v4 hf2 hE2 hl (by omega) (fun t x ht hx => ?_) E [] rfl ?_
          · have e8 : ((8 : Int32) * nI g) + nI i = nI (8 * g + i) := by rw [show (8 : Int32) = nI 8 from rfl, nI_mulN, nI_add]
            refine B_Md_layEnds_222 hM2.1 (mr_endOf hM2) (ms_endOf hM2) (by rw [e8]; exact vp_in_nI (by omega) (by omega)) ?_
            rw [e8, nI_clamp (by omega), nI_1]
            have f3 : Fr (fun c k => c = 30 ∧ k = 8 * g + i) h2 (w_i h2 30 (8 * g + i) (nI t)) := Fr.wi h2 _ ⟨rfl, rfl⟩
            refine ih (i + 1) _ _ _ (by omega) (by omega) (by omega) (hf2.tr (f3.up (fun c k z => by unfold Wle; omega))) (hE2.fr f3 (fun c k z => by omega)) (fun g' l' i' a1 a2 a3 a4 a5 => ?_) kn
            by_cases w : g' = g ∧ i' = i
            · obtain ⟨w1, w2⟩ := w
              subst w1
              subst w2
              rw [hl] at a1
              have : l = l' := Option.some.inj a1
              subst this
              exact ⟨t, x, ht, hx, wi_eq _ _ _ _⟩
            · obtain ⟨t', e', b1, b2, b3⟩ := ho g' l' i' a1 a2 a3 a4 (by omega)
              have i7 := ((hg.1.at a1).1).2
              exact ⟨t', e', b1, b2, (f3.i _ _ (by omega)).trans b3⟩
          · obtain ⟨x, x1, x2⟩ := hH g i glt q hi0 (by rw [ed]; omega)
            refine ⟨x, x1, x2.trans ?_⟩
            show (gs.getD g []).drop i = _
            rw [ed]
    have outer : ∀ (e g : Nat) (h2 : PH) (v2 v3 v4 : Value), gs.length - g = e → g ≤ gs.length → Fr Wle h h2 → MEn h2 gs E → EOf h2 gs m E g 0 → wpx (d + 3) P_Md_layEnds 173 [.ref 17, .int (nI g), v2, v3, v4] [] h2 Q := by
      intro e
      induction e with
      | zero =>
        intro g h2 v2 v3 v4 he hgl hf2 hE2 ho
        have eg : g = gs.length := by omega
        subst eg
        refine B_Md_layEnds_173 (hf2.md hM).1 (fun _ => B_Md_layEnds_246 (kk h2 hE2 ho hf2)) (fun z => ?_)
        rw [(mg hf2).2.1, nI_leI (by omega) (by omega)] at z
        omega
      | succ e ih =>
        intro g h2 v2 v3 v4 he hgl hf2 hE2 ho
        have gj : gs[g]? = some gs[g] := List.getElem?_eq_getElem (by omega)
        have lp := (hg.1.at gj).2.1
        refine B_Md_layEnds_173 (hf2.md hM).1 (fun z => ?_) (fun _ => B_Md_layEnds_181 (inner g _ gj _ 1 h2 _ _ rfl (by omega) (by omega) hf2 hE2 (fun g' l' i' a1 a2 a3 a4 a5 => ho g' l' i' a1 a2 a3 a4 (Or.inl (by omega))) (fun h3 w2 w3 w4 f3 E3 o3 => B_Md_layEnds_240 ?_)))
        · rw [(mg hf2).2.1, nI_leI (by omega) (by omega)] at z
          omega
        · rw [nI_1]
          exact ih (g + 1) h3 _ _ _ (by omega) (by omega) f3 E3 o3
    exact B_Md_layEnds_171 (outer gs.length 0 h1 _ _ _ rfl (Nat.zero_le _) hf1 hE1 (fun g' l' i' a1 a2 a3 a4 a5 => by omega))
  -- the ends, one after another
  have inner : ∀ (g : Nat) (l : List Nat), gs[g]? = some l → inm m g → ∀ (e i : Nat) (E : List (Nat × Nat)) (h2 : PH) (v3 v4 : Value), l.length - i = e → 0 < i → i ≤ l.length → E.length ≤ 6 * g + (i - 1) → Fr Wle h h2 → MEn h2 gs E → (∀ h3 v2 v3 v4, Fr Wle h h3 → MEn h3 gs (leI gs g e i E) → (leI gs g e i E).length ≤ 6 * (g + 1) → wpx (d + 3) P_Md_layEnds 165 [.ref 17, .int (nI g), .int v2, v3, v4] [] h3 Q) → wpx (d + 3) P_Md_layEnds 17 [.ref 17, .int (nI g), .int (nI i), v3, v4] [] h2 Q := by
    intro g l hl hin e
    obtain ⟨l1, l2, l3⟩ := hg.1.at hl
    have l7 := l1.2
    have vg : vp_in (nI g) 14 := vp_in_nI l3 (by omega)
    induction e with
    | zero =>
      intro i E h2 v3 v4 he hi0 hi hEl hf2 hE2 kn
      have hM2 := hf2.md hM
      refine B_Md_layEnds_17 hM2.1 (mr_size hM2) (ms_size hM2) vg (fun _ => kn h2 _ _ _ hf2 hE2 (by show E.length ≤ _; omega)) (fun z => ?_)
      rw [nI_clamp (by omega), ((mg hf2).2.2.2 _ _ hl).1, nI_leI (by omega) (by omega)] at z
      omega
    | succ e ih =>
      intro i E h2 v3 v4 he hi0 hi hEl hf2 hE2 kn
      have hM2 := hf2.md hM
      refine B_Md_layEnds_17 hM2.1 (mr_size hM2) (ms_size hM2) vg (fun z => ?_) (fun _ => B_Md_layEnds_27 hM2.1 ?_)
      · rw [nI_clamp (by omega), ((mg hf2).2.2.2 _ _ hl).1, nI_leI (by omega) (by omega)] at z
        omega
      · rw [(mg hf2).2.2.1]
        refine md_isOf hg.1.m31 (by omega) (fun q => B_Md_layEnds_35 (fun z => absurd z (by decide)) (fun _ => le_step hM2 (mg hf2) hE2 hl (by omega) (by omega) (fun h3 x3 w4 E3 f3 => B_Md_layEnds_159 ?_))) (fun q => absurd hin q)
        rw [nI_1]
        have := insE_len (gs := gs) (e := (g, i)) E
        exact ih (i + 1) _ h3 _ _ (by omega) (by omega) (by omega) (by omega) (hf2.tr f3) E3 kn
  have outer : ∀ (e g : Nat) (E : List (Nat × Nat)) (h2 : PH) (v2 v3 v4 : Value), gs.length - g = e → g ≤ gs.length → E.length ≤ 6 * g → Fr Wle h h2 → MEn h2 gs E → leG gs m e g E = leG gs m gs.length 0 [] → wpx (d + 3) P_Md_layEnds 7 [.ref 17, .int (nI g), v2, v3, v4] [] h2 Q := by
    intro e
    induction e with
    | zero =>
      intro g E h2 v2 v3 v4 he hgl hEl hf2 hE2 heq
      have eg : g = gs.length := by omega
      subst eg
      have heq' : E = leG gs m gs.length 0 [] := heq
      refine B_Md_layEnds_7 (hf2.md hM).1 (fun _ => places E h2 (.int 0) _ _ _ hf2 hE2 (fun a j a1 a2 a3 a4 => ?_) (fun h' b1 b2 b3 => ?_)) (fun z => ?_)
      · rw [heq']
        exact leG_has _ _ _ a j (Nat.zero_le _) (by omega) a2 a3 a4
      · rw [heq'] at b1 b2
        exact k h' b1 b2 b3
      · rw [(mg hf2).2.1, nI_leI (by omega) (by omega)] at z
        omega
    | succ e ih =>
      intro g E h2 v2 v3 v4 he hgl hEl hf2 hE2 heq
      have gj : gs[g]? = some gs[g] := List.getElem?_eq_getElem (by omega)
      generalize gs[g] = l at gj
      obtain ⟨l1, l2, l3⟩ := hg.1.at gj
      have l7 := l1.2
      have ed : gs.getD g [] = l := by rw [List.getD_eq_getElem?_getD, gj]; rfl
      have hM2 := hf2.md hM
      have vg : vp_in (nI g) 14 := vp_in_nI l3 (by omega)
      refine B_Md_layEnds_7 hM2.1 (fun z => ?_) (fun _ => B_Md_layEnds_15 ?_)
      · rw [(mg hf2).2.1, nI_leI (by omega) (by omega)] at z
        omega
      · by_cases q : inm m g
        · have heq' : leG gs m e (g + 1) (leI gs g (l.length - 1) 1 E) = leG gs m gs.length 0 [] := by
            rw [← heq]
            show _ = leG gs m e (g + 1) (if inm m g then leI gs g ((gs.getD g []).length - 1) 1 E else E)
            rw [if_pos q, ed]
          refine inner g l gj q (l.length - 1) 1 E h2 _ _ rfl (by omega) (by omega) (by omega) hf2 hE2 (fun h3 w2 w3 w4 f3 E3 n3 => B_Md_layEnds_165 ?_)
          rw [nI_1]
          exact ih (g + 1) _ h3 _ _ _ (by omega) (by omega) n3 f3 E3 heq'
        · have heq' : leG gs m e (g + 1) E = leG gs m gs.length 0 [] := by
            rw [← heq]
            show _ = leG gs m e (g + 1) (if inm m g then leI gs g ((gs.getD g []).length - 1) 1 E else E)
            rw [if_neg q]
          have next : ∀ (w2 : Int32) (w3 w4 : Value), wpx (d + 3) P_Md_layEnds 165 [.ref 17, .int (nI g), .int w2, w3, w4] [] h2 Q := fun w2 w3 w4 => by
            refine B_Md_layEnds_165 ?_
            rw [nI_1]
            exact ih (g + 1) E h2 _ _ _ (by omega) (by omega) (by omega) hf2 hE2 heq'
          refine B_Md_layEnds_17 hM2.1 (mr_size hM2) (ms_size hM2) vg (fun _ => next _ _ _) (fun _ => B_Md_layEnds_27 hM2.1 ?_)
          rw [(mg hf2).2.2.1]
          exact md_isOf hg.1.m31 (by omega) (fun y => absurd y q) (fun _ => B_Md_layEnds_35 (fun _ => next _ _ _) (fun z => absurd rfl z))
  refine B_Md_layEnds_0 hM.1 ?_
  have f0 : Fr (fun c k => c = 17 ∧ k = 32) h (w_i h 17 32 0) := Fr.wi h _ ⟨rfl, rfl⟩
  exact outer gs.length 0 [] _ _ _ _ rfl (Nat.zero_le _) (Nat.zero_le _) (f0.up (fun c k z => by unfold Wle; omega)) ⟨⟨Nat.zero_le _, fun e he => by cases he⟩, wi_eq _ _ _ _, fun t e ht => by cases ht⟩ rfl
