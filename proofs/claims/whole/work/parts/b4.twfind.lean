/-! witness on the class's side: all letters behind one word; all words -/
theorem sg_used {N : List (List Nat)} {x : List Nat} {s : Nat} (hN : okN N) (hl : (sgF N (s + 1)).length ≤ (sgF N s).length) : ¬ x ++ [s] ∈ N := fun hx => by
  have h1 : (sgF N (s + 1)).length = (sgF N s).length + (sgB N s N.length).length := List.length_append
  have h2 : sgB N s N.length = [] := List.eq_nil_of_length_eq_zero (by omega)
  have h3 := nix_get hx
  have h4 : nix N (x ++ [s]) ∈ sgB N s N.length := sgB_mem.mpr ⟨?_, nix_lt hx, lsg_at h3⟩
  · rw [h2] at h4
    cases h4
  · by_cases z : nix N (x ++ [s]) = 0
    · rw [z, hN.2.1] at h3
      exact absurd (Option.some.inj h3).symm ne_snoc
    · omega
theorem tr_used {d : Nat} {h : PH} {Q : PQ} {c s : Nat} {N gs : List (List Nat)} {m : Nat} (hT : TrS h c) (hc : CTr h c N gs m) (s0 : 0 < s) (s1 : s < 28) (k1 : Q (some (.int 1)) h) (k0 : (∀ x, ¬ x ++ [s] ∈ N) → Q (some (.int 0)) h) : wpm (d + 1) 96 [.ref c, .int (nI s)] h Q := by
  refine wpm_in P_Tr_isUsed rfl (by decide) (by show ¬ 2 < 2; decide) ?_
  have hs := hc.2.2.2.1
  have hT9 := hT.2.2.2.2.2.2.2.2.2.1
  have l1 := hs s (by omega)
  have l2 := hs (s + 1) (by omega)
  have n99 := hc.1.1.2.2.2.1
  have b28 : ∀ t, (sgF N t).length < 100 := fun t => by
    have n0 := (List.getElem?_eq_some_iff.mp hc.1.1.2.1).1
    have h1 : sgF N t ⊆ List.range N.length := fun u hu => List.mem_range.mpr (sgF_mem.mp hu).2.1
    have h2 := (sgF_nd t).length_le_of_subset h1
    rw [List.length_range] at h2
    omega
  have b1 := b28 s
  have b2 := b28 (s + 1)
  refine B_Tr_isUsed_0 (fun z => ?_) (fun _ => B_Tr_isUsed_5 (fun z => ?_) (fun _ => B_Tr_isUsed_11 hT.1 hT9.1 hT9.2 (vp_in_nI (by omega) (by omega)) (by rw [nI_1]; exact vp_in_nI (by omega) (by omega)) (fun z => B_Tr_isUsed_32 (B_Tr_isUsed_33 rfl (k0 (fun x => sg_used hc.1.1 ?_)))) (fun _ => B_Tr_isUsed_28 (B_Tr_isUsed_33 rfl k1))))
  · rw [show (1 : Int32) = nI 1 from rfl, nI_ltI (by omega) (by omega)] at z
    omega
  · rw [show (28 : Int32) = nI 28 from rfl, nI_leI (by omega) (by omega)] at z
    omega
  · rw [nI_1, nI_clamp (by omega), nI_clamp (by omega), l1, l2, nI_leI (by omega) (by omega)] at z
    exact z
def Wtv (b x k : Nat) : Prop := (b + 1 ≤ x ∧ x ≤ b + 5) ∨ (x = b ∧ 5 ≤ k ∧ k ≤ 8)
def sm1 (E : List TwE) (f st : Nat) (w : List Nat) (bf : Nat) : Prop := (∀ e q, f ≤ e → e < st → E[e]? = some q → q.1 = w) ∧ ∀ e q, st ≤ e → E[e]? = some q → bf < q.2.2.2
def dnB (gs : List (List Nat)) (m : Nat) (E : List TwE) (f : Nat) : Prop := ∀ e q, e < f → E[e]? = some q → ∀ s, 0 < s → s < 28 → dnE gs m E q s
theorem dnB.up {gs : List (List Nat)} {m f : Nat} {E L : List TwE} (h : dnB gs m E f) (hf : f ≤ E.length) : dnB gs m (E ++ L) f := fun e q he hq s a b => by
  rw [List.getElem?_append_left (by omega)] at hq
  exact (h e q he hq s a b).up
theorem get_app {α : Type} {E L : List α} {e : Nat} {q : α} (h : E[e]? = some q) : (E ++ L)[e]? = some q := by
  rw [List.getElem?_append_left (List.getElem?_eq_some_iff.mp h).1]
  exact h
theorem tw_goOn {d : Nat} {h : PH} {Q : PQ} {b c f st v m bf : Nat} {N gs : List (List Nat)} {E : List TwE} {w : List Nat} (ho : okg gs m) (hT : TrS h c) (hc : CTr h c N gs m) (hS : TwS h b) (hd : c + 9 < b ∨ b + 6 < c) (hE : QS h b N E) (hQ : Qpr gs m E (w ++ [1]) v) (hv : h_i h b 6 = nI v) (hv2 : v + 100 < 2 ^ 31) (h0 : ∃ q ∈ E, q.1 = [] ∧ q.2.1 = [] ∧ q.2.2.1 = []) (hfs : f < st) (hst : st ≤ E.length) (hsm : sm1 E f st w bf) (hf0 : ∃ q, E[f]? = some q ∧ q.2.2.2 = bf) (hbf : bf ≤ v) (hdn : dnB gs m E f) (k0 : ∀ h' L, QS h' b N (E ++ L) → Qpr gs m (E ++ L) (w ++ [28]) (v + 27) → h_i h' b 6 = nI (v + 27) → sm1 (E ++ L) f st w bf → dnB gs m (E ++ L) st → Fr (Wtv b) h h' → Q (some (.int 0)) h') (k1 : ∀ h' E' e q s, QS h' b N E' → E'[e]? = some q → 0 < s → s < 28 → h_i h' b 7 = nI e → h_i h' b 8 = nI s → lst (CLw gs m) (some (q.1 ++ [s])) → Fr (Wtv b) h h' → Q (some (.int 1)) h') : wpm (d + 3) 101 [.ref b, .ref c, .int (nI f), .int (nI st)] h Q := by
  refine wpm_in P_Tw_goOn rfl (by decide) (by show ¬ 6 < 4; decide) ?_
  have hN : okN N := hc.1.1
  have b63 : 63 ≤ b := hS.2.2.2.2.2.2.2.1
  obtain ⟨qf, hqf, hqb⟩ := hf0
  have inN : ∀ z, isI gs m z ∨ isG gs m z → z ∈ N := fun z hz => (hc.2.1 z).mpr (Or.inr hz)
  refine B_Tw_goOn_0 ?_
  -- all letters from s on
  have main : ∀ (n s : Nat) (g : PH) (L : List TwE) (v5 : Value), 28 - s = n → 1 ≤ s → s ≤ 28 → QS g b N (E ++ L) → Qpr gs m (E ++ L) (w ++ [s]) (v + (s - 1)) → h_i g b 6 = nI (v + (s - 1)) → sm1 (E ++ L) f st w bf → dnB gs m (E ++ L) f → (∀ e q, f ≤ e → e < st → (E ++ L)[e]? = some q → ∀ s', 0 < s' → s' < s → dnE gs m (E ++ L) q s') → Fr (Wtv b) h g → wpx (d + 2) P_Tw_goOn 3 [.ref b, .ref c, .int (nI f), .int (nI st), .int (nI s), v5] [] g Q := by
    intro n
    induction n with
    | zero =>
      intro s g L v5 hn s1 s2 gE gQ gv gs1 gd gd2 hF
      have es : s = 28 := by omega
      subst es
      refine B_Tw_goOn_3 (fun _ => B_Tw_goOn_76 (k0 g L gE gQ gv gs1 (fun e q he hq s' a1 a2 => ?_) hF)) (fun z => absurd (by decide) z)
      by_cases y : e < f
      · exact gd e q y hq s' a1 a2
      · exact gd2 e q (by omega) he hq s' a1 a2
    | succ n ih =>
      intro s g L v5 hn s1 s2 gE gQ gv gs1 gd gd2 hF
      have hSg := hS.fr hF
      have hst2 : st ≤ (E ++ L).length := by rw [List.length_append]; omega
      refine B_Tw_goOn_3 (fun z => ?_) (fun _ => B_Tw_goOn_10 hSg.1 ?_)
      · rw [show (27 : Int32) = nI 27 from rfl, nI_ltI (by omega) (by omega)] at z
        omega
      rw [gv, nI_1, show v + (s - 1) + 1 = v + s by omega]
      have f0 : Fr (Wtv b) h (w_i g b 6 (nI (v + s))) := hF.tr (Fr.wi _ _ (Or.inr ⟨rfl, by omega, by omega⟩))
      have g6 : h_i (w_i g b 6 (nI (v + s))) b 6 = nI (v + s) := wi_eq ..
      have gE0 : QS (w_i g b 6 (nI (v + s))) b N (E ++ L) := gE.fr (W := fun x k => x = b ∧ k = 6) (Fr.wi _ _ ⟨rfl, rfl⟩) (fun x k z => by unfold Wtw; omega)
      generalize w_i g b 6 (nI (v + s)) = g0 at f0 g6 gE0 ⊢
      have gQ0 : Qok gs m (E ++ L) (w ++ [s]) (v + s) := by
        have := gQ.ok
        rw [show v + (s - 1) + 1 = v + s by omega] at this
        exact this
      -- all pairs of the word, from e on
      have inner : ∀ (n2 e : Nat) (g1 : PH) (L1 : List TwE), st - e = n2 → f ≤ e → e ≤ st → QS g1 b N (E ++ L1) → Qok gs m (E ++ L1) (w ++ [s]) (v + s) → h_i g1 b 6 = nI (v + s) → sm1 (E ++ L1) f st w bf → dnB gs m (E ++ L1) f → (∀ e' q, f ≤ e' → e' < st → (E ++ L1)[e']? = some q → ∀ s', 0 < s' → (s' < s ∨ (s' = s ∧ e' < e)) → dnE gs m (E ++ L1) q s') → Fr (Wtv b) h g1 → wpx (d + 2) P_Tw_goOn 23 [.ref b, .ref c, .int (nI f), .int (nI st), .int (nI s), .int (nI e)] [] g1 Q := by
        intro n2
        have done : ∀ (e : Nat) (g1 : PH) (L1 : List TwE), QS g1 b N (E ++ L1) → Qok gs m (E ++ L1) (w ++ [s]) (v + s) → h_i g1 b 6 = nI (v + s) → sm1 (E ++ L1) f st w bf → dnB gs m (E ++ L1) f → (∀ e' q, f ≤ e' → e' < st → (E ++ L1)[e']? = some q → ∀ s', 0 < s' → s' ≤ s → dnE gs m (E ++ L1) q s') → Fr (Wtv b) h g1 → wpx (d + 2) P_Tw_goOn 70 [.ref b, .ref c, .int (nI f), .int (nI st), .int (nI s), .int (nI e)] [] g1 Q := by
          intro e g1 L1 i1 i2 i3 i4 i5 i6 i7
          refine B_Tw_goOn_70 ?_
          rw [nI_1]
          exact ih (s + 1) g1 L1 _ (by omega) (by omega) (by omega) i1 i2.pr (by rw [i3, Nat.add_sub_cancel]) i4 i5 (fun e' q a1 a2 a3 s' a4 a5 => i6 e' q a1 a2 a3 s' a4 (by omega)) i7
        induction n2 with
        | zero =>
          intro e g1 L1 hn2 e1 e2 i1 i2 i3 i4 i5 i6 i7
          have ee : e = st := by omega
          subst ee
          have l9 := i1.le hN
          rw [List.length_append] at l9
          refine B_Tw_goOn_23 (fun _ => done e g1 L1 i1 i2 i3 i4 i5 (fun e' q a1 a2 a3 s' a4 a5 => i6 e' q a1 a2 a3 s' a4 (by omega)) i7) (fun z => absurd ((nI_leI (by omega) (by omega)).mpr (Nat.le_refl _)) z)
        | succ n2 ih2 =>
          intro e g1 L1 hn2 e1 e2 i1 i2 i3 i4 i5 i6 i7
          have l9 := i1.le hN
          rw [List.length_append] at l9
          have hT1 := hT.fr i7
          have hc1 : CTr g1 c N gs m := CTr.fr i7 (fun x k z => by unfold Wtv at z; omega) hc
          have hS1 := hS.fr i7
          refine B_Tw_goOn_23 (fun z => ?_) (fun _ => B_Tw_goOn_29 hT1.1 ?_)
          · rw [nI_leI (by omega) (by omega)] at z
            omega
          refine tr_used hT1 hc1 (by omega) (by omega) (B_Tw_goOn_35 (fun z => absurd z (by decide)) (fun _ => B_Tw_goOn_38 hS1.1 ?_)) (fun hno => B_Tw_goOn_35 (fun _ => ?_) (fun z => absurd rfl z))
          · have hel : e < E.length := by omega
            have ge1 : ∃ q, (E ++ L1)[e]? = some q := ⟨_, get_app (List.getElem?_eq_getElem (by omega : e < E.length))⟩
            obtain ⟨q, hq⟩ := ge1
            have qw : q.1 = w := i4.1 e q e1 (by omega) hq
            have Fup : ∀ {g2 : PH}, Fr (Wtw b) g1 g2 → Fr (Wtv b) h g2 := fun hf => i7.tr (hf.up (fun x k z => by unfold Wtw at z; unfold Wtv; omega))
            have smu : ∀ {E2 L : List TwE}, E2 = (E ++ L1) ++ L → (∀ q ∈ L, q.2.2.2 = v + s) → sm1 E2 f st w bf := fun {E2 L} hL hb => by
              refine ⟨fun e' q' a1 a2 a3 => ?_, fun e' q' a1 a3 => ?_⟩
              · rw [hL, List.getElem?_append_left (by rw [List.length_append]; omega)] at a3
                exact i4.1 e' q' a1 a2 a3
              · rw [hL] at a3
                by_cases y : e' < (E ++ L1).length
                · rw [List.getElem?_append_left y] at a3
                  exact i4.2 e' q' a1 a3
                · rw [List.getElem?_append_right (by omega)] at a3
                  rw [hb q' (List.mem_of_getElem? a3)]
                  omega
            refine tw_step hT1 hc1 hS1 hd i1 (q := q) (by rw [qw]; exact i2) i3 hq (by omega) (by omega) (fun h' E2 j dn => ?_) (fun h' E2 j cl => ?_)
            · obtain ⟨j1, j2, j3, L, j4, j5⟩ := j
              refine B_Tw_goOn_47 (fun _ => B_Tw_goOn_64 ?_) (fun z => absurd rfl z)
              rw [nI_1]
              have e2L : E2 = E ++ (L1 ++ L) := by rw [j4, List.append_assoc]
              have sm2 := smu j4 j5
              rw [qw] at j2
              rw [e2L] at j1 j2 sm2 dn
              refine ih2 (e + 1) h' (L1 ++ L) (by omega) (by omega) (by omega) j1 j2 ((j3.i _ _ (fun z => by unfold Wtw at z; omega)).trans i3) sm2 ?_ (fun e' q' a1 a2 a3 s' a4 a5 => ?_) (Fup j3)
              · rw [← List.append_assoc]
                exact i5.up (by rw [List.length_append]; omega)
              · have a3' : (E ++ L1)[e']? = some q' := by
                  rw [← List.append_assoc, List.getElem?_append_left (by rw [List.length_append]; omega)] at a3
                  exact a3
                by_cases y : s' = s ∧ e' = e
                · obtain ⟨y1, y2⟩ := y
                  subst y1
                  subst y2
                  rw [hq] at a3'
                  cases a3'
                  exact dn
                · rw [← List.append_assoc]
                  exact (i6 e' q' a1 a2 a3' s' a4 (by omega)).up
            · obtain ⟨j1, j2, j3, L, j4, j5⟩ := j
              have hS2 := hS1.fr j3
              have hqE : E2[e]? = some q := by rw [j4]; exact get_app hq
              have sm2 := smu j4 j5
              refine B_Tw_goOn_47 (fun z => absurd z (by decide)) (fun _ => B_Tw_goOn_50 hS2.1 (k1 _ E2 e q s (j1.fr (W := fun x k => x = b ∧ 7 ≤ k) ((Fr.wi _ _ ⟨rfl, by omega⟩).tr (Fr.wi _ _ ⟨rfl, by omega⟩)) (fun x k z => by unfold Wtw; omega)) hqE (by omega) (by omega) (by rw [wi_ne _ _ (by omega), wi_eq]) (wi_eq ..) ?_ ((Fup j3).tr ((Fr.wi _ _ (Or.inr ⟨rfl, by omega, by omega⟩)).tr (Fr.wi _ _ (Or.inr ⟨rfl, by omega, by omega⟩))))))
              have hq0 : ∃ q ∈ E2, q.1 = [] ∧ q.2.1 = [] ∧ q.2.2.1 = [] := by
                obtain ⟨q', a1, a2⟩ := h0
                exact ⟨q', by rw [j4]; exact List.mem_append.mpr (Or.inl (List.mem_append.mpr (Or.inl a1))), a2⟩
              refine cl_least ho hq0 (j2.1 q (List.mem_of_getElem? hqE)) cl (fun p hp s' a1 a2 a3 => ?_)
              rw [qw, pkN_snoc, pkN_snoc] at a3
              obtain ⟨e', he'⟩ := List.getElem?_of_mem hp
              have ff : E2[f]? = some qf := by rw [j4]; exact get_app (get_app hqf)
              have fw : qf.1 = w := i4.1 f qf (Nat.le_refl _) hfs (get_app hqf)
              by_cases y1 : e' < f
              · rw [j4]
                rw [j4, List.getElem?_append_left (by rw [List.length_append]; omega)] at he'
                exact (i5 e' p y1 he' s' a1 a2).up
              · by_cases y2 : e' < st
                · have he2 := he'
                  rw [j4, List.getElem?_append_left (by rw [List.length_append]; omega)] at he2
                  have pw : p.1 = w := i4.1 e' p (by omega) y2 he2
                  rw [pw] at a3
                  rw [j4]
                  exact (i6 e' p (by omega) y2 he2 s' a1 (by omega)).up
                · have mo := j2.2.2 f e' qf p (by omega) ff he'
                  rw [fw] at mo
                  have bb := sm2.2 e' p (by omega) he'
                  have hr1 := (j2.1 p hp).isl ho
                  have hr2 := (j2.1 qf (List.mem_of_getElem? ff)).isl ho
                  rw [fw] at hr2
                  have ew : w = p.1 := lets_inj hr2 hr1 (by omega)
                  have := mo.2.2.mpr ew
                  omega
          · refine done e g1 L1 i1 i2 i3 i4 i5 (fun e' q a1 a2 a3 s' a4 a5 => ?_) i7
            by_cases y : s' < s
            · exact i6 e' q a1 a2 a3 s' a4 (Or.inl y)
            · have es : s' = s := by omega
              subst es
              exact ⟨fun x' y' hs => absurd (inN _ hs.mem.1) (hno _), fun z => absurd (inN _ (Or.inr z.2.1)) (hno _)⟩
      exact inner (st - f) f g0 L rfl (Nat.le_refl _) (by omega) gE0 gQ0 g6 gs1 gd (fun e' q a1 a2 a3 s' a4 a5 => gd2 e' q a1 a2 a3 s' a4 (by omega)) f0
  have eE : E ++ [] = E := List.append_nil E
  exact main 27 1 h [] _ rfl (Nat.le_refl _) (by omega) (by rw [eE]; exact hE) (by rw [eE]; exact hQ) hv (by rw [eE]; exact hsm) (by rw [eE]; exact hdn) (fun e q _ _ _ s' a1 a2 => absurd a2 (by omega)) (Fr.rf _ _)
