/-! witness on the class's side: find; the word written down -/
theorem tw_find {d : Nat} {h : PH} {Q : PQ} {b c m : Nat} {N gs : List (List Nat)} (ho : okg gs m) (hT : TrS h c) (hc : CTr h c N gs m) (hS : TwS h b) (hd : c + 9 < b ∨ b + 6 < c) (k0 : lst (CLw gs m) none → ∀ h', Fr (Wtv b) h h' → Q (some (.int 0)) h') (k1 : ∀ h' E e q s, QS h' b N E → E[e]? = some q → 0 < s → s < 28 → h_i h' b 7 = nI e → h_i h' b 8 = nI s → lst (CLw gs m) (some (q.1 ++ [s])) → Fr (Wtv b) h h' → Q (some (.int 1)) h') : wpm (d + 4) 100 [.ref b, .ref c] h Q := by
  refine wpm_in P_Tw_find rfl (by decide) (by show ¬ 4 < 2; decide) ?_
  have hN : okN N := hc.1.1
  have b63 : 63 ≤ b := hS.2.2.2.2.2.2.2.1
  have n0 : ([] : List Nat) ∈ N := List.mem_of_getElem? hN.2.1
  have en : nI (nix N []) = 0 := by
    rw [nix_at hN.1 hN.2.1]
    rfl
  have push0 : ∀ (Qq : PQ) (g : PH), TwS g b → QS g b N [] → h_i g b 6 = nI 0 → (∀ h' E', QS h' b N E' → ((E' = [] ∧ ∃ q ∈ ([] : List TwE), q.2.1 = [] ∧ q.2.2.1 = []) ∨ E' = [] ++ [([], [], [], 0)]) → Fr (Wtw b) g h' → Qq none h') → wpm (d + 3) 103 [.ref b, .int 0, .int 0, .int (-1), .int 0] g Qq := fun Qq g hSg hEg hv k => by
    have := tw_push (d := d + 2) (s := 0) (wn := []) (x := []) (y := []) (xp := -1) (E := []) (Q := Qq) hN hSg hEg hv ⟨n0, ⟨[], rfl⟩, n0, by show 0 < 8; omega⟩ (by omega) (Or.inl ⟨rfl, rfl⟩) k
    rw [en] at this
    exact this
  have loop : ∀ (n f v : Nat) (E : List TwE) (g : PH) (v3 : Value), 792 - f ≤ n → QS g b N E → h_i g b 6 = nI v → v ≤ 27 * f → (∃ q ∈ E, q.1 = [] ∧ q.2.1 = [] ∧ q.2.2.1 = []) → dnB gs m E f → f ≤ E.length → (∀ q, E[f]? = some q → Qpr gs m E (q.1 ++ [1]) v) → Fr (Wtv b) h g → wpx (d + 3) P_Tw_find 30 [.ref b, .ref c, .int (nI f), v3] [] g Q := by
    intro n
    induction n with
    | zero =>
      intro f v E g v3 hn hE hv hvf h0 hdn hf hq hF
      have ele := hE.le hN
      have hSg := hS.fr hF
      have ef : f = E.length := by omega
      refine B_Tw_find_30 hSg.1 (fun _ => B_Tw_find_95 (k0 (cl_none ho h0 (fun q hq s a b => ?_)) g hF)) (fun z => ?_)
      · obtain ⟨e, he⟩ := List.getElem?_of_mem hq
        have := (List.getElem?_eq_some_iff.mp he).1
        exact hdn e q (by omega) he s a b
      · rw [hE.1, nI_leI (by omega) (by omega)] at z
        omega
    | succ n ih =>
      intro f v E g v3 hn hE hv hvf h0 hdn hf hq hF
      have ele := hE.le hN
      have hSg := hS.fr hF
      by_cases ef : f = E.length
      · refine B_Tw_find_30 hSg.1 (fun _ => B_Tw_find_95 (k0 (cl_none ho h0 (fun q hq s a b => ?_)) g hF)) (fun z => ?_)
        · obtain ⟨e, he⟩ := List.getElem?_of_mem hq
          have := (List.getElem?_eq_some_iff.mp he).1
          exact hdn e q (by omega) he s a b
        · rw [hE.1, nI_leI (by omega) (by omega)] at z
          omega
      have gf : ∃ q, E[f]? = some q := ⟨_, List.getElem?_eq_getElem (by omega : f < E.length)⟩
      obtain ⟨qf, hqf⟩ := gf
      have hQ := hq qf hqf
      have hTg := hT.fr hF
      have hcg : CTr g c N gs m := CTr.fr hF (fun x k z => by unfold Wtv at z; omega) hc
      have bq : ∀ (e : Nat) (q : TwE), E[e]? = some q → q.2.2.2 ≤ v := fun e q he => (hQ.2.1 q (List.mem_of_getElem? he)).2
      refine B_Tw_find_30 hSg.1 (fun z => ?_) (fun _ => B_Tw_find_38 (fun z => ?_) (fun _ => B_Tw_find_45 ?_))
      · rw [hE.1, nI_leI (by omega) (by omega)] at z
        omega
      · rw [show (792 : Int32) = nI 792 from rfl, nI_leI (by omega) (by omega)] at z
        omega
      rw [nI_1]
      have at78 : ∀ t, f < t → t ≤ E.length → (∀ e q, f ≤ e → e < t → E[e]? = some q → q.1 = qf.1) → (∀ e q, t ≤ e → E[e]? = some q → qf.2.2.2 < q.2.2.2) → wpx (d + 3) P_Tw_find 78 [.ref b, .ref c, .int (nI f), .int (nI t)] [] g Q := fun t ft tl s1 s2 => by
        have bqf := bq f qf hqf
        refine B_Tw_find_78 hSg.1 (tw_goOn (bf := qf.2.2.2) ho hTg hcg hSg hd hE hQ hv (by omega) h0 ft tl ⟨s1, s2⟩ ⟨qf, hqf, rfl⟩ bqf hdn (fun h' L e1 e2 e3 e4 e5 f2 => ?_) (fun h' E' e q s j1 j2 j3 j4 j5 j6 j7 f2 => ?_))
        · refine B_Tw_find_85 (fun _ => B_Tw_find_90 ?_) (fun z => absurd rfl z)
          refine ih t (v + 27) (E ++ L) h' _ (by omega) e1 e3 (by omega) ?_ e5 (by rw [List.length_append]; omega) (fun q hqt => ⟨e2.1, fun p hp => ?_, e2.2.2⟩) (hF.tr f2)
          · obtain ⟨q', a1, a2⟩ := h0
            exact ⟨q', List.mem_append.mpr (Or.inl a1), a2⟩
          · obtain ⟨a1, a2⟩ := e2.2.1 p hp
            refine ⟨?_, a2⟩
            rw [pkN_snoc] at a1 ⊢
            have mo := e2.2.2 f t qf q (by omega) (get_app hqf) hqt
            have bb := e4.2 t q (Nat.le_refl _) hqt
            have ne : pkN qf.1 ≠ pkN q.1 := fun z => by
              have r1 := (e2.1 qf (List.mem_of_getElem? (get_app hqf))).isl ho
              have r2 := (e2.1 q (List.mem_of_getElem? hqt)).isl ho
              have := mo.2.2.mpr (lets_inj r1 r2 z)
              omega
            have := mo.1
            omega
        · exact B_Tw_find_85 (fun z => absurd z (by decide)) (fun _ => B_Tw_find_88 (k1 h' E' e q s j1 j2 j3 j4 j5 j6 j7 (hF.tr f2)))
      have stop : ∀ (n2 t : Nat), E.length - t = n2 → f < t → t ≤ E.length → (∀ e q, f ≤ e → e < t → E[e]? = some q → q.1 = qf.1) → wpx (d + 3) P_Tw_find 49 [.ref b, .ref c, .int (nI f), .int (nI t)] [] g Q := by
        intro n2
        induction n2 with
        | zero =>
          intro t hn2 ft tl s1
          refine B_Tw_find_49 hSg.1 (fun _ => at78 t ft tl s1 (fun e q a1 a2 => ?_)) (fun z => ?_)
          · have := (List.getElem?_eq_some_iff.mp a2).1
            omega
          · rw [hE.1, nI_leI (by omega) (by omega)] at z
            omega
        | succ n2 ih2 =>
          intro t hn2 ft tl s1
          have gt : ∃ q, E[t]? = some q := ⟨_, List.getElem?_eq_getElem (by omega : t < E.length)⟩
          obtain ⟨qt, hqt⟩ := gt
          have bqf := bq f qf hqf
          have bqt := bq t qt hqt
          have mo := hQ.2.2 f t qf qt (by omega) hqf hqt
          refine B_Tw_find_49 hSg.1 (fun z => ?_) (fun _ => B_Tw_find_57 hSg.1 hSg.2.2.2.2.2.1.1 hSg.2.2.2.2.2.1.2 (vp_in_nI (by omega) (by omega)) (vp_in_nI (by omega) (by omega)) (fun z => ?_) (fun z => B_Tw_find_72 ?_))
          · rw [hE.1, nI_leI (by omega) (by omega)] at z
            omega
          · rw [nI_clamp (by omega), nI_clamp (by omega), (hE.2.1 t qt hqt).2.2.1, (hE.2.1 f qf hqf).2.2.1, nI_eq (by omega) (by omega)] at z
            refine at78 t ft tl s1 (fun e q a1 a2 => ?_)
            have mo2 := hQ.2.2 t e qt q a1 hqt a2
            omega
          · rw [nI_clamp (by omega), nI_clamp (by omega), (hE.2.1 t qt hqt).2.2.1, (hE.2.1 f qf hqf).2.2.1, nI_eq (by omega) (by omega)] at z
            rw [nI_1]
            refine ih2 (t + 1) (by omega) (by omega) (by omega) (fun e q a1 a2 a3 => ?_)
            by_cases y : e = t
            · subst y
              rw [hqt] at a3
              cases a3
              exact (mo.2.2.mp z.symm).symm
            · exact s1 e q a1 (by omega) a3
      refine stop _ (f + 1) rfl (by omega) (by omega) (fun e q a1 a2 a3 => ?_)
      have e0 : e = f := by omega
      subst e0
      rw [hqf] at a3
      cases a3
      rfl
  refine B_Tw_find_0 hS.1 hS.2.1.1 ?_
  refine ow_lower (c := 792) hS.2.1.2 (Nat.le_refl _) (by omega) (fun g1 c1 _ f1 => ?_)
  have F1 : Fr (Wtv b) h g1 := f1.up (fun x k z => by unfold Wtv; omega)
  refine B_Tw_find_10 (hS.fr f1).1 ?_
  have F2 : Fr (Wtv b) h (w_i (w_i g1 b 5 0) b 6 0) := F1.tr ((Fr.wi _ _ (Or.inr ⟨rfl, by omega, by omega⟩)).tr (Fr.wi _ _ (Or.inr ⟨rfl, by omega, by omega⟩)))
  have E2 : QS (w_i (w_i g1 b 5 0) b 6 0) b N [] := by
    refine ⟨by rw [wi_ne _ _ (by omega), wi_eq]; rfl, fun e q he => ?_, fun a ha => ⟨fun ⟨q, hq, _⟩ => (by cases hq), fun _ => ?_⟩, List.nodup_nil⟩
    · have := (List.getElem?_eq_some_iff.mp he).1
      exact absurd this (Nat.not_lt_zero _)
    · rw [wi_ne _ _ (by omega), wi_ne _ _ (by omega)]
      exact c1 a ha
  refine push0 _ _ (hS.fr F2) E2 (wi_eq ..) (fun h' E' hE' he f3 => ?_)
  rcases he with ⟨_, q, hq, _⟩ | he
  · cases hq
  · rw [he] at hE'
    have hE' : QS h' b N [([], [], [], 0)] := hE'
    have F3 := F2.tr (f3.up (fun x k z => by unfold Wtw at z; unfold Wtv; omega : ∀ x k, Wtw b x k → Wtv b x k))
    refine B_Tw_find_28 (loop 792 0 0 _ h' _ (by omega) hE' ((f3.i _ _ (fun z => by unfold Wtw at z; omega)).trans (wi_eq ..)) (by omega) ⟨_, List.mem_singleton.mpr rfl, rfl, rfl, rfl⟩ (fun e q he => absurd he (Nat.not_lt_zero _)) (Nat.zero_le _) (fun q hq => ?_) F3)
    have e0 : q = ([], [], [], 0) := (Option.some.inj hq).symm
    subst e0
    refine ⟨fun p hp => ?_, fun p hp => ?_, mnQ_one _⟩
    · rw [List.mem_singleton.mp hp]
      exact ⟨0, rfl, rfl, rfl⟩
    · rw [List.mem_singleton.mp hp]
      exact ⟨by decide, Nat.le_refl _⟩
/-- the letters from a pair back to the first -/
theorem tw_copyTo {d : Nat} {h : PH} {Q : PQ} {b e s : Nat} {N : List (List Nat)} {E : List TwE} {q : TwE} (hO : OwS h) (hN : okN N) (hS : TwS h b) (hE : QS h b N E) (he : E[e]? = some q) (s0 : 0 < s) (s1 : s < 28) (e7 : h_i h b 7 = nI e) (e8 : h_i h b 8 = nI s) (k : ∀ h', CWd h' (q.1 ++ [s]) → Fr (fun x k => x = b + 6 ∨ Wcd x k) h h' → Q none h') : wpm (d + 2) 104 [.ref b, .ref 13] h Q := by
  refine wpm_in P_Tw_copyTo rfl (by decide) (by show ¬ 5 < 2; decide) ?_
  have b63 : 63 ≤ b := hS.2.2.2.2.2.2.2.1
  have hS6 := hS.2.2.2.2.2.2.1
  have e799 : Int32.ofNat 800 - (1 : Int32) = nI 799 := by decide
  have ele := hE.le hN
  have eln := (List.getElem?_eq_some_iff.mp he).1
  -- what stands there is added to the word
  have adds : ∀ (n j : Nat) (z w : List Nat) (g : PH) (x3 : Int32), 800 - j = n → j ≤ 800 → (∀ i x, z[i]? = some x → h_i g (b + 6) (j + i) = nI x ∧ 0 < x ∧ x < 28) → z.length = 800 - j → CWd g w → w.length ≤ j → w ++ z = q.1 ++ [s] → OwS g → TwS g b → Fr (fun x k => x = b + 6 ∨ Wcd x k) h g → ∀ x2 : Int32, wpx (d + 1) P_Tw_copyTo 64 [.ref b, .ref 13, .int x2, .int x3, .int (nI j)] [] g Q := by
    intro n
    induction n with
    | zero =>
      intro j z w g x3 hn hj hz hzl hw hwl hwz hOg hSg hF x2
      have z0 : z = [] := List.eq_nil_of_length_eq_zero (by omega)
      rw [z0, List.append_nil] at hwz
      rw [hwz] at hw
      have hg6 := hSg.2.2.2.2.2.2.1
      refine B_Tw_copyTo_64 hSg.1 hg6.1 hg6.2 (fun _ => B_Tw_copyTo_91 (k g hw hF)) (fun y => absurd ((nI_leI (a := 800) (b := j) (by omega) (by omega)).mpr (by omega)) y)
    | succ n ih =>
      intro j z w g x3 hn hj hz hzl hw hwl hwz hOg hSg hF x2
      have hg6 := hSg.2.2.2.2.2.2.1
      cases z with
      | nil =>
        have : ([] : List Nat).length = 0 := rfl
        omega
      | cons x z =>
        rw [List.length_cons] at hzl
        obtain ⟨v1, v2, v3⟩ := hz 0 x rfl
        refine B_Tw_copyTo_64 hSg.1 hg6.1 hg6.2 (fun y => ?_) (fun _ => B_Tw_copyTo_74 hSg.1 hg6.1 hg6.2 (vp_in_nI (by omega) (by omega)) (os_theWord hOg) ?_)
        · have y' : nI 800 ≤ nI j := y
          rw [nI_leI (by omega) (by omega)] at y'
          omega
        · rw [nI_clamp (by omega), show h_i g (b + 6) j = nI x from v1]
          refine wo_add hOg hw v2 v3 (by omega) (fun g1 w1 f1 => B_Tw_copyTo_85 ?_)
          rw [nI_1]
          refine ih (j + 1) z (w ++ [x]) g1 _ (by omega) (by omega) (fun i y hy => ?_) (by omega) w1 (by rw [List.length_append]; exact Nat.succ_le_succ hwl) (by rw [List.append_assoc]; exact hwz) (f1.ow hOg) (hSg.fr f1) (hF.tr (f1.up (fun x k y => Or.inr y))) _
          have := hz (i + 1) y hy
          rw [f1.i _ _ (fun y => by unfold Wcd at y; omega), show j + 1 + i = j + (i + 1) by omega]
          exact this
  -- back to the first pair
  have back : ∀ (n e' : Nat) (q' : TwE) (z : List Nat) (j : Nat) (g : PH) (v4 : Value), e' ≤ n → E[e']? = some q' → q'.1 ++ z = q.1 ++ [s] → z.length = 800 - j → j < 800 → q'.1.length < j → (∀ i x, z[i]? = some x → h_i g (b + 6) (j + i) = nI x ∧ 0 < x ∧ x < 28) → Fr (fun x k => x = b + 6) h g → wpx (d + 1) P_Tw_copyTo 24 [.ref b, .ref 13, .int (nI j), .int (nI e'), v4] [] g Q := by
    intro n
    have fin : ∀ (e' : Nat) (q' : TwE) (z : List Nat) (j : Nat) (g : PH) (v4 : Value), e' = 0 → E[e']? = some q' → q'.1 ++ z = q.1 ++ [s] → z.length = 800 - j → j < 800 → q'.1.length < j → (∀ i x, z[i]? = some x → h_i g (b + 6) (j + i) = nI x ∧ 0 < x ∧ x < 28) → Fr (fun x k => x = b + 6) h g → wpx (d + 1) P_Tw_copyTo 24 [.ref b, .ref 13, .int (nI j), .int (nI e'), v4] [] g Q := by
      intro e' q' z j g v4 hn hq hz hzl hj hl hv hF
      have hSg := hS.fr hF
      have hOg := hF.ow hO
      have w0 : q'.1 = [] := List.eq_nil_of_length_eq_zero (by have := hE.len e' e' q' (Nat.le_refl _) hq; omega)
      rw [w0, List.nil_append] at hz
      subst hn
      have go : wpx (d + 1) P_Tw_copyTo 57 [.ref b, .ref 13, .int (nI j), .int (nI 0), v4] [] g Q := by
        refine B_Tw_copyTo_57 (os_theWord hOg) (wo_clear hOg (fun g1 w1 f1 => B_Tw_copyTo_61 ?_))
        refine adds _ j z [] g1 _ rfl (by omega) (fun i x hx => ?_) hzl w1 (Nat.zero_le _) hz (f1.ow hOg) (hSg.fr f1) ((hF.up (fun x k y => Or.inl y)).tr (f1.up (fun x k y => Or.inr y))) _
        rw [f1.i _ _ (fun y => by unfold Wcd at y; omega)]
        exact hv i x hx
      refine B_Tw_copyTo_24 (fun _ => go) (fun _ => B_Tw_copyTo_28 (fun _ => go) (fun y => absurd (by decide) y))
    induction n with
    | zero =>
      intro e' q' z j g v4 hn
      exact fin e' q' z j g v4 (by omega)
    | succ n ih =>
      intro e' q' z j g v4 hn hq hz hzl hj hl hv hF
      by_cases y : e' = 0
      · exact fin e' q' z j g v4 y hq hz hzl hj hl hv hF
      have hSg := hS.fr hF
      have el' := (List.getElem?_eq_some_iff.mp hq).1
      rcases (hE.2.1 e' q' hq).2.2.2 with ⟨y1, _⟩ | ⟨p, t, w0, r, y1, y2, y3, y4, y5, y6, y7⟩
      · exact absurd y1 y
      have lw : q'.1.length = w0.length + 1 := by rw [y7, List.length_append]; rfl
      have p3 : h_i g (b + 3) e' = nI p := (hF.i _ _ (by omega)).trans y5
      have p4 : h_i g (b + 4) e' = nI t := (hF.i _ _ (by omega)).trans y6
      have ej : nI j + (-1 : Int32) = nI (j - 1) := by
        have := nI_m1 (j - 1)
        rw [show j - 1 + 1 = j by omega] at this
        exact this
      refine B_Tw_copyTo_24 (fun u => ?_) (fun _ => B_Tw_copyTo_28 (fun u => ?_) (fun _ => B_Tw_copyTo_32 hSg.1 hSg.2.2.2.2.2.2.1.1 hSg.2.2.2.2.1.1 hSg.2.2.2.2.1.2 (vp_in_nI (by omega) (by omega)) hSg.2.2.2.2.2.2.1.2 (by rw [ej]; exact vp_in_nI (by omega) (by omega)) hSg.2.2.2.1.1 hSg.2.2.2.1.2 (vp_in_nI (by omega) (by omega)) ?_))
      · have u' : nI j ≤ nI 0 := u
        rw [nI_leI (by omega) (by omega)] at u'
        omega
      · have u' : nI e' ≤ nI 0 := u
        rw [nI_leI (by omega) (by omega)] at u'
        omega
      · have t2 : (nI t).toInt8.toInt32 = nI t := by
          have := t_3 t y4
          rw [i8_twice] at this
          exact this
        rw [ej, nI_clamp (by omega), nI_clamp (by omega), p4, t2, wi_ne _ _ (by omega), p3]
        refine ih p (w0, r) (t :: z) (j - 1) _ _ (by omega) y2 ?_ (by rw [List.length_cons]; omega) (by omega) (by show w0.length < j - 1; omega) (fun i x hx => ?_) (hF.tr (Fr.wi _ _ rfl))
        · rw [← hz, y7, List.append_assoc]
          rfl
        · cases i with
          | zero =>
            have ex : t = x := Option.some.inj hx
            subst ex
            exact ⟨wi_eq .., y3, y4⟩
          | succ i =>
            rw [wi_ne _ _ (by omega), show j - 1 + (i + 1) = j + i by omega]
            exact hv i x hx
  refine B_Tw_copyTo_0 hS.1 hS6.1 hS6.2 (by rw [e799]; exact vp_in_nI (by omega) (by omega)) ?_
  rw [e799, nI_clamp (by omega), e8, show ((nI s).toInt8.toInt32).toInt8.toInt32 = nI s from t_3 s s1, wi_ne _ _ (by omega), e7]
  have ql := hE.len e e q (Nat.le_refl _) he
  refine back e e q [s] 799 _ _ (Nat.le_refl _) he rfl rfl (by omega) (by omega) (fun i x hx => ?_) (Fr.wi _ _ rfl)
  cases i with
  | zero =>
    have ex : s = x := Option.some.inj hx
    subst ex
    exact ⟨wi_eq .., s0, s1⟩
  | succ i =>
    have := (List.getElem?_eq_some_iff.mp hx).1
    have h1 : ([s] : List Nat).length = 1 := rfl
    omega
