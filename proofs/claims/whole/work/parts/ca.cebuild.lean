/-! words on the class's side: the census built -/
def CEN (h : PH) (c : Nat) (ad : Nat → Nat) (K M E : Nat) (N gs : List (List Nat)) (m : Nat) (V : List (List Nat)) (ed : List (Nat × Nat)) (F : Nat → Nat) : Prop := BIv N gs m c h ad K M E V ed ∧ BEd N gs m V ed F V.length ∧ (∀ s', s' ≤ V.length → h_i h (ad 6) s' = nI (F s')) ∧ ∀ (t : Nat) (u : List Nat) (j : Nat), V[t]? = some u → u.length + j ≤ 10 → CtS h ad gs m t j u
theorem BIv.fr {h h' : PH} {c m K M E : Nat} {ad : Nat → Nat} {N gs V : List (List Nat)} {ed : List (Nat × Nat)} (hf : Fr (fun x _ => x = ad 2 ∨ x = ad 3) h h') (hI : BIv N gs m c h ad K M E V ed) : BIv N gs m c h' ad K M E V ed := by
  obtain ⟨a1, a2, a3, a4, a5, a6, a7, a8⟩ := hI
  obtain ⟨s0, s1, s2, s3, s4, s5, s6, s7, s8, s9, s10, s11⟩ := a1
  have a1 : CeS h c ad K M E := ⟨s0, s1, s2, s3, s4, s5, s6, s7, s8, s9, s10, s11⟩
  have fi : ∀ f kk, f < 9 → f ≠ 4 → f ≠ 2 → f ≠ 3 → h_i h' (ad f) kk = h_i h (ad f) kk := fun f kk a b c' e' => hf.i _ _ (fun z => z.elim (s9.ne a (by omega) b (by omega) c') (s9.ne a (by omega) b (by omega) e'))
  have fc : ∀ kk, h_i h' c kk = h_i h c kk := fun kk => hf.i _ _ (fun z => z.elim (fun y => (s9.2 2 (by omega) (by omega)).1 y.symm) (fun y => (s9.2 3 (by omega) (by omega)).1 y.symm))
  refine ⟨CeS.fr hf a1, ⟨(fc 4).trans a2.1, fun t u ht => ?_, a2.2.2⟩, ?_, a4, a5, a6, ⟨(fc 9).trans a7.1, fun i q hq => ?_, fun i hi => ?_, a7.2.2.2⟩, a8⟩
  · rw [fi 0 _ (by omega) (by omega) (by omega) (by omega), fi 1 _ (by omega) (by omega) (by omega) (by omega)]
    exact a2.2.1 t u ht
  · obtain ⟨P, hP⟩ := a3
    exact ⟨P, hP.cg (fun p _ => fi 5 _ (by omega) (by omega) (by omega) (by omega))⟩
  · rw [fi 7 _ (by omega) (by omega) (by omega) (by omega), fi 8 _ (by omega) (by omega) (by omega) (by omega)]
    exact a7.2.1 i q hq
  · rw [fi 7 _ (by omega) (by omega) (by omega) (by omega)]
    exact a7.2.2.1 i hi
theorem ce_counts {d : Nat} {g0 : PH} {Q : PQ} {c tb m K M E : Nat} {ad : Nat → Nat} {N gs V : List (List Nat)} {ed : List (Nat × Nat)} {F : Nat → Nat} {x2 : Int32} (ho : okg gs m) (hu : unlk gs) (hN : okN N) (hi : ∀ x, isI gs m x → x ∈ N) (hI : BIv N gs m c g0 ad K M E V ed) (hE : BEd N gs m V ed F V.length) (hF : ∀ s', s' ≤ V.length → h_i g0 (ad 6) s' = nI (F s')) (k : ∀ g, Fr (fun x _ => x = ad 2 ∨ x = ad 3) g0 g → CEN g c ad K M E N gs m V ed F → Q none g) (x3 : Int32) (v4 v5 : Value) : wpx (d + 3) P_Ce_build 153 [.ref c, .ref tb, .int x2, .int x3, v4, v5] [] g0 Q := by
  have v3 := keys_le ho hN hI.2.1.2.2.1 hI.2.1.2.2.2
  have kl := hI.2.2.2.1.1.le
  have VK := hI.2.2.2.2.1
  have s9 : adI c (h_ct g0) ad := hI.1.2.2.2.2.2.2.2.2.2.1
  have n23 : ad 2 ≠ ad 3 := s9.ne (by omega) (by omega) (by omega) (by omega) (by omega)
  have n62 : ad 6 ≠ ad 2 := s9.ne (by omega) (by omega) (by omega) (by omega) (by omega)
  have n63 : ad 6 ≠ ad 3 := s9.ne (by omega) (by omega) (by omega) (by omega) (by omega)
  have fF : ∀ {g : PH}, Fr (fun x _ => x = ad 2 ∨ x = ad 3) g0 g → ∀ s', s' ≤ V.length → h_i g (ad 6) s' = nI (F s') := fun hf s' hs' => (hf.i _ _ (fun z => z.elim n62 n63)).trans (hF s' hs')
  refine B_Ce_build_153 ?_
  have rows : ∀ (n j : Nat) (g : PH) (v4 v5 : Value), 11 - j = n → j ≤ 11 → Fr (fun x _ => x = ad 2 ∨ x = ad 3) g0 g → (∀ (t : Nat) (u : List Nat) (j' : Nat), j' < j → V[t]? = some u → u.length + j' ≤ 10 → CtS g ad gs m t j' u) → wpx (d + 3) P_Ce_build 155 [.ref c, .ref tb, .int x2, .int (nI j), v4, v5] [] g Q := by
    intro n
    induction n with
    | zero =>
      intro j g v4 v5 hn hj hf hc
      have ej : j = 11 := by omega
      subst ej
      exact B_Ce_build_155 (fun _ => B_Ce_build_206 (k g hf ⟨hI.fr hf, hE, fF hf, fun t u j hu hl => hc t u j (by omega) hu hl⟩)) (fun z => absurd (by decide) z)
    | succ n ih =>
      intro j g v4 v5 hn hj hf hc
      refine B_Ce_build_155 (fun z => ?_) (fun _ => B_Ce_build_161 ?_)
      · rw [show (10 : Int32) = nI 10 from rfl, nI_ltI (by omega) (by omega)] at z
        omega
      have cols : ∀ (n2 s : Nat) (g : PH) (v5 : Value), V.length - s = n2 → s ≤ V.length → Fr (fun x _ => x = ad 2 ∨ x = ad 3) g0 g → (∀ (t : Nat) (u : List Nat) (j' : Nat), (j' < j ∨ (j' = j ∧ t < s)) → V[t]? = some u → u.length + j' ≤ 10 → CtS g ad gs m t j' u) → wpx (d + 3) P_Ce_build 164 [.ref c, .ref tb, .int x2, .int (nI j), .int (nI s), v5] [] g Q := by
        intro n2
        induction n2 with
        | zero =>
          intro s g v5 hn2 hs hf hc
          have es : s = V.length := by omega
          have hIg := hI.fr hf
          refine B_Ce_build_164 hIg.1.1 (fun _ => B_Ce_build_200 ?_) (fun z => ?_)
          · rw [nI_1]
            refine ih (j + 1) g _ _ (by omega) (by omega) hf (fun t u j' h1 h2 h3 => ?_)
            have := (List.getElem?_eq_some_iff.mp h2).1
            exact hc t u j' (by omega) h2 h3
          · rw [hIg.2.1.1, nI_leI (by omega) (by omega)] at z
            omega
        | succ n2 ih2 =>
          intro s g v5 hn2 hs hf hc
          have hIg := hI.fr hf
          have gv : V[s]? = some (V[s]'(by omega)) := List.getElem?_eq_getElem (by omega)
          generalize V[s]'(by omega) = v at gv
          have v10 := hI.2.2.2.2.2.2.2.2.2 v (List.mem_of_getElem? gv)
          obtain ⟨ky, lv⟩ := hIg.2.1.2.1 s v gv
          have next : ∀ (g' : PH), Fr (fun x k => (x = ad 2 ∨ x = ad 3) ∧ k = s * 11 + j) g g' → (v.length + j ≤ 10 → CtS g' ad gs m s j v) → wpx (d + 3) P_Ce_build 194 [.ref c, .ref tb, .int x2, .int (nI j), .int (nI s), v5] [] g' Q := fun g' f' h' => by
            refine B_Ce_build_194 ?_
            rw [nI_1]
            refine ih2 (s + 1) g' _ (by omega) (by omega) (hf.tr (f'.up (fun x k z => z.1))) (fun t u j' h1 h2 h3 => ?_)
            by_cases y : j' = j ∧ t = s
            · obtain ⟨y1, y2⟩ := y
              subst y1
              subst y2
              rw [gv] at h2
              cases h2
              exact h' h3
            · obtain ⟨c1, c2⟩ := hc t u j' (by omega) h2 h3
              have ne : t * 11 + j' ≠ s * 11 + j := fun z => y (by omega)
              exact ⟨(f'.l _ _ (fun z => ne z.2)).trans c1, (f'.l _ _ (fun z => ne z.2)).trans c2⟩
          refine B_Ce_build_164 hIg.1.1 (fun z => ?_) (fun _ => B_Ce_build_173 hIg.1.1 hIg.1.2.2.1.1 hIg.1.2.2.1.2 (vp_in_nI (by omega) (by omega)) (fun z => ?_) (fun z => B_Ce_build_187 hIg.1.1 ?_))
          · rw [hIg.2.1.1, nI_leI (by omega) (by omega)] at z
            omega
          · rw [nI_clamp (by omega), lv, nI_add, show (10 : Int32) = nI 10 from rfl, nI_ltI (by omega) (by omega)] at z
            exact next g (Fr.rf _ _) (fun y => by omega)
          · rw [nI_clamp (by omega), lv, nI_add, show (10 : Int32) = nI 10 from rfl, nI_ltI (by omega) (by omega)] at z
            exact ce_countFrom (d := d + 2) ho hu hN hi hIg hE (fF hf) gv (by omega) (fun j' hj' t u h2 h3 => hc t u j' (by omega) h2 h3) (fun g' f' c' => next g' f' (fun _ => c'))
      exact cols V.length 0 g _ rfl (Nat.zero_le _) hf (fun t u j' h1 h2 h3 => hc t u j' (by omega) h2 h3)
  exact rows 11 0 g0 _ _ rfl (by omega) (Fr.rf _ _) (fun t u j' h1 _ _ => absurd h1 (Nat.not_lt_zero _))
theorem ce_build {d : Nat} {h : PH} {Q : PQ} {c tb m K M E : Nat} {ad : Nat → Nat} {N gs : List (List Nat)} {x2 : Int32} (ho : okg gs m) (hu : unlk gs) (hT : TrS h tb) (hc : CTr h tb N gs m) (hdj : ∀ x, tb ≤ x → x ≤ tb + 9 → ¬ Wce c ad x) (hS : CeS h c ad K M E) (cK : capK K) (cM : capM M) (cE : capE E) (hby : ∀ i, i < E → ∃ x, x < 28 ∧ h_i h (ad 7) i = nI x) (k : ∀ g ad' K' M' E' V ed F, CEN g c ad' K' M' E' N gs m V ed F → Ge c (fun x k => WcK c ad x k ∨ (x = c ∧ k = 10)) h g → Acc h g K M E K' M' E' → (∀ f, ad' f = ad f ∨ h_ct h ≤ ad' f) → h_i g c 10 = x2 → Q none g) : wpm (d + 4) 15 [.ref c, .ref tb, .int x2] h Q := by
  refine wpm_in P_Ce_build rfl (by decide) (by show ¬ 6 < 3; decide) ?_
  have hN : okN N := hc.1.1
  have inN : ∀ z, isI gs m z ∨ isG gs m z → z ∈ N := fun z hz => (hc.2.1 z).mpr (Or.inr hz)
  have inI : ∀ z, isI gs m z → z ∈ N := fun z hz => inN z (Or.inl hz)
  obtain ⟨s0, s1, s2, s3, s4, s5, s6, s7, s8, s9, s10, s11⟩ := hS
  have hS : CeS h c ad K M E := ⟨s0, s1, s2, s3, s4, s5, s6, s7, s8, s9, s10, s11⟩
  have kl := cK.le
  have ml := cM.le
  have el := cE.le
  have n7c := (s9.2 7 (by omega) (by omega)).1
  have n5c := (s9.2 5 (by omega) (by omega)).1
  have n75 : ad 7 ≠ ad 5 := s9.ne (by omega) (by omega) (by omega) (by omega) (by omega)
  have tbl := hT.2.2.2.2.2.2.2.2.2.2.2
  have f0 : Fr (fun x k => WcK c ad x k ∨ (x = c ∧ k = 10)) h (w_i (w_i (w_i h c 10 x2) c 4 0) c 9 0) := ((Fr.wi _ _ (Or.inr ⟨rfl, rfl⟩)).tr (Fr.wi _ _ (Or.inl (Or.inl ⟨rfl, Or.inl rfl⟩)))).tr (Fr.wi _ _ (Or.inl (Or.inl ⟨rfl, Or.inr rfl⟩)))
  refine B_Ce_build_0 s0 s5.1 ?_
  refine ja_fillI (n := M) ((CeS.fr f0 hS).2.2.2.2.2.1.2) (by omega) (fun g1 c1 f1 => ?_)
  have F1 : Fr (fun x k => WcK c ad x k ∨ (x = c ∧ k = 10)) h g1 := f0.tr (f1.up (fun x k z => Or.inl (Or.inr ⟨5, by omega, by omega, z⟩)))
  have S1 := CeS.fr F1 hS
  have i4 : h_i g1 c 4 = nI 0 := by
    rw [f1.i _ _ (fun z => n5c z.symm), wi_ne _ _ (by omega), wi_eq]
    rfl
  have i9 : h_i g1 c 9 = nI 0 := by
    rw [f1.i _ _ (fun z => n5c z.symm), wi_eq]
    rfl
  have i10 : h_i g1 c 10 = x2 := by rw [f1.i _ _ (fun z => n5c z.symm), wi_ne _ _ (by omega), wi_ne _ _ (by omega), wi_eq]
  have i7 : ∀ i, h_i g1 (ad 7) i = h_i h (ad 7) i := fun i => by rw [f1.i _ _ n75, wi_ne _ _ (fun z => n7c z.1), wi_ne _ _ (fun z => n7c z.1), wi_ne _ _ (fun z => n7c z.1)]
  have T1 : TrS g1 tb := hT.fr F1
  have tbn : ∀ x k, tb ≤ x → x ≤ tb + 9 → ¬ (WcK c ad x k ∨ (x = c ∧ k = 10)) := fun x k a b z => z.elim (fun y => hdj x a b y.W) (fun y => hdj x a b (Or.inl y.1))
  have C1 : CTr g1 tb N gs m := hc.eq (fun x k a b => F1.i _ _ (tbn x k a b))
  have ct1 : h_ct g1 = h_ct h := F1.2.2.1
  refine B_Ce_build_23 S1.1 ?_
  have V0 : CeV g1 c ad N gs m [] := ⟨i4, fun s v hs => (by cases hs), List.nodup_nil, fun v hv => (by cases hv)⟩
  have T0 : CeT g1 ad M N gs m [] := ⟨[], HT.emp (fun p hp => c1 p hp)⟩
  have E0 : CeEd g1 c ad E [] := ⟨i9, fun i q hq => (by cases hq), fun i hi => by rw [i7]; exact hby i hi, Nat.zero_le _⟩
  have key := ce_stateOf (d := d) (h := g1) (c := c) (K := K) (M := M) (E := E) (ad := ad) (N := N) (gs := gs) (m := m) (V := []) (w := []) (Q := fun r h' => wpx (d + 3) P_Ce_build 29 [.ref c, .ref tb, .int x2, .retAddr 0, .retAddr 0, .retAddr 0] (r.toList ++ []) h' Q) ho hN inI S1 V0 T0 cK cM (Nat.zero_le _) (by show 4 * 0 ≤ _; omega) (by rw [kyW_nil hN]; omega) (fun s v hs => by cases hs) (fun hno g2 ad2 K2 M2 a1 a2 a3 a4 a5 a6 a7 a8 a9 a10 a11 a12 a13 a14 => ?_)
  · rw [kyW_nil hN] at key
    exact key
  · obtain ⟨p0, p1, p2, p3, p4, p5, p6, p7, p8, p9, p10, p11⟩ := a1
    have a1 : CeS g2 c ad2 K2 M2 E := ⟨p0, p1, p2, p3, p4, p5, p6, p7, p8, p9, p10, p11⟩
    have l7 := (s9.2 7 (by omega) (by omega)).2.2
    have n70 : ad 7 ≠ ad 0 := s9.ne (by omega) (by omega) (by omega) (by omega) (by omega)
    have n71 : ad 7 ≠ ad 1 := s9.ne (by omega) (by omega) (by omega) (by omega) (by omega)
    have e7 : ∀ k, h_i g2 (ad2 7) k = h_i g1 (ad 7) k := fun k => by
      rw [a10]
      exact a13.i (by omega) (fun w => by rcases w with w | w | w | w; exact n7c w.1; exact n70 w; exact n71 w; exact n75 w)
    have nc0 := (s9.2 0 (by omega) (by omega)).1
    have nc1 := (s9.2 1 (by omega) (by omega)).1
    have ec : ∀ k, k ≠ 4 → h_i g2 c k = h_i g1 c k := fun k hk => a13.i (by omega) (fun w => by rcases w with w | w | w | w; exact hk w.2; exact nc0 w.symm; exact nc1 w.symm; exact n5c w.symm)
    have B0 : BFr g1 ad K M E c g1 ad K M E := ⟨Ge.rf _ _ _, Acc.rf _ _ _ _, fun _ => Or.inl rfl⟩
    have B2 := B0.step a13 (fun x k w => by
      rcases w with w | w | w | w
      · exact Or.inl ⟨w.1, Or.inl w.2⟩
      · exact Or.inr ⟨0, by omega, by omega, w⟩
      · exact Or.inr ⟨1, by omega, by omega, w⟩
      · exact Or.inr ⟨5, by omega, by omega, w⟩) a14 a12
    have I2 : BIv N gs m c g2 ad2 K2 M2 E ([] ++ [[]]) [] := ⟨a1, a2, a3, ⟨a4, a5, cE⟩, a6, a7, ⟨(ec 9 (by omega)).trans i9, fun i q hq => (by cases hq), fun i hi => by rw [e7]; exact E0.2.2.1 i hi, Nat.zero_le _⟩, rfl, fun t t' u u' _ h1 h2 => ?_, fun u hu' => ?_⟩
    · refine B_Ce_build_29 (ce_bfs (h0 := g1) ho hu T1 C1 hdj (fun g ad3 K3 M3 E3 V ed F x3 v4 v5 b1 b2 b3 b4 => ?_) 30604 0 g2 ad2 K2 M2 E ([] ++ [[]]) [] (fun _ => 0) _ _ (by omega) (Nat.zero_le _) I2 B2 ⟨fun s' v hs' => absurd hs' (Nat.not_lt_zero _), rfl, Nat.zero_le _⟩ (fun h0 => absurd h0 (Nat.lt_irrefl _)) (fun v hv u hu' => ?_))
      · refine ce_counts ho hu hN inI b1 b3 b4 (fun g4 f4 hC => ?_) x3 v4 v5
        have p9' : adI c (h_ct g) ad3 := b1.1.2.2.2.2.2.2.2.2.2.1
        have st10 : h_i g4 c 10 = x2 := by
          rw [f4.i _ _ (fun z => z.elim (fun y => (p9'.2 2 (by omega) (by omega)).1 y.symm) (fun y => (p9'.2 3 (by omega) (by omega)).1 y.symm)), b2.1.i (by omega) (fun z => ?_), i10]
          rcases z with z | ⟨f, f1, f2, z⟩
          · omega
          · exact (s9.2 f f1 f2).1 z.symm
        have B4 := b2.step (f4.ge (c := c)) (fun x k z => z.elim (fun y => Or.inr ⟨2, by omega, by omega, y⟩) (fun y => Or.inr ⟨3, by omega, by omega, y⟩)) (f4.acc K3 M3 E3) (fun f => Or.inl rfl)
        obtain ⟨q1, q2, q3⟩ := B4
        refine k g4 ad3 K3 M3 E3 V ed F hC ((F1.ge (c := c)).tr q1 (fun x k _ z => Or.inl z)) ((F1.acc K M E).tr q2) (fun f => ?_) st10
        rcases q3 f with y | y
        · exact Or.inl y
        · rw [ct1] at y
          exact Or.inr y
      · have e1 : u = [] := List.mem_singleton.mp hu'
        rw [e1]
        exact Nat.zero_le _
    · have e1 : u = [] := List.mem_singleton.mp (List.mem_of_getElem? h1)
      rw [e1]
      exact Nat.zero_le _
    · have e1 : u = [] := List.mem_singleton.mp hu'
      rw [e1]
      exact Nat.zero_le _
