/-! words on the class's side: the state with a key, found or new -/
def CeV (h : PH) (c : Nat) (ad : Nat → Nat) (N gs : List (List Nat)) (m : Nat) (V : List (List Nat)) : Prop := h_i h c 4 = nI V.length ∧ (∀ (s : Nat) (v : List Nat), V[s]? = some v → h_i h (ad 0) s = nI (kyW N gs m v) ∧ h_i h (ad 1) s = nI v.length) ∧ (V.map (kyW N gs m)).Nodup ∧ ∀ v ∈ V, kyW N gs m v ≠ 0
def CeT (h : PH) (ad : Nat → Nat) (M : Nat) (N gs : List (List Nat)) (m : Nat) (V : List (List Nat)) : Prop := ∃ P, HT M (h_i h (ad 5)) (V.map (kyW N gs m)) P
def capK (K : Nat) : Prop := ∃ a, a ≤ 9 ∧ K = 64 * 2 ^ a
def capM (M : Nat) : Prop := ∃ b, 8 ≤ b ∧ b ≤ 16 ∧ M = 2 ^ b
theorem pw9 : ∀ a, a ≤ 9 → 64 ≤ 64 * 2 ^ a ∧ 64 * 2 ^ a ≤ 32768 ∧ (a ≤ 8 ∨ 64 * 2 ^ a = 32768) := by decide
theorem pw16 : ∀ b, b ≤ 16 → 8 ≤ b → 256 ≤ 2 ^ b ∧ 2 ^ b ≤ 65536 ∧ (b ≤ 15 ∨ 2 ^ b = 65536) := by decide
theorem capK.le {K : Nat} (h : capK K) : 64 ≤ K ∧ K ≤ 32768 := by
  obtain ⟨a, h1, h2⟩ := h
  have := pw9 a h1
  omega
theorem capM.le {M : Nat} (h : capM M) : 256 ≤ M ∧ M ≤ 65536 := by
  obtain ⟨b, h0, h1, h2⟩ := h
  have := pw16 b h1 h0
  omega
theorem capK.dbl {K : Nat} (h : capK K) (hlt : K < 32768) : capK (2 * K) := by
  obtain ⟨a, h1, h2⟩ := h
  have := pw9 a h1
  exact ⟨a + 1, by omega, by rw [h2, Nat.pow_succ]; omega⟩
theorem capM.dbl {M : Nat} (h : capM M) (hlt : M < 65536) : capM (2 * M) := by
  obtain ⟨b, h0, h1, h2⟩ := h
  have := pw16 b h1 h0
  exact ⟨b + 1, by omega, by omega, by rw [h2, Nat.pow_succ]; omega⟩
theorem kyW_lt {N gs : List (List Nat)} {m : Nat} {v : List Nat} (ho : okg gs m) (hN : okN N) (hi : ∀ x, isI gs m x → x ∈ N) : kyW N gs m v < 2 ^ 31 := by
  have hX : dpX gs m v 6 ∈ N := (dpX_in ho 6).elim (fun z => by rw [z]; exact List.mem_of_getElem? hN.2.1) (hi _)
  have h1 := nix_lt hX
  have h2 := hN.2.2.2.1
  have h3 := dgs_lt (gs := gs) (m := m) v
  unfold kyW
  omega
theorem ce_stateOf {d : Nat} {h : PH} {Q : PQ} {c K M E m : Nat} {ad : Nat → Nat} {N gs V : List (List Nat)} {w : List Nat} (ho : okg gs m) (hN : okN N) (hi : ∀ x, isI gs m x → x ∈ N) (hS : CeS h c ad K M E) (hV : CeV h c ad N gs m V) (hT : CeT h ad M N gs m V) (cK : capK K) (cM : capM M) (hVK : V.length ≤ K) (hVM : 4 * V.length ≤ 3 * M) (hw : kyW N gs m w ≠ 0) (k1 : ∀ s v, V[s]? = some v → kyW N gs m v = kyW N gs m w → Q (some (.int (nI s))) h) (k2 : (∀ v ∈ V, kyW N gs m v ≠ kyW N gs m w) → ∀ h' ad' K' M', CeS h' c ad' K' M' E → CeV h' c ad' N gs m (V ++ [w]) → CeT h' ad' M' N gs m (V ++ [w]) → capK K' → capM M' → V.length + 1 ≤ K' → 4 * (V.length + 1) ≤ 3 * M' → K ≤ K' → (∀ i, i < K + 1 → h_i h' (ad' 6) i = h_i h (ad 6) i) → ad' 7 = ad 7 → ad' 8 = ad 8 → (∀ f, ad' f = ad f ∨ h_ct h ≤ ad' f) → Ge c (fun x k => (x = c ∧ k = 4) ∨ x = ad 0 ∨ x = ad 1 ∨ x = ad 5) h h' → Acc h h' K M E K' M' E → Q (some (.int (nI V.length))) h') : wpm (d + 3) 17 [.ref c, .int (nI (kyW N gs m w)), .int (nI w.length)] h Q := by
  refine wpm_in P_Ce_stateOf rfl (by decide) (by show ¬ 6 < 3; decide) ?_
  obtain ⟨P, hP⟩ := hT
  obtain ⟨v0, v1, v2, v3⟩ := hV
  have kl := cK.le
  have ml := cM.le
  obtain ⟨b, hb0, hb1, hb⟩ := cM
  have cM : capM M := ⟨b, hb0, hb1, hb⟩
  obtain ⟨s0, s1, s2, s3, s4, s5, s6, s7, s8, s9, s10, s11⟩ := hS
  have hS : CeS h c ad K M E := ⟨s0, s1, s2, s3, s4, s5, s6, s7, s8, s9, s10, s11⟩
  have l : ∀ f, f < 9 → f ≠ 4 → ad f < h_ct h := fun f a b => (s9.2 f a b).2.2
  have V3 := keys_le ho hN v2 v3
  have kwl := kyW_lt (v := w) ho hN hi
  have hPl : P.length = V.length := by rw [hP.1, List.length_map]
  have em : (Int32.ofNat M) - (1 : Int32) = nI (M - 1) := by
    rw [show (Int32.ofNat M) = nI M from rfl, show (1 : Int32) = nI 1 from rfl, nI_subN (by omega)]
  have hlt := hsh_lt (M := M) (k := kyW N gs m w) (by omega)
  -- a place for the key is found
  have at80 : ∀ (j : Nat) (x5 : Int32), (∀ v ∈ V, kyW N gs m v ≠ kyW N gs m w) → ¬ (hsh M (kyW N gs m w) + j) % M ∈ P → (∀ i, i < j → (hsh M (kyW N gs m w) + i) % M ∈ P) → wpx (d + 2) P_Ce_stateOf 80 [.ref c, .int (nI (kyW N gs m w)), .int (nI w.length), .int (nI (M - 1)), .int (nI ((hsh M (kyW N gs m w) + j) % M)), .int x5] [] h Q := by
    intro j x5 hno hp hj
    have plt : (hsh M (kyW N gs m w) + j) % M < M := Nat.mod_lt _ (by omega)
    generalize hpe : (hsh M (kyW N gs m w) + j) % M = p at hp plt ⊢
    have hn' : ((V ++ [w]).map (kyW N gs m)).Nodup := by
      rw [List.map_append]
      refine nd_snoc v2 (fun z => ?_)
      obtain ⟨v, hv, e⟩ := List.mem_map.mp z
      exact hno v hv e
    have h0' : ∀ v ∈ V ++ [w], kyW N gs m v ≠ 0 := fun v hv => (List.mem_append.mp hv).elim (v3 v) (fun z => by rw [List.mem_singleton.mp z]; exact hw)
    have V4 := keys_le ho hN hn' h0'
    rw [List.length_append] at V4
    have V4 : V.length + 1 ≤ 30604 := V4
    have at96 : ∀ (g : PH) (ad1 : Nat → Nat) (K1 : Nat), CeS g c ad1 K1 M E → capK K1 → V.length < K1 → K ≤ K1 → h_i g c 4 = nI V.length → (∀ (s : Nat) (v : List Nat), V[s]? = some v → h_i g (ad1 0) s = nI (kyW N gs m v) ∧ h_i g (ad1 1) s = nI v.length) → ad1 5 = ad 5 → ad1 7 = ad 7 → ad1 8 = ad 8 → (∀ f, ad1 f = ad f ∨ h_ct h ≤ ad1 f) → (∀ i, h_i g (ad 5) i = h_i h (ad 5) i) → (∀ i, i < K + 1 → h_i g (ad1 6) i = h_i h (ad 6) i) → Ge c (fun _ _ => False) h g → Acc h g K M E K1 M E → wpx (d + 2) P_Ce_stateOf 96 [.ref c, .int (nI (kyW N gs m w)), .int (nI w.length), .int (nI (M - 1)), .int (nI p), .int x5] [] g Q := by
      intro g ad1 K1 gS cK1 nK1 KK1 g4 gv a5 a7 a8 aA gsl gfe gF gA
      obtain ⟨t0, t1, t2, t3, t4, t5, t6, t7, t8, t9, t10, t11⟩ := gS
      have gS : CeS g c ad1 K1 M E := ⟨t0, t1, t2, t3, t4, t5, t6, t7, t8, t9, t10, t11⟩
      have k1l := cK1.le
      have n0c := (t9.2 0 (by omega) (by omega)).1
      have n1c := (t9.2 1 (by omega) (by omega)).1
      have n5c := (t9.2 5 (by omega) (by omega)).1
      have n01 : ad1 0 ≠ ad1 1 := t9.ne (by omega) (by omega) (by omega) (by omega) (by omega)
      have n05 : ad1 0 ≠ ad1 5 := t9.ne (by omega) (by omega) (by omega) (by omega) (by omega)
      have n15 : ad1 1 ≠ ad1 5 := t9.ne (by omega) (by omega) (by omega) (by omega) (by omega)
      have n06 : ad1 6 ≠ ad1 0 := t9.ne (by omega) (by omega) (by omega) (by omega) (by omega)
      have n16 : ad1 6 ≠ ad1 1 := t9.ne (by omega) (by omega) (by omega) (by omega) (by omega)
      have n56 : ad1 6 ≠ ad1 5 := t9.ne (by omega) (by omega) (by omega) (by omega) (by omega)
      have n6c := (t9.2 6 (by omega) (by omega)).1
      have u1 : h_i (w_i g (ad1 0) V.length (nI (kyW N gs m w))) c 4 = nI V.length := by rw [wi_ne _ _ (fun z => n0c z.1.symm), g4]
      have u2 : h_i (w_i (w_i g (ad1 0) V.length (nI (kyW N gs m w))) (ad1 1) V.length (nI w.length)) c 4 = nI V.length := by rw [wi_ne _ _ (fun z => n1c z.1.symm), u1]
      refine B_Ce_stateOf_96 t0 t1.1 t1.2 (by rw [g4]; exact vp_in_nI (by omega) (by omega)) t2.1 t2.2 (by rw [g4, nI_clamp (by omega), u1]; exact vp_in_nI (by omega) (by omega)) ?_
      rw [g4, nI_clamp (by omega), u1, nI_clamp (by omega), u2, nI_1]
      have F : Fr (fun x k => (x = c ∧ k = 4) ∨ x = ad1 0 ∨ x = ad1 1) g (w_i (w_i (w_i g (ad1 0) V.length (nI (kyW N gs m w))) (ad1 1) V.length (nI w.length)) c 4 (nI (V.length + 1))) := ((Fr.wi _ _ (Or.inr (Or.inl rfl))).tr (Fr.wi _ _ (Or.inr (Or.inr rfl)))).tr (Fr.wi _ _ (Or.inl ⟨rfl, rfl⟩))
      have e4 : h_i (w_i (w_i (w_i g (ad1 0) V.length (nI (kyW N gs m w))) (ad1 1) V.length (nI w.length)) c 4 (nI (V.length + 1))) c 4 = nI (V.length + 1) := wi_eq ..
      have ek : ∀ (s : Nat) (v : List Nat), (V ++ [w])[s]? = some v → h_i (w_i (w_i (w_i g (ad1 0) V.length (nI (kyW N gs m w))) (ad1 1) V.length (nI w.length)) c 4 (nI (V.length + 1))) (ad1 0) s = nI (kyW N gs m v) ∧ h_i (w_i (w_i (w_i g (ad1 0) V.length (nI (kyW N gs m w))) (ad1 1) V.length (nI w.length)) c 4 (nI (V.length + 1))) (ad1 1) s = nI v.length := fun s v hs => by
        rw [wi_ne _ _ (fun z => n0c z.1), wi_ne _ _ (fun z => n1c z.1), wi_ne _ _ (fun z => n01 z.1)]
        rcases get_snoc hs with ⟨a, b⟩ | ⟨a, b⟩
        · rw [wi_ne _ _ (by omega), wi_ne _ _ (by omega), wi_ne _ _ (by omega)]
          exact gv s v b
        · rw [b, a, wi_eq, wi_eq]
          exact ⟨rfl, rfl⟩
      generalize w_i (w_i (w_i g (ad1 0) V.length (nI (kyW N gs m w))) (ad1 1) V.length (nI w.length)) c 4 (nI (V.length + 1)) = g1 at F e4 ek ⊢
      have gS1 := CeS.fr F gS
      obtain ⟨r0, r1, r2, r3, r4, r5, r6, r7, r8, r9, r10, r11⟩ := gS1
      have gS1 : CeS g1 c ad1 K1 M E := ⟨r0, r1, r2, r3, r4, r5, r6, r7, r8, r9, r10, r11⟩
      have F2 : Fr (fun x k => (x = c ∧ k = 4) ∨ x = ad1 0 ∨ x = ad1 1 ∨ x = ad1 5) g (w_i g1 (ad1 5) p (nI (V.length + 1))) := (F.up (fun x k z => by rcases z with z | z | z <;> simp only [z, true_or, or_true, and_self])).tr (Fr.wi _ _ (Or.inr (Or.inr (Or.inr rfl))))
      have w4 : h_i (w_i g1 (ad1 5) p (nI (V.length + 1))) c 4 = nI (V.length + 1) := by rw [wi_ne _ _ (fun z => n5c z.1.symm), e4]
      have wk : ∀ (s : Nat) (v : List Nat), (V ++ [w])[s]? = some v → h_i (w_i g1 (ad1 5) p (nI (V.length + 1))) (ad1 0) s = nI (kyW N gs m v) ∧ h_i (w_i g1 (ad1 5) p (nI (V.length + 1))) (ad1 1) s = nI v.length := fun s v hs => by
        rw [wi_ne _ _ (fun z => n05 z.1), wi_ne _ _ (fun z => n15 z.1)]
        exact ek s v hs
      have wT : HT M (h_i (w_i g1 (ad1 5) p (nI (V.length + 1))) (ad1 5)) ((V ++ [w]).map (kyW N gs m)) (P ++ [p]) := by
        rw [List.map_append]
        refine hP.add (j := j) (by omega) hpe.symm hp hj (fun q => ?_)
        rw [List.length_map, h_i_wi]
        by_cases y : q = p
        · rw [if_pos ⟨rfl, y⟩, if_pos y]
        · rw [if_neg (fun z => y z.2), if_neg y, F.i _ _ (fun z => by omega), a5, gsl]
      have w6 : ∀ i, i < K + 1 → h_i (w_i g1 (ad1 5) p (nI (V.length + 1))) (ad1 6) i = h_i h (ad 6) i := fun i hi => by
        rw [wi_ne _ _ (fun z => n56 z.1), F.i _ _ (fun z => by omega)]
        exact gfe i hi
      have upW : ∀ x k, x < h_ct h → ((x = c ∧ k = 4) ∨ x = ad1 0 ∨ x = ad1 1 ∨ x = ad1 5) → ((x = c ∧ k = 4) ∨ x = ad 0 ∨ x = ad 1 ∨ x = ad 5) := fun x k hx z => by
        have q0 := aA 0
        have q1 := aA 1
        omega
      have lenV : (V ++ [w]).length = V.length + 1 := by rw [List.length_append]; rfl
      have e43 : ((4 : Int32) * nI (V.length + 1)) = nI (4 * (V.length + 1)) := by rw [show (4 : Int32) = nI 4 from rfl, nI_mulN]
      have e3M : ((3 : Int32) * (Int32.ofNat M)) = nI (3 * M) := by rw [show (3 : Int32) = nI 3 from rfl, show (Int32.ofNat M) = nI M from rfl, nI_mulN]
      have cl : (nI p).toNatClampNeg = p := nI_clamp (by omega)
      refine B_Ce_stateOf_126 r0 r5.1 r5.2 (vp_in_nI plt (by omega)) (fun z => ?_) (fun z => ?_)
      · rw [cl, e4, w4, e43, e3M, nI_leI (by omega) (by omega)] at z
        rw [cl, e4]
        refine B_Ce_stateOf_157 ((CeS.fr F2 gS).1) ?_
        rw [w4, show (1 : Int32) = nI 1 from rfl, nI_subN (by omega), Nat.add_sub_cancel]
        exact k2 hno _ ad1 K1 M (CeS.fr F2 gS) ⟨by rw [lenV]; exact w4, wk, hn', h0'⟩ ⟨_, wT⟩ cK1 cM nK1 z KK1 w6 a7 a8 aA ((gF.up (fun _ _ q => q.elim)).tr F2.ge upW) (gA.tr (F2.acc K1 M E))
      · rw [cl, e4, w4, e43, e3M, nI_leI (by omega) (by omega)] at z
        rw [cl, e4]
        have S2 := CeS.fr F2 gS
        have ct2 : h_ct (w_i g1 (ad1 5) p (nI (V.length + 1))) = h_ct g := F2.2.2.1
        refine B_Ce_stateOf_153 S2.1 (ce_growSlots (ks := (V ++ [w]).map (kyW N gs m)) (b := b) S2 ml.1 hb (by omega) (by rw [List.length_map, lenV]; exact w4) (by rw [List.length_map, lenV]; omega) (by rw [List.length_map, lenV]; omega) (by omega) (fun s k' hs => ?_) (fun h' ad' P' hS' hT' b5 b6 b7 b8 => ?_))
        · rw [List.getElem?_map] at hs
          cases ev : (V ++ [w])[s]? with
          | none =>
            rw [ev] at hs
            cases hs
          | some v =>
            rw [ev] at hs
            have : kyW N gs m v = k' := Option.some.inj hs
            rw [← this]
            exact ⟨kyW_lt ho hN hi, (wk s v ev).1⟩
        · have lt : ∀ f, f < 9 → f ≠ 4 → ad1 f < h_ct (w_i g1 (ad1 5) p (nI (V.length + 1))) := fun f a b => by rw [ct2]; exact (t9.2 f a b).2.2
          have same : ∀ x k, x < h_ct g → h_i h' x k = h_i (w_i g1 (ad1 5) p (nI (V.length + 1))) x k := fun x k hx => b7.i (by rw [ct2]; exact hx) (fun z => z)
          refine B_Ce_stateOf_157 hS'.1 ?_
          rw [same c 4 t11, w4, show (1 : Int32) = nI 1 from rfl, nI_subN (by omega), Nat.add_sub_cancel]
          have a0 : ad' 0 = ad1 0 := b5 0 (by omega)
          have a1 : ad' 1 = ad1 1 := b5 1 (by omega)
          have a6 : ad' 6 = ad1 6 := b5 6 (by omega)
          have gct := gF.2.1
          refine k2 hno h' ad' K1 (2 * M) hS' ⟨by rw [lenV, same c 4 t11]; exact w4, fun s v hs => ?_, hn', h0'⟩ ⟨P', hT'⟩ cK1 (cM.dbl (by omega)) nK1 (by omega) KK1 (fun i hi => ?_) ((b5 7 (by omega)).trans a7) ((b5 8 (by omega)).trans a8) (fun f => ?_) (((gF.up (fun _ _ q => q.elim)).tr F2.ge upW).tr b7 (fun _ _ _ z => z.elim)) ((gA.tr (F2.acc K1 M E)).tr b8)
          · rw [a0, a1, same _ _ (t9.2 0 (by omega) (by omega)).2.2, same _ _ (t9.2 1 (by omega) (by omega)).2.2]
            exact wk s v hs
          · rw [a6, same _ _ (t9.2 6 (by omega) (by omega)).2.2]
            exact w6 i hi
          · by_cases y : f = 5
            · rw [y, b6, ct2]
              exact Or.inr gct
            · rw [b5 f y]
              exact aA f
    have eK : (Int32.ofNat K) = nI K := rfl
    refine B_Ce_stateOf_80 s0 s1.1 s1.2 (fun z => ?_) (fun z => B_Ce_stateOf_92 s0 (ce_growStates hS (by omega) kl.1 (fun g ad1 gS gv g6 a5 a7 a8 aA gF gA => ?_)))
    · rw [v0, eK, nI_ltI (by omega) (by omega)] at z
      exact at96 h ad K hS cK z (Nat.le_refl _) v0 v1 rfl rfl rfl (fun _ => Or.inl rfl) (fun _ => rfl) (fun _ _ => rfl) (Ge.rf _ _ _) (Acc.rf _ _ _ _)
    · rw [v0, eK, nI_ltI (by omega) (by omega)] at z
      have eqK : V.length = K := by omega
      refine at96 g ad1 (2 * K) gS (cK.dbl (by omega)) (by omega) (by omega) ((gF.i s11 (fun q => q)).trans v0) (fun s v hs => ?_) a5 a7 a8 aA (fun i => gF.i (l 5 (by omega) (by omega)) (fun q => q)) g6 gF gA
      have sl := (List.getElem?_eq_some_iff.mp hs).1
      rw [(gv s (by omega)).1, (gv s (by omega)).2]
      exact v1 s v hs
  -- the search
  refine B_Ce_stateOf_0 s0 s5.1 s5.2 ?_
  rw [em, hb, hsh_is (by omega), ← hb]
  have seek : ∀ (n i : Nat), M - i = n → i ≤ M → (∀ i', i' < i → ∃ (s : Nat) (v : List Nat), P[s]? = some ((hsh M (kyW N gs m w) + i') % M) ∧ V[s]? = some v ∧ kyW N gs m v ≠ kyW N gs m w) → wpx (d + 2) P_Ce_stateOf 22 [.ref c, .int (nI (kyW N gs m w)), .int (nI w.length), .int (nI (M - 1)), .int (nI ((hsh M (kyW N gs m w) + i) % M)), .int (nI i)] [] h Q := by
    intro n
    induction n with
    | zero =>
      intro i hn hiM hp
      have := HT.full (P := P) (by omega) hlt (fun i' hi' => by
        obtain ⟨s, v, a, _⟩ := hp i' (by omega)
        exact List.mem_of_getElem? a)
      omega
    | succ n ih =>
      intro i hn hiM hp
      have plt : (hsh M (kyW N gs m w) + i) % M < M := Nat.mod_lt _ (by omega)
      have vp : vp_in (nI ((hsh M (kyW N gs m w) + i) % M)) M := vp_in_nI plt (by omega)
      refine B_Ce_stateOf_22 (fun z => ?_) (fun _ => B_Ce_stateOf_28 s0 s5.1 s5.2 vp (fun z => ?_) (fun z => ?_))
      · rw [nI_ltI (by omega) (by omega)] at z
        omega
      · rw [nI_clamp (by omega)] at z
        have np : ¬ (hsh M (kyW N gs m w) + i) % M ∈ P := fun y => by
          rcases hP.val plt with ⟨_, s', _, h2, h3⟩ | ⟨y', _⟩
          · rw [z] at h3
            rw [List.length_map] at h2
            have := (nI_eq (a := 0) (b := s' + 1) (by omega) (by omega)).mp h3
            omega
          · exact y' y
        refine at80 i _ (fun v hv e => ?_) np (fun i' hi' => ?_)
        · obtain ⟨s, hs⟩ := List.getElem?_of_mem hv
          have sl := (List.getElem?_eq_some_iff.mp hs).1
          have gp : P[s]? = some (P[s]'(by omega)) := List.getElem?_eq_getElem (by omega)
          generalize P[s]'(by omega) = p at gp
          obtain ⟨j, j1, j2⟩ := hP.2.2.2.2 s p (kyW N gs m v) gp (by rw [List.getElem?_map, hs]; rfl)
          rw [e] at j1 j2
          by_cases y : j < i
          · obtain ⟨s', v', a1, a2, a3⟩ := hp j y
            rw [← j1] at a1
            have es : s = s' := by
              have q1 := (List.getElem?_eq_some_iff.mp gp)
              have q2 := (List.getElem?_eq_some_iff.mp a1)
              exact (List.getElem?_inj q1.1 hP.2.1).mp (gp.trans a1.symm)
            rw [← es, hs] at a2
            rw [← Option.some.inj a2] at a3
            exact a3 e
          · by_cases y2 : j = i
            · rw [y2] at j1
              exact np (by rw [← j1]; exact List.mem_of_getElem? gp)
            · exact np (j2 i (by omega))
        · obtain ⟨s, v, a, _⟩ := hp i' hi'
          exact List.mem_of_getElem? a
      · rw [nI_clamp (by omega)] at z
        rcases hP.val plt with ⟨y, s, h1, h2, h3⟩ | ⟨_, y⟩
        · rw [List.length_map] at h2
          have gv : V[s]? = some (V[s]'h2) := List.getElem?_eq_getElem h2
          generalize V[s]'h2 = v at gv
          have e1 : nI (s + 1) - (1 : Int32) = nI s := by rw [show (1 : Int32) = nI 1 from rfl, nI_subN (by omega), Nat.add_sub_cancel]
          have cl : (nI ((hsh M (kyW N gs m w) + i) % M)).toNatClampNeg = (hsh M (kyW N gs m w) + i) % M := nI_clamp (by omega)
          refine B_Ce_stateOf_38 s0 s1.1 s5.1 s5.2 vp s1.2 (by rw [cl, h3, e1]; exact vp_in_nI (by omega) (by omega)) (fun q => B_Ce_stateOf_66 ?_) (fun q => B_Ce_stateOf_56 s0 s5.1 s5.2 vp ?_)
          · rw [cl, h3, e1, nI_clamp (by omega), (v1 s v gv).1, nI_eq (kyW_lt ho hN hi) kwl] at q
            rw [nI_1, nI_1, hb, nI_mask (by omega) (by omega), ← hb, mod_step (by omega)]
            refine ih (i + 1) (by omega) (by omega) (fun i' hi' => ?_)
            by_cases y2 : i' = i
            · rw [y2]
              exact ⟨s, v, h1, gv, q⟩
            · exact hp i' (by omega)
          · rw [cl, h3, e1, nI_clamp (by omega), (v1 s v gv).1, nI_eq (kyW_lt ho hN hi) kwl] at q
            rw [cl, h3, e1]
            exact k1 s v gv q
        · exact absurd y z
  have := seek M 0 rfl (Nat.zero_le _) (fun i' hi' => absurd hi' (Nat.not_lt_zero _))
  have e0 : (hsh M (kyW N gs m w) + 0) % M = hsh M (kyW N gs m w) := by rw [Nat.add_zero, Nat.mod_eq_of_lt hlt]
  rw [e0] at this
  exact this
