/-! borders on the class's side: the search, letter by letter from the end -/
def Wlen (b la n x k : Nat) : Prop := (x = b ∧ k = 3) ∨ x = la ∨ ((x = b + 1 ∨ x = b + 2) ∧ n < k / 2)
theorem bo_lengthen {b tb : Nat} {N gs : List (List Nat)} {m : Nat} (hd : tb + 9 < b ∨ b + 4 < tb) : ∀ (k n D : Nat) (r : List Nat) (h : PH) (Q : PQ) (la cap : Nat) (l : List Nat), 3 + k ≤ D → r.length = n → n + k = 4 → (∀ x ∈ r, 0 < x ∧ x < 28) → BoS h b la cap → BL h b la cap l → capL cap → TrS h tb → CTr h tb N gs m → (la < tb ∨ tb + 9 < la) → BSt h (b + 1) n (ofN N (pasP gs m r)) → BSt h (b + 2) n (ofN N (insP gs m r)) → l.length + (blR gs m k r).length < 65536 → (∀ h' la' cap', BoS h' b la' cap' → BL h' b la' cap' (l ++ (blR gs m k r).map cdB) → capL cap' → (la' = la ∨ h_ct h ≤ la') → AcB h h' cap cap' → Ge b (Wlen b la n) h h' → Q none h') → wpm D 6 [.ref b, .ref tb, .int (nI n), .int (nI (pkN r))] h Q := by
  intro k
  induction k with
  | zero =>
    intro n D r h Q la cap l hD hr hn hx hB hL hc hT hC hla hP hE hl kk
    obtain ⟨e, rfl⟩ : ∃ e, D = e + 1 := ⟨D - 1, by omega⟩
    refine wpm_in P_Bo_lengthen rfl (by decide) (by show ¬ 6 < 4; decide) ?_
    have en : n = 4 := by omega
    subst en
    have kk' := kk h la cap hB (by show BL h b la cap (l ++ []); rw [List.append_nil]; exact hL) hc (Or.inl rfl) (AcB.rf _ _) (Ge.rf _ _ _)
    exact B_Bo_lengthen_0 (fun z => absurd z (by decide)) (fun _ => B_Bo_lengthen_5 kk')
  | succ k ih =>
    intro n D r h Q la cap l hD hr hn hx hB hL hc hT hC hla hP hE hl kk
    obtain ⟨e, rfl⟩ : ∃ e, D = e + 4 := ⟨D - 4, by omega⟩
    refine wpm_in P_Bo_lengthen rfl (by decide) (by show ¬ 6 < 4; decide) ?_
    have hN : okN N := hC.1.1
    have b63 := hB.2.2.2.2.2.1
    have bct := hB.2.2.2.2.2.2.1
    have lct := hB.2.2.2.2.2.2.2.1
    have lab := hB.2.2.2.2.2.2.2.2
    have tct := hT.2.2.2.2.2.2.2.2.2.2.2
    obtain ⟨TL, eTL⟩ : ∃ TL, TL = l ++ (blR gs m (k + 1) r).map cdB := ⟨_, rfl⟩
    rw [← eTL] at kk
    have lTL : TL.length < 65536 := by
      rw [eTL, List.length_append, List.length_map]
      exact hl
    have loop : ∀ (ee s : Nat) (g : PH) (la1 cap1 : Nat) (l1 : List Nat) (v5 : Value), 28 - s = ee → 1 ≤ s → s ≤ 28 → l1 ++ ((List.range' s (28 - s)).flatMap (fun s => iteLL (iW gs m (s :: r)) (blR gs m k (s :: r)) (iteLL (iE gs m (s :: r)) [s :: r] []))).map cdB = TL → BoS g b la1 cap1 → BL g b la1 cap1 l1 → capL cap1 → (la1 = la ∨ h_ct h ≤ la1) → AcB h g cap cap1 → Ge b (Wlen b la n) h g → wpx (e + 3) P_Bo_lengthen 9 [.ref b, .ref tb, .int (nI n), .int (nI (pkN r)), .int (nI s), v5] [] g Q := by
      intro ee
      induction ee with
      | zero =>
        intro s g la1 cap1 l1 v5 he h1 h2 eL hB1 hL1 hc1 hl1 hA1 hf
        have es : s = 28 := by omega
        subst es
        have eL : l1 ++ [] = TL := eL
        rw [List.append_nil] at eL
        rw [eL] at hL1
        exact B_Bo_lengthen_9 (fun _ => B_Bo_lengthen_92 (kk g la1 cap1 hB1 hL1 hc1 hl1 hA1 hf)) (fun z => absurd (by decide) z)
      | succ ee ih2 =>
        intro s g la1 cap1 l1 v5 he h1 h2 eL hB1 hL1 hc1 hl1 hA1 hf
        have ctg := hf.2.1
        have hTg : TrS g tb := hT.ge hf (by omega)
        have hCg : CTr g tb N gs m := hC.eq (fun x k' x1 x2 => hf.i (by omega) (fun z => by unfold Wlen at z; omega))
        have hPg : BSt g (b + 1) n (ofN N (pasP gs m r)) := hP.same (fun i hi => hf.l (by omega) (fun z => by unfold Wlen at z; omega))
        have hEg : BSt g (b + 2) n (ofN N (insP gs m r)) := hE.same (fun i hi => hf.l (by omega) (fun z => by unfold Wlen at z; omega))
        rw [show 28 - s = (28 - (s + 1)) + 1 by omega, List.range'_succ, List.flatMap_cons, List.map_append] at eL
        have hxs : ∀ x ∈ s :: r, 0 < x ∧ x < 28 := fun x hxx => by
          rcases List.mem_cons.mp hxx with z | z
          · omega
          · exact hx x z
        have lrs : (s :: r).length = n + 1 := by rw [List.length_cons, hr]
        have en1 : nI n + (1 : Int32) = nI (n + 1) := by rw [show (1 : Int32) = nI 1 from rfl, nI_add]
        refine B_Bo_lengthen_9 (fun z => ?_) (fun _ => B_Bo_lengthen_16 hB1.1 (bo_putAhead hB1 hTg hCg hd (by omega) (by omega) (by omega) hPg hEg (fun g1 hP1 hE1 f1 => ?_)))
        · rw [show (27 : Int32) = nI 27 from rfl, nI_ltI (by omega) (by omega)] at z
          omega
        have hB2 := hB1.fr f1
        have lct1 := hB1.2.2.2.2.2.2.2.1
        have lab1 := hB1.2.2.2.2.2.2.2.2
        have hL2 : BL g1 b la1 cap1 l1 := ⟨(f1.i _ _ (fun z => by unfold Wb2 at z; omega)).trans hL1.1, fun i v hv => (f1.i _ _ (fun z => by unfold Wb2 at z; omega)).trans (hL1.2.1 i v hv), hL1.2.2⟩
        have hA2 : AcB h g1 cap cap1 := hA1.tr (f1.acb cap1)
        have F1 : Ge b (Wlen b la n) h g1 := hf.tr f1.ge (fun x k' hx' z => by unfold Wb2 at z; unfold Wlen; omega)
        have ct1 : h_ct g1 = h_ct g := f1.2.2.1
        have go86 : ∀ (g2 : PH) (la2 cap2 : Nat) (l2 : List Nat), l2 ++ ((List.range' (s + 1) (28 - (s + 1))).flatMap (fun s => iteLL (iW gs m (s :: r)) (blR gs m k (s :: r)) (iteLL (iE gs m (s :: r)) [s :: r] []))).map cdB = TL → BoS g2 b la2 cap2 → BL g2 b la2 cap2 l2 → capL cap2 → (la2 = la1 ∨ h_ct g1 ≤ la2) → AcB g1 g2 cap1 cap2 → Ge b (Wlen b la1 (n + 1)) g1 g2 → wpx (e + 3) P_Bo_lengthen 86 [.ref b, .ref tb, .int (nI n), .int (nI (pkN r)), .int (nI s), .int (nI (pkN (s :: r)))] [] g2 Q := by
          intro g2 la2 cap2 l2 e2 b2 L2 c2 hl2 A2 f2
          refine B_Bo_lengthen_86 ?_
          rw [nI_1]
          exact ih2 (s + 1) g2 la2 cap2 l2 _ (by omega) (by omega) (by omega) e2 b2 L2 c2 (by omega) (hA2.tr A2) (F1.tr f2 (fun x k' hx' z => by unfold Wlen at z ⊢; omega))
        refine B_Bo_lengthen_24 hB2.1 hB2.2.2.1.1 ?_
        rw [bo_longer (by omega) hr (by omega) hx, en1]
        refine bo_isEmpty hB2.2.2.1.2 hE1 (by omega) (fun hno => B_Bo_lengthen_44 (fun _ => B_Bo_lengthen_60 hB2.1 hB2.2.1.1 ?_) (fun z => absurd z (by decide))) (fun hyes => B_Bo_lengthen_44 (fun z => absurd rfl z) (fun _ => B_Bo_lengthen_47 hB2.1 ?_))
        · have nW : ¬ iW gs m (s :: r) := fun z => by
            obtain ⟨u, u1, u2⟩ := (ins_ex hN hC.2.1).mpr z
            exact hno u u1 u2
          rw [iteLL_f nW] at eL
          rw [en1]
          refine bo_isEmpty hB2.2.1.2 hP1 (by omega) (fun hno2 => B_Bo_lengthen_70 (fun _ => ?_) (fun z => absurd z (by decide))) (fun hyes2 => B_Bo_lengthen_70 (fun z => absurd rfl z) (fun _ => B_Bo_lengthen_73 hB2.1 ?_))
          · have nE : ¬ iE gs m (s :: r) := fun z => by
              obtain ⟨u, u1, u2⟩ := (pas_ex hN hC.2.1).mpr (Or.inl z)
              exact hno2 u u1 u2
            rw [iteLL_f nE] at eL
            exact go86 g1 la1 cap1 l1 eL hB2 hL2 hc1 (Or.inl rfl) (AcB.rf _ _) (Ge.rf _ _ _)
          · have yE : iE gs m (s :: r) := ((pas_ex hN hC.2.1).mp hyes2).elim id (fun z => absurd z nW)
            rw [iteLL_t yE] at eL
            have ll := congrArg List.length eL
            rw [List.length_append] at ll
            rw [en1, bo_entry lrs (by omega) hxs]
            refine bo_keep hB2 hL2 hc1 (by omega) (fun g2 la2 cap2 b2 L2 c2 hl2 A2 f2 => go86 g2 la2 cap2 _ (by rw [List.append_assoc]; exact eL) b2 L2 c2 hl2 A2 (f2.up (fun x k' z => by unfold Wbl at z; unfold Wlen; omega)))
        · have yW := (ins_ex hN hC.2.1).mp hyes
          rw [iteLL_t yW] at eL
          have ll := congrArg List.length eL
          rw [List.length_append, List.length_append, List.length_map] at ll
          rw [en1]
          refine ih (n + 1) (e + 3) (s :: r) g1 _ la1 cap1 l1 (by omega) lrs (by omega) hxs hB2 hL2 hc1 (hTg.fr f1) (hCg.fr f1 (fun x k' z => by unfold Wb2 at z; omega)) (by omega) hP1 hE1 (by omega) (fun g2 la2 cap2 b2 L2 c2 hl2 A2 f2 => B_Bo_lengthen_57 (go86 g2 la2 cap2 _ (by rw [List.append_assoc]; exact eL) b2 L2 c2 hl2 A2 f2))
    refine B_Bo_lengthen_0 (fun _ => B_Bo_lengthen_6 (loop _ 1 h la cap l _ rfl (by omega) (by omega) (by rw [eTL]; rfl) hB hL hc (Or.inl rfl) (AcB.rf _ _) (Ge.rf _ _ _))) (fun z => ?_)
    rw [show (4 : Int32) = nI 4 from rfl, nI_ltI (by omega) (by omega)] at z
    omega
