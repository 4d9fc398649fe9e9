/-! words on the class's side: all states and edges -/
theorem TrS.ge {c b : Nat} {W : Nat → Nat → Prop} {h h' : PH} (hf : Ge c W h h') (hb : b ≠ c) (hr : TrS h b) : TrS h' b := by
  obtain ⟨a0, a1, a2, a3, a4, a5, a6, a7, a8, a9, a10, a11⟩ := hr
  have hs : ∀ x, x < h_ct h → h_sh h' x = h_sh h x := hf.2.2.1
  have rr : ∀ k, h_r h' b k = h_r h b k := fun k => hf.2.2.2.1 b k (by omega) hb
  have ct := hf.2.1
  exact ⟨(hs _ (by omega)).trans a0, ⟨(rr _).trans a1.1, (hs _ (by omega)).trans a1.2⟩, ⟨(rr _).trans a2.1, (hs _ (by omega)).trans a2.2⟩, ⟨(rr _).trans a3.1, (hs _ (by omega)).trans a3.2⟩, ⟨(rr _).trans a4.1, (hs _ (by omega)).trans a4.2⟩, ⟨(rr _).trans a5.1, (hs _ (by omega)).trans a5.2⟩, ⟨(rr _).trans a6.1, (hs _ (by omega)).trans a6.2⟩, ⟨(rr _).trans a7.1, (hs _ (by omega)).trans a7.2⟩, ⟨(rr _).trans a8.1, (hs _ (by omega)).trans a8.2⟩, ⟨(rr _).trans a9.1, (hs _ (by omega)).trans a9.2⟩, a10, by omega⟩
theorem BFr.step {h0 h h' : PH} {c K0 M0 E0 K M E K' M' E' : Nat} {ad0 ad ad' : Nat → Nat} {W : Nat → Nat → Prop} (hb : BFr h0 ad0 K0 M0 E0 c h ad K M E) (hg : Ge c W h h') (hw : ∀ x k, W x k → WcK c ad x k) (ha : Acc h h' K M E K' M' E') (had : ∀ f, ad' f = ad f ∨ h_ct h ≤ ad' f) : BFr h0 ad0 K0 M0 E0 c h' ad' K' M' E' := by
  obtain ⟨b1, b2, b3⟩ := hb
  have ct := b1.2.1
  refine ⟨b1.tr hg (fun x k hx z => ?_), b2.tr ha, fun f => ?_⟩
  · rcases hw x k z with y | ⟨f, f1, f2, y⟩
    · exact Or.inl y
    · rcases b3 f with q | q
      · exact Or.inr ⟨f, f1, f2, by rw [y, q]⟩
      · omega
  · rcases had f with q | q
    · rw [q]
      exact b3 f
    · exact Or.inr (by omega)
theorem mem_snoc {α : Type} {L : List α} {x y : α} (h : x ∈ L ++ [y]) : x ∈ L ∨ x = y := (List.mem_append.mp h).imp id List.mem_singleton.mp
theorem ce_bfs {d : Nat} {h0 : PH} {Q : PQ} {c tb m K0 M0 E0 : Nat} {ad0 : Nat → Nat} {N gs : List (List Nat)} {x2 : Int32} (ho : okg gs m) (hu : unlk gs) (hT : TrS h0 tb) (hc : CTr h0 tb N gs m) (hdj : ∀ x, tb ≤ x → x ≤ tb + 9 → ¬ Wce c ad0 x) (kk : ∀ g ad K M E V ed F x3 v4 v5, BIv N gs m c g ad K M E V ed → BFr h0 ad0 K0 M0 E0 c g ad K M E → BEd N gs m V ed F V.length → (∀ s', s' ≤ V.length → h_i g (ad 6) s' = nI (F s')) → wpx (d + 3) P_Ce_build 153 [.ref c, .ref tb, .int x2, .int x3, v4, v5] [] g Q) : ∀ (n s : Nat) (g : PH) (ad : Nat → Nat) (K M E : Nat) (V : List (List Nat)) (ed : List (Nat × Nat)) (F : Nat → Nat) (v4 v5 : Value), 30604 ≤ n + s → s ≤ V.length → BIv N gs m c g ad K M E V ed → BFr h0 ad0 K0 M0 E0 c g ad K M E → BEd N gs m V ed F s → (0 < s → ∀ s', s' ≤ s → h_i g (ad 6) s' = nI (F s')) → (∀ v, V[s]? = some v → ∀ u ∈ V, u.length ≤ v.length + 1) → wpx (d + 3) P_Ce_build 32 [.ref c, .ref tb, .int x2, .int (nI s), v4, v5] [] g Q := by
  have hN : okN N := hc.1.1
  have inN : ∀ z, isI gs m z ∨ isG gs m z → z ∈ N := fun z hz => (hc.2.1 z).mpr (Or.inr hz)
  have inI : ∀ z, isI gs m z → z ∈ N := fun z hz => inN z (Or.inl hz)
  have tbl := hT.2.2.2.2.2.2.2.2.2.2.2
  have tbc : tb ≠ c := fun e => hdj tb (Nat.le_refl _) (by omega) (Or.inl e)
  have tS : ∀ {g ad K M E}, BFr h0 ad0 K0 M0 E0 c g ad K M E → TrS g tb := fun b => hT.ge b.1 tbc
  have tC : ∀ {g ad K M E}, BFr h0 ad0 K0 M0 E0 c g ad K M E → CTr g tb N gs m := fun b => hc.eq (fun x k a1 a2 => b.1.i (by omega) (fun z => hdj x a1 a2 z.W))
  have V30 : ∀ {g ad K M E V ed}, BIv N gs m c g ad K M E V ed → V.length ≤ 30604 := fun i => keys_le ho hN i.2.1.2.2.1 i.2.1.2.2.2
  intro n
  induction n with
  | zero =>
    intro s g ad K M E V ed F v4 v5 hn hs hI hB hE hF hL
    have v3 := V30 hI
    have es : s = V.length := by omega
    have v0 : 0 < V.length := (List.getElem?_eq_some_iff.mp hI.2.2.2.2.2.2.2.1).1
    refine B_Ce_build_32 hI.1.1 (fun _ => kk g ad K M E V ed F _ _ _ hI hB (by rw [← es]; exact hE) (by rw [← es]; exact hF (by omega))) (fun z => ?_)
    rw [hI.2.1.1, nI_leI (by omega) (by omega)] at z
    omega
  | succ n ih =>
    intro s g ad K M E V ed F v4 v5 hn hs hI hB hE hF hL
    have v3 := V30 hI
    have v0 : 0 < V.length := (List.getElem?_eq_some_iff.mp hI.2.2.2.2.2.2.2.1).1
    by_cases es : s = V.length
    · refine B_Ce_build_32 hI.1.1 (fun _ => kk g ad K M E V ed F _ _ _ hI hB (by rw [← es]; exact hE) (by rw [← es]; exact hF (by omega))) (fun z => ?_)
      rw [hI.2.1.1, nI_leI (by omega) (by omega)] at z
      omega
    have gv : V[s]? = some (V[s]'(by omega)) := List.getElem?_eq_getElem (by omega)
    generalize V[s]'(by omega) = v at gv
    have vm := List.mem_of_getElem? gv
    have v10 := hI.2.2.2.2.2.2.2.2.2 v vm
    have VK := hI.2.2.2.2.1
    have kl := hI.2.2.2.1.1.le
    have lvl := hL v gv
    obtain ⟨cS0, cS1, cS2, cS3, cS4, cS5, cS6, cS7, cS8, cS9, cS10, cS11⟩ := hI.1
    refine B_Ce_build_32 cS0 (fun z => ?_) (fun _ => B_Ce_build_40 (fun z => ?_) (fun _ => B_Ce_build_46 cS0 cS6.1 cS6.2 (vp_in_nI (by omega) (by omega)) ?_))
    · rw [hI.2.1.1, nI_leI (by omega) (by omega)] at z
      omega
    · rw [show (131072 : Int32) = nI 131072 from rfl, nI_leI (by omega) (by omega)] at z
      omega
    rw [nI_clamp (by omega), hI.2.2.2.2.2.2.1.1]
    -- the first edge of this state is written
    have f1 : Fr (fun x k => x = ad 6 ∧ k = s) g (w_i g (ad 6) s (nI ed.length)) := Fr.wi _ _ ⟨rfl, rfl⟩
    have n6 := cS9.2 6 (by omega) (by omega)
    have n06 : ad 0 ≠ ad 6 := cS9.ne (by omega) (by omega) (by omega) (by omega) (by omega)
    have n16 : ad 1 ≠ ad 6 := cS9.ne (by omega) (by omega) (by omega) (by omega) (by omega)
    have n56 : ad 5 ≠ ad 6 := cS9.ne (by omega) (by omega) (by omega) (by omega) (by omega)
    have n76 : ad 7 ≠ ad 6 := cS9.ne (by omega) (by omega) (by omega) (by omega) (by omega)
    have n86 : ad 8 ≠ ad 6 := cS9.ne (by omega) (by omega) (by omega) (by omega) (by omega)
    have I1 : BIv N gs m c (w_i g (ad 6) s (nI ed.length)) ad K M E V ed := by
      obtain ⟨a1, a2, a3, a4, a5, a6, a7, a8, a9, a10⟩ := hI
      refine ⟨CeS.fr f1 a1, ⟨by rw [wi_ne _ _ (fun z => n6.1 z.1.symm)]; exact a2.1, fun t u ht => ?_, a2.2.2⟩, ?_, a4, a5, a6, ⟨by rw [wi_ne _ _ (fun z => n6.1 z.1.symm)]; exact a7.1, fun i q hq => ?_, fun i hi => ?_, a7.2.2.2⟩, a8, a9, a10⟩
      · rw [wi_ne _ _ (fun z => n06 z.1), wi_ne _ _ (fun z => n16 z.1)]
        exact a2.2.1 t u ht
      · obtain ⟨P, hP⟩ := a3
        exact ⟨P, hP.cg (fun p _ => wi_ne _ _ (fun z => n56 z.1))⟩
      · rw [wi_ne _ _ (fun z => n76 z.1), wi_ne _ _ (fun z => n86 z.1)]
        exact a7.2.1 i q hq
      · rw [wi_ne _ _ (fun z => n76 z.1)]
        exact a7.2.2.1 i hi
    have B1 : BFr h0 ad0 K0 M0 E0 c (w_i g (ad 6) s (nI ed.length)) ad K M E := hB.step (f1.ge (c := c)) (fun x k z => Or.inr ⟨6, by omega, by omega, z.1⟩) (f1.acc K M E) (fun f => Or.inl rfl)
    have F1 : ∀ s', s' ≤ s → h_i (w_i g (ad 6) s (nI ed.length)) (ad 6) s' = nI (F s') := fun s' hs' => by
      by_cases y : s' = s
      · rw [y, wi_eq, hE.2.1]
      · rw [wi_ne _ _ (fun z => y z.2)]
        exact hF (by omega) s' hs'
    generalize w_i g (ad 6) s (nI ed.length) = g1 at I1 B1 F1
    -- behind all letters
    have fin : ∀ (g2 : PH) (ad2 : Nat → Nat) (K2 M2 E2 : Nat) (V2 : List (List Nat)) (es : List (Nat × Nat)) (x4 : Int32) (v5 : Value), BIv N gs m c g2 ad2 K2 M2 E2 V2 (ed ++ es) → BFr h0 ad0 K0 M0 E0 c g2 ad2 K2 M2 E2 → (∃ W, V2 = V ++ W) → (∀ u ∈ V2, u.length ≤ v.length + 1) → (∀ s', s' ≤ s → h_i g2 (ad2 6) s' = nI (F s')) → (v.length < 10 → EL N gs m V2 v 27 es) → (v.length = 10 → es = []) → es.length ≤ 27 → wpx (d + 3) P_Ce_build 135 [.ref c, .ref tb, .int x2, .int (nI s), .int x4, v5] [] g2 Q := by
      intro g2 ad2 K2 M2 E2 V2 es x4 v5 I2 B2 hW L2 F2 e1 e2 e27
      obtain ⟨W, hW⟩ := hW
      have V2l : V.length ≤ V2.length := by rw [hW, List.length_append]; omega
      have sV : s + 1 ≤ V2.length := by omega
      have nS : 30604 ≤ n + (s + 1) := by omega
      have k2l := I2.2.2.2.1.1.le
      have VK2 := I2.2.2.2.2.1
      have v32 := V30 I2
      obtain ⟨dS0, dS1, dS2, dS3, dS4, dS5, dS6, dS7, dS8, dS9, dS10, dS11⟩ := I2.1
      refine B_Ce_build_135 dS0 dS6.1 dS6.2 (by rw [nI_1]; exact vp_in_nI (by omega) (by omega)) ?_
      rw [nI_1, nI_clamp (by omega), I2.2.2.2.2.2.2.1.1]
      have f2 : Fr (fun x k => x = ad2 6 ∧ k = s + 1) g2 (w_i g2 (ad2 6) (s + 1) (nI (ed ++ es).length)) := Fr.wi _ _ ⟨rfl, rfl⟩
      have m6 := dS9.2 6 (by omega) (by omega)
      have m06 : ad2 0 ≠ ad2 6 := dS9.ne (by omega) (by omega) (by omega) (by omega) (by omega)
      have m16 : ad2 1 ≠ ad2 6 := dS9.ne (by omega) (by omega) (by omega) (by omega) (by omega)
      have m56 : ad2 5 ≠ ad2 6 := dS9.ne (by omega) (by omega) (by omega) (by omega) (by omega)
      have m76 : ad2 7 ≠ ad2 6 := dS9.ne (by omega) (by omega) (by omega) (by omega) (by omega)
      have m86 : ad2 8 ≠ ad2 6 := dS9.ne (by omega) (by omega) (by omega) (by omega) (by omega)
      have gv2 : V2[s]? = some v := by rw [hW]; exact get_app gv
      obtain ⟨F', hF1, hF2⟩ : ∃ F' : Nat → Nat, F' (s + 1) = (ed ++ es).length ∧ ∀ i, i ≠ s + 1 → F' i = F i := ⟨fun i => if i = s + 1 then (ed ++ es).length else F i, if_pos rfl, fun i hi => if_neg hi⟩
      have B3 := B2.step (f2.ge (c := c)) (fun x k z => Or.inr ⟨6, by omega, by omega, z.1⟩) (f2.acc K2 M2 E2) (fun f => Or.inl rfl)
      have g3n : ∀ x k, ¬ (x = ad2 6 ∧ k = s + 1) → h_i (w_i g2 (ad2 6) (s + 1) (nI (ed ++ es).length)) x k = h_i g2 x k := fun x k hx => wi_ne _ _ hx
      have g36 : h_i (w_i g2 (ad2 6) (s + 1) (nI (ed ++ es).length)) (ad2 6) (s + 1) = nI (ed ++ es).length := wi_eq ..
      generalize w_i g2 (ad2 6) (s + 1) (nI (ed ++ es).length) = g3 at f2 B3 g3n g36 ⊢
      refine ih (s + 1) g3 ad2 K2 M2 E2 V2 (ed ++ es) F' _ _ nS sV ?_ B3 ⟨fun s' u hs' hu' => ?_, hF1, ?_⟩ (fun _ s' hs' => ?_) (fun u hu' u' hu2 => ?_)
      · obtain ⟨a1, a2, a3, a4, a5, a6, a7, a8, a9, a10⟩ := I2
        refine ⟨CeS.fr f2 a1, ⟨by rw [g3n _ _ (fun z => m6.1 z.1.symm)]; exact a2.1, fun t u ht => ?_, a2.2.2⟩, ?_, a4, a5, a6, ⟨by rw [g3n _ _ (fun z => m6.1 z.1.symm)]; exact a7.1, fun i q hq => ?_, fun i hi => ?_, a7.2.2.2⟩, a8, a9, a10⟩
        · rw [g3n _ _ (fun z => m06 z.1), g3n _ _ (fun z => m16 z.1)]
          exact a2.2.1 t u ht
        · obtain ⟨P, hP⟩ := a3
          exact ⟨P, hP.cg (fun p _ => g3n _ _ (fun z => m56 z.1))⟩
        · rw [g3n _ _ (fun z => m76 z.1), g3n _ _ (fun z => m86 z.1)]
          exact a7.2.1 i q hq
        · rw [g3n _ _ (fun z => m76 z.1)]
          exact a7.2.2.1 i hi
      · have el : (ed ++ es).length = ed.length + es.length := List.length_append
        rw [hF2 s' (by omega)]
        by_cases y : s' = s
        · subst y
          rw [hF1, hE.2.1]
          rw [gv2] at hu'
          cases hu'
          refine ⟨by omega, Nat.le_refl _, fun hl => ?_, fun hl => ?_⟩
          · rw [List.drop_left, el, Nat.add_sub_cancel_left, List.take_length]
            exact e1 hl
          · rw [e2 hl, List.append_nil]
        · rw [hF2 (s' + 1) (by omega)]
          have hu3 : V[s']? = some u := by
            rw [hW, List.getElem?_append_left (by omega)] at hu'
            exact hu'
          obtain ⟨q1, q2, q3, q4⟩ := hE.1 s' u (by omega) hu3
          refine ⟨q1, by omega, fun hl => ?_, q4⟩
          rw [slice_app q2, hW]
          exact (q3 hl).up
      · have := hE.2.2
        rw [List.length_append]
        omega
      · by_cases y : s' = s + 1
        · rw [y, hF1]
          exact g36
        · rw [hF2 s' y, g3n _ _ (fun z => y z.2)]
          exact F2 s' (by omega)
      · have a := I2.2.2.2.2.2.2.2.2.1 s (s + 1) v u (by omega) gv2 hu'
        have b := L2 u' hu2
        omega
    -- letter by letter
    have letters : ∀ (n2 z : Nat) (g2 : PH) (ad2 : Nat → Nat) (K2 M2 E2 : Nat) (V2 : List (List Nat)) (es : List (Nat × Nat)) (v5 : Value), 28 - z = n2 → 1 ≤ z → z ≤ 28 → BIv N gs m c g2 ad2 K2 M2 E2 V2 (ed ++ es) → BFr h0 ad0 K0 M0 E0 c g2 ad2 K2 M2 E2 → (∃ W, V2 = V ++ W) → (∀ u ∈ V2, u.length ≤ v.length + 1) → (∀ s', s' ≤ s → h_i g2 (ad2 6) s' = nI (F s')) → EL N gs m V2 v (z - 1) es → (v.length = 10 → es = []) → wpx (d + 3) P_Ce_build 59 [.ref c, .ref tb, .int x2, .int (nI s), .int (nI z), v5] [] g2 Q := by
      intro n2
      induction n2 with
      | zero =>
        intro z g2 ad2 K2 M2 E2 V2 es v5 hz z1 z2 I2 B2 hW L2 F2 e1 e2
        have ez : z = 28 := by omega
        subst ez
        exact B_Ce_build_59 (fun _ => fin g2 ad2 K2 M2 E2 V2 es _ _ I2 B2 hW L2 F2 (fun _ => e1) e2 (EL.len e1)) (fun q => absurd (by decide) q)
      | succ n2 ih2 =>
        intro z g2 ad2 K2 M2 E2 V2 es v5 hz z1 z2 I2 B2 hW L2 F2 e1 e2
        have e27 := EL.len e1
        obtain ⟨dS0, dS1, dS2, dS3, dS4, dS5, dS6, dS7, dS8, dS9, dS10, dS11⟩ := I2.1
        have k2l := I2.2.2.2.1.1.le
        have VK2 := I2.2.2.2.2.1
        have v32 := V30 I2
        obtain ⟨W, hW⟩ := hW
        have V2l : V.length ≤ V2.length := by rw [hW, List.length_append]; omega
        have gv2 : V2[s]? = some v := by rw [hW]; exact get_app gv
        obtain ⟨ky, lv⟩ := I2.2.1.2.1 s v gv2
        refine B_Ce_build_59 (fun q => ?_) (fun _ => B_Ce_build_66 dS0 dS2.1 dS2.2 (vp_in_nI (by omega) (by omega)) (fun q => ?_) (fun q => B_Ce_build_77 (tS B2).1 ?_))
        · rw [show (27 : Int32) = nI 27 from rfl, nI_ltI (by omega) (by omega)] at q
          omega
        · rw [nI_clamp (by omega), lv, show (10 : Int32) = nI 10 from rfl, nI_leI (by omega) (by omega)] at q
          exact fin g2 ad2 K2 M2 E2 V2 es _ _ I2 B2 ⟨W, hW⟩ L2 F2 (fun y => by omega) e2 (by omega)
        · rw [nI_clamp (by omega), lv, show (10 : Int32) = nI 10 from rfl, nI_leI (by omega) (by omega)] at q
          have vl : v.length < 10 := by omega
          have next : ∀ (g3 : PH) (ad3 : Nat → Nat) (K3 M3 E3 : Nat) (V3 : List (List Nat)) (es3 : List (Nat × Nat)) (x5 : Int32), BIv N gs m c g3 ad3 K3 M3 E3 V3 (ed ++ es3) → BFr h0 ad0 K0 M0 E0 c g3 ad3 K3 M3 E3 → (∃ W, V3 = V ++ W) → (∀ u ∈ V3, u.length ≤ v.length + 1) → (∀ s', s' ≤ s → h_i g3 (ad3 6) s' = nI (F s')) → EL N gs m V3 v z es3 → wpx (d + 3) P_Ce_build 129 [.ref c, .ref tb, .int x2, .int (nI s), .int (nI z), .int x5] [] g3 Q := fun g3 ad3 K3 M3 E3 V3 es3 x5 a1 a2 a3 a4 a5 a6 => by
            refine B_Ce_build_129 ?_
            rw [nI_1]
            exact ih2 (z + 1) g3 ad3 K3 M3 E3 V3 es3 _ (by omega) (by omega) (by omega) a1 a2 a3 a4 a5 (by rw [Nat.add_sub_cancel]; exact a6) (fun y => by omega)
          have ez : z - 1 + 1 = z := by omega
          have dead : kyW N gs m (v ++ [z]) = 0 → wpx (d + 3) P_Ce_build 102 [.ref c, .ref tb, .int x2, .int (nI s), .int (nI z), v5] [.int 0] g2 Q := fun k0 => by
            refine B_Ce_build_102 (fun _ => next g2 ad2 K2 M2 E2 V2 es _ I2 B2 ⟨W, hW⟩ L2 F2 ?_) (fun y => absurd rfl y)
            rw [← ez]
            exact ⟨es, e1, Or.inl ⟨by rw [ez]; exact k0, rfl⟩⟩
          refine tr_used (tS B2) (tC B2) (by omega) (by omega) (B_Ce_build_83 (fun y => absurd y (by decide)) (fun _ => B_Ce_build_86 dS0 dS1.1 dS1.2 (vp_in_nI (by omega) (by omega)) ?_)) (fun hno => B_Ce_build_83 (fun _ => B_Ce_build_101 (dead (ky_unused ho hu hN inN hno))) (fun y => absurd rfl y))
          rw [nI_clamp (by omega), ky]
          refine ce_keyBehind ho hu (tS B2) (tC B2) (by omega) (by omega) (B_Ce_build_98 ?_)
          have kl2 := kyW_lt (v := v ++ [z]) ho hN inI
          by_cases k0 : kyW N gs m (v ++ [z]) = 0
          · rw [k0]
            exact dead k0
          · refine B_Ce_build_102 (fun y => ?_) (fun _ => B_Ce_build_109 dS0 dS2.1 dS2.2 (vp_in_nI (by omega) (by omega)) ?_)
            · exact absurd ((nI_eq (b := 0) (by omega) (by omega)).mp y) k0
            rw [nI_clamp (by omega), lv, nI_1]
            have lw : (v ++ [z]).length = v.length + 1 := List.length_append
            rw [← lw]
            have caps := I2.2.2.2.1
            have edl : (ed ++ es).length ≤ 27 * (s + 1) := by
              have := hE.2.2
              rw [List.length_append]
              omega
            refine ce_stateOf (d := d) ho hN inI I2.1 I2.2.1 I2.2.2.1 caps.1 caps.2.1 VK2 I2.2.2.2.2.2.1 k0 (fun t u ht hk => ?_) (fun hno h' ad' K' M' a1 a2 a3 a4 a5 a6 a7 a8 a9 a10 a11 a12 a13 a14 => ?_)
            · refine B_Ce_build_126 dS0 (ce_addEdge (d := d + 1) I2.1 I2.2.2.2.2.2.2.1 (by omega) caps.2.2.le.2 caps.2.2.le.1 (fun h3 ad3 E3 b1 b2 b3 b4 b5 b6 b7 => ?_))
              have cE3 : capE E3 := by
                rcases b5 with ⟨b, _⟩ | ⟨b, b'⟩
                · rw [b]
                  exact caps.2.2
                · rw [b]
                  exact caps.2.2.dbl (by omega)
              have ne9 : ∀ x, x ≠ c → x ≠ ad2 7 → x ≠ ad2 8 → ∀ k, x < h_ct g2 → h_i h3 x k = h_i g2 x k := fun x n1 n2 n3 k hx => b6.i hx (fun w => by rcases w with w | w | w; exact n1 w.1; exact n2 w; exact n3 w)
              have nn : ∀ f, f < 9 → f ≠ 4 → f ≠ 7 → f ≠ 8 → ∀ k, h_i h3 (ad2 f) k = h_i g2 (ad2 f) k := fun f f1 f2 f3 f4 k => ne9 _ (dS9.2 f f1 f2).1 (dS9.ne f1 (by omega) f2 (by omega) f3) (dS9.ne f1 (by omega) f2 (by omega) f4) k (dS9.2 f f1 f2).2.2
              refine next h3 ad3 K2 M2 E3 V2 (es ++ [(z, t)]) _ ⟨b1, ⟨?_, fun t' u' ht' => ?_, I2.2.1.2.2⟩, ?_, ⟨caps.1, caps.2.1, cE3⟩, VK2, I2.2.2.2.2.2.1, by rw [← List.append_assoc]; exact b2, I2.2.2.2.2.2.2.2⟩ (B2.step b6 (fun x k w => ?_) b7 b4) ⟨W, hW⟩ L2 (fun s' hs' => ?_) ?_
              · rw [b6.i dS11 (fun w => by rcases w with w | w | w; omega; exact (dS9.2 7 (by omega) (by omega)).1 w.symm; exact (dS9.2 8 (by omega) (by omega)).1 w.symm)]
                exact I2.2.1.1
              · rw [b3 0 (by omega) (by omega), b3 1 (by omega) (by omega), nn 0 (by omega) (by omega) (by omega) (by omega), nn 1 (by omega) (by omega) (by omega) (by omega)]
                exact I2.2.1.2.1 t' u' ht'
              · obtain ⟨P, hP⟩ := I2.2.2.1
                refine ⟨P, hP.cg (fun p _ => ?_)⟩
                rw [b3 5 (by omega) (by omega), nn 5 (by omega) (by omega) (by omega) (by omega)]
              · rcases w with w | w | w
                · exact Or.inl ⟨w.1, Or.inr w.2⟩
                · exact Or.inr ⟨7, by omega, by omega, w⟩
                · exact Or.inr ⟨8, by omega, by omega, w⟩
              · rw [b3 6 (by omega) (by omega), nn 6 (by omega) (by omega) (by omega) (by omega)]
                exact F2 s' hs'
              · rw [← ez]
                exact ⟨es, e1, Or.inr ⟨by rw [ez]; exact k0, t, u, ht, by rw [ez]; exact hk, L2 u (List.mem_of_getElem? ht), by rw [ez]⟩⟩
            · obtain ⟨p0, p1, p2, p3, p4, p5, p6, p7, p8, p9, p10, p11⟩ := a1
              have a1 : CeS h' c ad' K' M' E2 := ⟨p0, p1, p2, p3, p4, p5, p6, p7, p8, p9, p10, p11⟩
              have n7 := dS9.2 7 (by omega) (by omega)
              have n8 := dS9.2 8 (by omega) (by omega)
              have ne : ∀ x, x ≠ c → x ≠ ad2 0 → x ≠ ad2 1 → x ≠ ad2 5 → ∀ k, x < h_ct g2 → h_i h' x k = h_i g2 x k := fun x n1 n2 n3 n4 k hx => a13.i hx (fun w => by rcases w with w | w | w | w; exact n1 w.1; exact n2 w; exact n3 w; exact n4 w)
              have e7 : ∀ k, h_i h' (ad' 7) k = h_i g2 (ad2 7) k := fun k => by
                rw [a10]
                exact ne _ n7.1 (dS9.ne (by omega) (by omega) (by omega) (by omega) (by omega)) (dS9.ne (by omega) (by omega) (by omega) (by omega) (by omega)) (dS9.ne (by omega) (by omega) (by omega) (by omega) (by omega)) k n7.2.2
              have e8 : ∀ k, h_i h' (ad' 8) k = h_i g2 (ad2 8) k := fun k => by
                rw [a11]
                exact ne _ n8.1 (dS9.ne (by omega) (by omega) (by omega) (by omega) (by omega)) (dS9.ne (by omega) (by omega) (by omega) (by omega) (by omega)) (dS9.ne (by omega) (by omega) (by omega) (by omega) (by omega)) k n8.2.2
              have eE := I2.2.2.2.2.2.2.1
              have ed' : CeEd h' c ad' E2 (ed ++ es) := ⟨by rw [a13.i dS11 (fun w => by rcases w with w | w | w | w; omega; exact (dS9.2 0 (by omega) (by omega)).1 w.symm; exact (dS9.2 1 (by omega) (by omega)).1 w.symm; exact (dS9.2 5 (by omega) (by omega)).1 w.symm)]; exact eE.1, fun i q hq => by rw [e7, e8]; exact eE.2.1 i q hq, fun i hi => by rw [e7]; exact eE.2.2.1 i hi, eE.2.2.2⟩
              have B3 := B2.step a13 (fun x k w => by
                rcases w with w | w | w | w
                · exact Or.inl ⟨w.1, Or.inl w.2⟩
                · exact Or.inr ⟨0, by omega, by omega, w⟩
                · exact Or.inr ⟨1, by omega, by omega, w⟩
                · exact Or.inr ⟨5, by omega, by omega, w⟩) a14 a12
              refine B_Ce_build_126 p0 (ce_addEdge (d := d + 1) (t := V2.length) a1 ed' (by omega) caps.2.2.le.2 caps.2.2.le.1 (fun h3 ad3 E3 b1 b2 b3 b4 b5 b6 b7 => ?_))
              have cE3 : capE E3 := by
                rcases b5 with ⟨b, _⟩ | ⟨b, b'⟩
                · rw [b]
                  exact caps.2.2
                · rw [b]
                  exact caps.2.2.dbl (by omega)
              have ne9 : ∀ x, x ≠ c → x ≠ ad' 7 → x ≠ ad' 8 → ∀ k, x < h_ct h' → h_i h3 x k = h_i h' x k := fun x n1 n2 n3 k hx => b6.i hx (fun w => by rcases w with w | w | w; exact n1 w.1; exact n2 w; exact n3 w)
              have nn : ∀ f, f < 9 → f ≠ 4 → f ≠ 7 → f ≠ 8 → ∀ k, h_i h3 (ad' f) k = h_i h' (ad' f) k := fun f f1 f2 f3 f4 k => ne9 _ (p9.2 f f1 f2).1 (p9.ne f1 (by omega) f2 (by omega) f3) (p9.ne f1 (by omega) f2 (by omega) f4) k (p9.2 f f1 f2).2.2
              have lenV2 : (V2 ++ [v ++ [z]]).length = V2.length + 1 := List.length_append
              refine next h3 ad3 K' M' E3 (V2 ++ [v ++ [z]]) (es ++ [(z, V2.length)]) _ ⟨b1, ⟨?_, fun t' u' ht' => ?_, a2.2.2⟩, ?_, ⟨a4, a5, cE3⟩, by rw [lenV2]; exact a6, by rw [lenV2]; exact a7, by rw [← List.append_assoc]; exact b2, get_app I2.2.2.2.2.2.2.2.1, fun t1 t2 u1 u2 t12 h1 h2 => ?_, fun u hu' => ?_⟩ (B3.step b6 (fun x k w => ?_) b7 b4) ⟨W ++ [v ++ [z]], by rw [hW, List.append_assoc]⟩ (fun u hu' => ?_) (fun s' hs' => ?_) ?_
              · rw [b6.i p11 (fun w => by rcases w with w | w | w; omega; exact (p9.2 7 (by omega) (by omega)).1 w.symm; exact (p9.2 8 (by omega) (by omega)).1 w.symm)]
                exact a2.1
              · rw [b3 0 (by omega) (by omega), b3 1 (by omega) (by omega), nn 0 (by omega) (by omega) (by omega) (by omega), nn 1 (by omega) (by omega) (by omega) (by omega)]
                exact a2.2.1 t' u' ht'
              · obtain ⟨P, hP⟩ := a3
                refine ⟨P, hP.cg (fun p _ => ?_)⟩
                rw [b3 5 (by omega) (by omega), nn 5 (by omega) (by omega) (by omega) (by omega)]
              · rcases get_snoc h2 with ⟨c1, c2⟩ | ⟨c1, c2⟩
                · rcases get_snoc h1 with ⟨c3, c4⟩ | ⟨c3, c4⟩
                  · exact I2.2.2.2.2.2.2.2.2.1 t1 t2 u1 u2 t12 c4 c2
                  · omega
                · rw [c2, lw]
                  rcases mem_snoc (List.mem_of_getElem? h1) with q | q
                  · exact L2 u1 q
                  · rw [q, lw]
                    exact Nat.le_refl _
              · rcases mem_snoc hu' with q | q
                · exact I2.2.2.2.2.2.2.2.2.2 u q
                · rw [q, lw]
                  omega
              · rcases w with w | w | w
                · exact Or.inl ⟨w.1, Or.inr w.2⟩
                · exact Or.inr ⟨7, by omega, by omega, w⟩
                · exact Or.inr ⟨8, by omega, by omega, w⟩
              · rcases mem_snoc hu' with q | q
                · exact L2 u q
                · rw [q, lw]
                  exact Nat.le_refl _
              · rw [b3 6 (by omega) (by omega), nn 6 (by omega) (by omega) (by omega) (by omega), a9 s' (by omega)]
                exact F2 s' hs'
              · rw [← ez]
                refine ⟨es, EL.up e1, Or.inr ⟨by rw [ez]; exact k0, V2.length, v ++ [z], ?_, by rw [ez], by rw [lw]; exact Nat.le_refl _, by rw [ez]⟩⟩
                rw [List.getElem?_append_right (Nat.le_refl _), Nat.sub_self, ez]
                rfl
    have en : ed ++ [] = ed := List.append_nil ed
    exact letters 27 1 g1 ad K M E V [] _ rfl (Nat.le_refl _) (by omega) (by rw [en]; exact I1) B1 ⟨[], (List.append_nil _).symm⟩ lvl F1 rfl (fun _ => rfl)
