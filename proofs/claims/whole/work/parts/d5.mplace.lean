/-! words on the reference's side: the number of a word -/
def Wmpl (x k : Nat) : Prop := Wmwo x k ∨ x = 36
def Wp5 (x k : Nat) : Prop := Wbh x k ∨ x = 53
theorem cnF_pos {gs : List (List Nat)} {m : Nat} : ∀ (z v : List Nat), (∀ x ∈ z, 0 < x ∧ x < 28) → rdc gs m (v ++ z) ≠ 0 → cnF oneN gs m z.length v ≠ 0
  | [], v, _, h => by
    show oneN (rdc gs m v) ≠ 0
    rw [List.append_nil] at h
    unfold oneN
    rw [if_neg h]
    decide
  | x :: z, v, hx, h => by
    show sm (fun i => cnF oneN gs m z.length (v ++ [i + 1])) 27 ≠ 0
    have x1 := hx x (List.mem_cons_self ..)
    have ih := cnF_pos z (v ++ [x]) (fun y hy => hx y (List.mem_cons_of_mem _ hy)) (by rw [List.append_assoc]; exact h)
    have l := sm_le (f := fun i => cnF oneN gs m z.length (v ++ [i + 1])) (k := x - 1) 27 (by omega)
    have l : cnF oneN gs m z.length (v ++ [x - 1 + 1]) ≤ _ := l
    rw [Nat.sub_add_cancel x1.1] at l
    omega
theorem pl_copy {d : Nat} {h0 : PH} {Q : PQ} {D : Nat → Nat} {v1 v2 v3 v4 : Value} (hM : MdS h0) (hD : DgA h0 51 D) (k : ∀ g x1, DgA g 53 D → Fr (fun x _ => x = 53) h0 g → wpx d P_Md_place 70 [.ref 17, .int x1, v2, v3, v4] [] g Q) : wpx d P_Md_place 45 [.ref 17, v1, v2, v3, v4] [] h0 Q := by
  have loop : ∀ (e q : Nat) (g : PH), 4 - q = e → q ≤ 4 → (∀ k, k < q → h_l g 53 k = lN (pq D (32 * k) 32)) → Fr (fun x _ => x = 53) h0 g → wpx d P_Md_place 47 [.ref 17, .int (nI q), v2, v3, v4] [] g Q := by
    intro e
    induction e with
    | zero =>
      intro q g he hq hz hf
      have e4 : q = 4 := by omega
      subst e4
      exact B_Md_place_47 (fun _ => k g _ ⟨hz, hD.2⟩ hf) (fun w => absurd (by decide) w)
    | succ e ih =>
      intro q g he hq hz hf
      have hMg := hf.md hM
      refine B_Md_place_47 (fun w => ?_) (fun _ => B_Md_place_52 hMg.1 (mr_here hMg) (mr_from hMg) (ms_from hMg) (vp_in_nI (by omega) (by omega)) (ms_here hMg) (vp_in_nI (by omega) (by omega)) ?_)
      · rw [show (4 : Int32) = nI 4 from rfl, nI_leI (by omega) (by omega)] at w
        omega
      · rw [nI_clamp (show q < 2 ^ 31 by omega), nI_1]
        refine ih (q + 1) _ (by omega) (by omega) (fun k hk => ?_) (hf.tr (Fr.wl _ _ rfl))
        rw [h_l_wl]
        by_cases y : k = q
        · rw [if_pos ⟨rfl, y⟩, hf.l _ _ (by omega), y]
          exact hD.1 q (by omega)
        · rw [if_neg (fun w => y w.2)]
          exact hz k (by omega)
  exact B_Md_place_45 (loop _ 0 h0 rfl (Nat.zero_le _) (fun k hk => absurd hk (by omega)) (Fr.rf _ _))
theorem md_place {d : Nat} {h : PH} {Q : PQ} {gs : List (List Nat)} {m : Nat} {w : List Nat} (hM : MdS h) (hg : MGr h gs m) (hu : unlk gs) (hw : MWd h w) (hF : h_i h 17 26 ≠ 0 → ∃ N, CNd h N gs m) (hO : LyO h) (k1 : (10 < w.length ∨ rdc gs m w = 0) → ∀ h', Fr (fun x k => x = 36 ∨ (x = 17 ∧ k = 0)) h h' → Q (some (.long (-1))) h') (k2 : w.length ≤ 10 → rdc gs m w ≠ 0 → ∀ h' N, CNd h' N gs m → LyO h' → Fr Wmpl h h' → Q (some (.long (lN (rkW gs m [] w)))) h') : wpm (d + 7) 261 [.ref 17] h Q := by
  refine wpm_in P_Md_place rfl (by decide) (by show ¬ 5 < 1; decide) ?_
  refine B_Md_place_0 hM.1 (mr_word hM) ?_
  have hf0 : Fr (fun x k => x = 17 ∧ k = 0) h (w_i h 17 0 0) := Fr.wi _ _ ⟨rfl, rfl⟩
  generalize w_i h 17 0 0 = g at hf0 ⊢
  have hMg := hf0.md hM
  have hgg := hg.fr hf0 (fun x k z => by omega)
  have hwg := hw.fr hf0 (fun x k z => by omega)
  have ho := hgg.1
  rw [hwg.2.1]
  refine md_layWays hMg (hwg.rw hMg) (by decide) hgg (fun g0 hY f0 => ?_)
  have hM0 := f0.md hMg
  have hw0 := hwg.fr f0 (fun x k z => by omega)
  have hg0 := hgg.fr f0 (fun x k z => by omega)
  have F0 : Fr (fun x k => x = 36 ∨ (x = 17 ∧ k = 0)) h g0 := (hf0.up (fun x k z => Or.inr z)).tr (f0.up (fun x k z => Or.inl z))
  have wl := hw.1.1
  refine B_Md_place_17 hM0.1 (fun q => ?_) (fun q => ?_) <;> rw [hw0.2.1, show (10 : Int32) = nI 10 from rfl, nI_ltI (by omega) (by omega)] at q
  · exact B_Md_place_37 (k1 (Or.inl q) g0 F0)
  have wl10 : w.length ≤ 10 := by omega
  have y0 : h_l g0 36 0 = lN (rdc gs m w) := hY 0 (Nat.zero_le _)
  have rb : rdc gs m w < 2 ^ 64 := by
    have := rdc_pow (gs := gs) (m := m) ho hu w.length w (Nat.le_refl _)
    have p2 : 2 ^ w.length ≤ 2 ^ 10 := Nat.pow_le_pow_right (by decide) wl10
    omega
  refine B_Md_place_26 hM0.1 (mr_ways hM0) (ms_ways hM0) (vp_in_nI (n := 0) (by omega) (by omega)) (fun q2 => ?_) (fun q2 => B_Md_place_37 (k1 (Or.inr ?_) g0 F0)) <;> rw [y0, lg_cmp0, show (0 : Int64) = lN 0 from rfl, lN_inj64 rb (by decide)] at q2
  · have hF0 : h_i g0 17 26 ≠ 0 → ∃ N, CNd g0 N gs m := fun q => by
      rw [F0.i _ _ (by omega)] at q
      obtain ⟨N, hN⟩ := hF q
      exact ⟨N, hN.fr F0 (fun x k z => by omega)⟩
    have hO0 := LyO.fr F0 (fun x k z => by omega) hO
    refine B_Md_place_41 hM0.1 (md_startsAnew hM0 hg0 hF0 (fun g1 N hC _ hD f1 => ?_))
    have hM1 := f1.md hM0
    have hO1 := LyO.fr f1 (fun x k z => by unfold Wnd at z; omega) hO0
    refine pl_copy hM1 hD (fun g2 x1 hD2 f2' => ?_)
    have hM2 := f2'.md hM1
    have hO2 := LyO.fr f2' (fun x k z => by omega) hO1
    have hC2 : CNd g2 N gs m := hC.fr f2' (fun x k z => by omega)
    have F2 : Fr Wmpl h g2 := (F0.up (fun x k z => by unfold Wmpl Wmwo; omega)).tr ((f1.up (fun x k z => by unfold Wmpl Wmwo Wcfm; exact z.elim (fun w => Or.inl (Or.inl w)) (fun w => by omega))).tr (f2'.up (fun x k z => by unfold Wmpl Wmwo; omega)))
    have hw2 : MWd g2 w := (hw0.fr f1 (fun x k z => by unfold Wnd at z; omega)).fr f2' (fun x k z => by omega)
    have main : ∀ (r i A : Nat) (g : PH) (v4 : Value), i + r = w.length → A + rkW gs m (w.take i) (w.drop i) = rkW gs m [] w → DgA g 53 (stD N gs m (w.take i)) → LyO g → Fr Wp5 g2 g → wpx (d + 6) P_Md_place 74 [.ref 17, .long (lN A), .retAddr 2, .int (nI i), v4] [] g Q := by
      intro r
      induction r with
      | zero =>
        intro i A g v4 hr hA hD hO hf
        have hMg := hf.md hM2
        have hwg : MWd g w := hw2.fr hf (fun x k z => by unfold Wp5 Wbh Wcfm at z; omega)
        have ei : i = w.length := by omega
        subst ei
        rw [List.drop_eq_nil_of_le (Nat.le_refl _)] at hA
        have hA : A + 0 = rkW gs m [] w := hA
        refine B_Md_place_74 hMg.1 (fun _ => B_Md_place_154 ?_) (fun z => ?_)
        · rw [show A = rkW gs m [] w by omega]
          exact k2 wl10 q2 g N (hC2.fr hf (fun x k z => by unfold Wp5 Wbh Wcfm at z; omega)) hO (F2.tr (hf.up (fun x k z => by unfold Wp5 Wbh Wcfm at z; unfold Wmpl Wmwo Wcfm; omega)))
        · rw [hwg.2.1, nI_leI (by omega) (by omega)] at z
          omega
      | succ r ih =>
        intro i A g v4 hr hA hD hO hf
        have hMg := hf.md hM2
        have gx : w[i]? = some (w[i]'(by omega)) := List.getElem?_eq_getElem (by omega)
        generalize w[i]'(by omega) = x at gx
        have hx := hw.1.2 x (List.mem_of_getElem? gx)
        have edr : w.drop i = x :: w.drop (i + 1) := by
          rw [List.drop_eq_getElem_cons (by omega)]
          have := (List.getElem?_eq_some_iff.mp gx).2
          rw [this]
        have etk : w.take (i + 1) = w.take i ++ [x] := by
          rw [List.take_add_one, gx]
          rfl
        have ldr : (w.drop (i + 1)).length = r := by
          rw [List.length_drop]
          omega
        have ltk : (w.take i).length = i := by
          rw [List.length_take]
          omega
        rw [edr, rkW_cut, ldr, ← etk] at hA
        have nz : cnF oneN gs m r (w.take i ++ [x - 1 + 1]) ≠ 0 := by
          have := cnF_pos (gs := gs) (m := m) (w.drop (i + 1)) (w.take (i + 1)) (fun y hy => hw.1.2 y (List.mem_of_mem_drop hy)) (by rw [List.take_append_drop]; exact q2)
          rw [ldr, etk] at this
          rw [Nat.sub_add_cancel hx.1]
          exact this
        generalize w.take i = v at hA hD etk ltk nz
        obtain ⟨f, ef⟩ : ∃ f : Nat → Nat, f = fun i => cnF oneN gs m r (v ++ [i + 1]) := ⟨_, rfl⟩
        have fe : ∀ c, cnF oneN gs m r (v ++ [c + 1]) = f c := fun c => by rw [ef]
        rw [← ef] at hA
        have e97 : nI (x + 96) - (97 : Int32) = nI (x - 1) := by
          rw [show (97 : Int32) = nI 97 from rfl, nI_subN (by omega)]
          rfl
        have esub : nI w.length - (1 : Int32) - nI i = nI r := by
          rw [show (1 : Int32) = nI 1 from rfl, nI_subN (by omega), nI_subN (by omega)]
          congr 1
          omega
        have wx : ∀ {g1 : PH}, MWd g1 w → h_i g1 26 (nI i).toNatClampNeg = nI (x + 96) := fun hw1 => by
          rw [nI_clamp (by omega)]
          exact hw1.2.2 i x gx
        have inner : ∀ (e c : Nat) (g1 : PH), x - 1 - c = e → c ≤ x - 1 → DgA g1 53 (stD N gs m v) → LyO g1 → Fr Wp5 g2 g1 → wpx (d + 6) P_Md_place 85 [.ref 17, .long (lN (A + sm f c)), .retAddr 2, .int (nI i), .int (nI c)] [] g1 Q := by
          intro e
          induction e with
          | zero =>
            intro c g1 he hc hD1 hO1 hf1
            have hM1 := hf1.md hM2
            have hw1 : MWd g1 w := hw2.fr hf1 (fun x k z => by unfold Wp5 Wbh Wcfm at z; omega)
            have hC1 : CNd g1 N gs m := hC2.fr hf1 (fun x k z => by unfold Wp5 Wbh Wcfm at z; omega)
            have ec : c = x - 1 := by omega
            subst ec
            refine B_Md_place_85 hM1.1 (mr_word hM1) (ms_word hM1) (vp_in_nI (by omega) (by omega)) (fun _ => B_Md_place_122 hM1.1 (mr_word hM1) (ms_word hM1) (vp_in_nI (by omega) (by omega)) ?_) (fun z => ?_)
            · rw [wx hw1, e97, hw1.2.1, esub]
              refine md_behindBy hM1 ho hu hC1 hD1 (by omega) (by omega) hO1 (fun g3 h54 hO3 f3 => ?_)
              have F3 := hf1.tr (f3.up (fun x k z => Or.inl z))
              have hM3 := F3.md hM2
              refine B_Md_place_143 hM3.1 (md_goesThere hM3 (h54 nz) (fun g4 hD4 f4 => B_Md_place_148 ?_))
              rw [nI_1]
              have F4 : Fr Wp5 g2 g4 := F3.tr (f4.up (fun x k z => Or.inr z))
              refine ih (i + 1) _ g4 _ (by omega) (by rw [Nat.add_assoc]; exact hA) ?_ (LyO.fr f4 (fun x k z => by omega) hO3) F4
              rw [etk]
              rw [Nat.sub_add_cancel hx.1] at hD4
              exact hD4
            · rw [wx hw1, e97, nI_leI (by omega) (by omega)] at z
              omega
          | succ e ih2 =>
            intro c g1 he hc hD1 hO1 hf1
            have hM1 := hf1.md hM2
            have hw1 : MWd g1 w := hw2.fr hf1 (fun x k z => by unfold Wp5 Wbh Wcfm at z; omega)
            have hC1 : CNd g1 N gs m := hC2.fr hf1 (fun x k z => by unfold Wp5 Wbh Wcfm at z; omega)
            refine B_Md_place_85 hM1.1 (mr_word hM1) (ms_word hM1) (vp_in_nI (by omega) (by omega)) (fun z => ?_) (fun _ => B_Md_place_99 hM1.1 ?_)
            · rw [wx hw1, e97, nI_leI (by omega) (by omega)] at z
              omega
            · rw [hw1.2.1, esub]
              refine md_behindBy hM1 ho hu hC1 hD1 (by omega) (by omega) hO1 (fun g3 _ hO3 f3 => B_Md_place_114 ?_)
              rw [fe, lN_addN, nI_1]
              rw [show A + sm f c + f c = A + sm f (c + 1) from Nat.add_assoc ..]
              exact ih2 (c + 1) g3 (by omega) (by omega) (hD1.cg (fun q hq => f3.l _ _ (fun z => by unfold Wbh Wcfm at z; omega))) hO3 (hf1.tr (f3.up (fun x k z => Or.inl z)))
        refine B_Md_place_74 hMg.1 (fun z => ?_) (fun _ => B_Md_place_82 (inner _ 0 g rfl (Nat.zero_le _) hD hO hf))
        have hwg : MWd g w := hw2.fr hf (fun x k z => by unfold Wp5 Wbh Wcfm at z; omega)
        rw [hwg.2.1, nI_leI (by omega) (by omega)] at z
        omega
    exact B_Md_place_70 (main w.length 0 0 g2 _ (by omega) (by rw [Nat.zero_add]; rfl) hD2 hO2 (Fr.rf _ _))
  · exact q2
