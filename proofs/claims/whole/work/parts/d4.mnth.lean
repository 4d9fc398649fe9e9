/-! words on the reference's side: the word with a number -/
def Wmnt (x k : Nat) : Prop := Wmwo x k ∨ x = 26 ∨ (x = 17 ∧ k = 24)
theorem nth_copy {d : Nat} {h0 : PH} {Q : PQ} {D : Nat → Nat} {x1 : Int32} {l2 : Int64} {v4 v5 v6 v7 v8 v9 : Value} (hM : MdS h0) (hD : DgA h0 51 D) (k : ∀ g x4, DgA g 53 D → Fr (fun x _ => x = 53) h0 g → wpx d P_Md_nth 56 [.ref 17, .int x1, .long l2, .retAddr 2, .int x4, v5, v6, v7, v8, v9] [] g Q) : wpx d P_Md_nth 27 [.ref 17, .int x1, .long l2, .retAddr 2, v4, v5, v6, v7, v8, v9] [] h0 Q := by
  have loop : ∀ (e q : Nat) (g : PH), 4 - q = e → q ≤ 4 → (∀ k, k < q → h_l g 53 k = lN (pq D (32 * k) 32)) → Fr (fun x _ => x = 53) h0 g → wpx d P_Md_nth 30 [.ref 17, .int x1, .long l2, .retAddr 2, .int (nI q), v5, v6, v7, v8, v9] [] g Q := by
    intro e
    induction e with
    | zero =>
      intro q g he hq hz hf
      have e4 : q = 4 := by omega
      subst e4
      exact B_Md_nth_30 (fun _ => k g _ ⟨hz, hD.2⟩ hf) (fun w => absurd (by decide) w)
    | succ e ih =>
      intro q g he hq hz hf
      have hMg := hf.md hM
      refine B_Md_nth_30 (fun w => ?_) (fun _ => B_Md_nth_36 hMg.1 (mr_here hMg) (mr_from hMg) (ms_from hMg) (vp_in_nI (by omega) (by omega)) (ms_here hMg) (vp_in_nI (by omega) (by omega)) ?_)
      · rw [show (4 : Int32) = nI 4 from rfl, nI_leI (by omega) (by omega)] at w
        omega
      · rw [nI_clamp (show q < 2 ^ 31 by omega), nI_1]
        refine ih (q + 1) _ (by omega) (by omega) (fun k hk => ?_) (hf.tr (Fr.wl _ _ rfl))
        rw [h_l_wl]
        by_cases y : k = q
        · rw [if_pos ⟨rfl, y⟩, hf.l _ _ (by omega), y]
          exact hD.1 q (by omega)
        · rw [if_neg (fun w => y w.2)]
          exact hz k (by omega)
  exact B_Md_nth_27 (loop _ 0 h0 rfl (Nat.zero_le _) (fun k hk => absurd hk (by omega)) (Fr.rf _ _))
theorem md_nth {d : Nat} {h : PH} {Q : PQ} {gs : List (List Nat)} {m : Nat} {x1 : Int32} {l2 : Int64} (hM : MdS h) (hg : MGr h gs m) (hu : unlk gs) (hF : h_i h 17 26 ≠ 0 → ∃ N, CNd h N gs m) (hO : LyO h) (k1 : (x1 < 0 ∨ (10 : Int32) < x1 ∨ ¬ 0 ≤ lg_cmp l2 (0 : Int64)) → ∀ h', Fr (fun x k => x = 17 ∧ k = 0) h h' → Q (some (.int 0)) h') (k2 : ∀ n kk h' N, n ≤ 10 → x1 = nI n → l2 = lN kk → kk < 2 ^ 63 → cnF oneN gs m n [] ≤ kk → CNd h' N gs m → LyO h' → Fr Wmwo h h' → Q (some (.int 0)) h') (k3 : ∀ n kk h' N, n ≤ 10 → x1 = nI n → l2 = lN kk → kk < 2 ^ 63 → kk < cnF oneN gs m n [] → CNd h' N gs m → LyO h' → MWd h' (nthW gs m n [] kk) → Fr Wmnt h h' → Q (some (.int 1)) h') : wpm (d + 7) 260 [.ref 17, .int x1, .long l2] h Q := by
  refine wpm_in P_Md_nth rfl (by decide) (by show ¬ 10 < 4; decide) ?_
  refine B_Md_nth_0 hM.1 ?_
  have hf0 : Fr (fun x k => x = 17 ∧ k = 0) h (w_i h 17 0 0) := Fr.wi _ _ ⟨rfl, rfl⟩
  generalize w_i h 17 0 0 = g at hf0 ⊢
  have hMg := hf0.md hM
  have hgg := hg.fr hf0 (fun x k z => by omega)
  have ho := hgg.1
  have hOg := LyO.fr hf0 (fun x k z => by omega) hO
  have hFg : h_i g 17 26 ≠ 0 → ∃ N, CNd g N gs m := fun q => by
    rw [hf0.i _ _ (by omega)] at q
    obtain ⟨N, hN⟩ := hF q
    exact ⟨N, hN.fr hf0 (fun x k z => by omega)⟩
  refine md_in ?_
  by_cases b1 : x1 < 0 ∨ (10 : Int32) < x1
  · rw [if_pos b1]
    exact B_Md_nth_12 (fun _ => B_Md_nth_21 (k1 (b1.elim Or.inl (fun z => Or.inr (Or.inl z))) g hf0)) (fun q => absurd rfl q)
  · rw [if_neg b1]
    refine B_Md_nth_12 (fun q => absurd q (by decide)) (fun _ => B_Md_nth_15 (fun hl => ?_) (fun hl => B_Md_nth_21 (k1 (Or.inr (Or.inr hl)) g hf0)))
    obtain ⟨n, hn, e1⟩ := nI_ofN (n := 10) (fun z => b1 (Or.inl z)) (fun z => b1 (Or.inr z)) (by decide)
    obtain ⟨kk, hk, e2⟩ := lN_of0 hl
    subst e1
    subst e2
    refine B_Md_nth_23 hMg.1 (md_startsAnew hMg hgg hFg (fun g1 N hC _ hD f1 => ?_))
    have hM1 := f1.md hMg
    have hO1 := LyO.fr f1 (fun x k z => by unfold Wnd at z; omega) hOg
    refine nth_copy hM1 hD (fun g2 x4 hD2 f2' => ?_)
    have hM2 := f2'.md hM1
    have hO2 := LyO.fr f2' (fun x k z => by omega) hO1
    have hC2 : CNd g2 N gs m := hC.fr f2' (fun x k z => by omega)
    have hE2 : DgA g2 51 (stD N gs m []) := hD.cg (fun q hq => f2'.l _ _ (by omega))
    have F2 : Fr Wmwo h g2 := (hf0.up (fun x k z => Or.inr (Or.inr (Or.inr (Or.inr z))))).tr ((f1.up (fun x k z => z.elim Or.inl (fun w => Or.inr (Or.inl (Or.inl (by omega)))))).tr (f2'.up (fun x k z => Or.inr (Or.inr (Or.inl z)))))
    refine B_Md_nth_56 hM2.1 (md_countFrom hM2 ho hu hC2 hE2 (by show 0 + n ≤ 10; omega) hO2 (fun g3 e61 _ hO3 f3 => ?_))
    have hM3 := f3.md hM2
    have hC3 : CNd g3 N gs m := hC2.fr f3 (fun x k z => by unfold Wcfm at z; omega)
    have F3 : Fr Wmwo h g3 := F2.tr (f3.up (fun x k z => Or.inr (Or.inl z)))
    have hD3 : DgA g3 53 (stD N gs m []) := hD2.cg (fun q hq => f3.l _ _ (fun z => by unfold Wcfm at z; omega))
    have cb : ∀ n v, n ≤ 10 → cnF oneN gs m n v < 2 ^ 60 := fun n v hn => cnF_b f2_one hn v
    have cn := cb n [] hn
    refine B_Md_nth_61 hM3.1 (fun q => ?_) (fun q => B_Md_nth_70 ?_)
    · rw [e61, lg_lt hk (by omega)] at q
      have main : ∀ (r i : Nat) (v : List Nat) (k' : Nat) (g : PH) (v7 v8 v9 : Value), v.length = i → i + r = n → k' < cnF oneN gs m r v → nthW gs m r v k' = nthW gs m n [] kk → okw v → (∀ j x, v[j]? = some x → h_i g 26 j = nI (x + 96)) → DgA g 53 (stD N gs m v) → LyO g → Fr Wmnt h g → CNd g N gs m → wpx (d + 6) P_Md_nth 78 [.ref 17, .int (nI n), .long (lN kk), .retAddr 2, .long (lN k'), .retAddr 2, .int (nI i), v7, v8, v9] [] g Q := by
        intro r
        induction r with
        | zero =>
          intro i v k' g v7 v8 v9 hv hr hk' hnt hw hl hD hO hf hC
          have hMg := hf.md hM
          have ei : i = n := by omega
          subst ei
          refine B_Md_nth_78 (fun _ => B_Md_nth_158 hMg.1 ?_) (fun q => absurd (by rw [nI_leI (by omega) (by omega)]; exact Nat.le_refl _) q)
          have ev : v = nthW gs m i [] kk := hnt
          have f5 : Fr (fun x k => x = 17 ∧ k = 24) g (w_i g 17 24 (nI i)) := Fr.wi _ _ ⟨rfl, rfl⟩
          refine k3 i kk _ N hn rfl rfl hk q (hC.fr f5 (fun x k z => by omega)) (LyO.fr f5 (fun x k z => by omega) hO) ?_ (hf.tr (f5.up (fun x k z => Or.inr (Or.inr z))))
          rw [← ev]
          refine ⟨hw, by rw [wi_eq, hv], fun j x hx => ?_⟩
          rw [wi_ne _ _ (by omega)]
          exact hl j x hx
        | succ r ih =>
          intro i v k' g v7 v8 v9 hv hr hk' hnt hw hl hD hO hf hC
          have hMg := hf.md hM
          have crr := cb (r + 1) v (by omega)
          have esub : nI n - (1 : Int32) - nI i = nI r := by
            rw [show (1 : Int32) = nI 1 from rfl, nI_subN (by omega), nI_subN (by omega)]
            congr 1
            omega
          obtain ⟨f, ef⟩ : ∃ f : Nat → Nat, f = fun i => cnF oneN gs m r (v ++ [i + 1]) := ⟨_, rfl⟩
          have fe : ∀ c, cnF oneN gs m r (v ++ [c + 1]) = f c := fun c => by rw [ef]
          have fb : ∀ c, f c < 2 ^ 60 := fun c => by
            rw [← fe]
            exact cb r _ (by omega)
          have f27 : cnF oneN gs m (r + 1) v = sm f 27 := by
            rw [ef]
            rfl
          rw [f27] at hk' crr
          have done : ∀ (c : Nat) (g1 : PH), c < 27 → sm f c ≤ k' → k' < sm f (c + 1) → LyO g1 → (f c ≠ 0 → DgA g1 54 (stD N gs m (v ++ [c + 1]))) → Fr Wbh g g1 → wpx (d + 6) P_Md_nth 136 [.ref 17, .int (nI n), .long (lN kk), .retAddr 2, .long (lN (k' - sm f c)), .retAddr 2, .int (nI i), .int (nI c), .long (lN (f c)), .retAddr 2] [] g1 Q := by
            intro c g1 hc h1 h2 hO1 hD54 hf1
            have h2' : k' < sm f c + f c := h2
            have F1 : Fr Wmnt h g1 := hf.tr (hf1.up (fun x k z => by unfold Wbh Wcfm at z; unfold Wmnt Wmwo Wcfm; omega))
            have hM1 := F1.md hM
            refine B_Md_nth_136 hM1.1 (md_goesThere hM1 (hD54 (by omega)) (fun g2 hD2 f2' => ?_))
            have F2 : Fr Wmnt h g2 := F1.tr (f2'.up (fun x k z => by unfold Wmnt Wmwo; omega))
            have hM2 := F2.md hM
            refine B_Md_nth_140 hM2.1 (mr_word hM2) (ms_word hM2) (vp_in_nI (by omega) (by omega)) ?_
            rw [nI_clamp (show i < 2 ^ 31 by omega), nI_1, show (97 : Int32) = nI 97 from rfl, nI_add]
            have f3 : Fr (fun x _ => x = 26) g2 (w_i g2 26 i (nI (97 + c))) := Fr.wi _ _ rfl
            have F3 : Fr Wmnt h (w_i g2 26 i (nI (97 + c))) := F2.tr (f3.up (fun x k z => Or.inr (Or.inl z)))
            have ep : pick f 27 0 k' = (c, k' - sm f c) := pick_is h1 h2 27 0 (Nat.zero_le _) (by omega)
            refine ih (i + 1) (v ++ [c + 1]) (k' - sm f c) _ _ _ _ (by rw [List.length_append, hv]; rfl) (by omega) (by rw [fe]; omega) ?_ ⟨by rw [List.length_append, hv]; show i + 1 ≤ 800; omega, fun x hx => ?_⟩ (fun j x hx => ?_) (hD2.cg (fun q hq => f3.l _ _ (by omega))) (LyO.fr f3 (fun x k z => by omega) (LyO.fr f2' (fun x k z => by omega) hO1)) F3 (((hC.fr hf1 (fun x k z => by unfold Wbh Wcfm at z; omega)).fr f2' (fun x k z => by omega)).fr f3 (fun x k z => by omega))
            · rw [← hnt]
              show _ = nthW gs m r (v ++ [(pick (fun i => cnF oneN gs m r (v ++ [i + 1])) 27 0 k').1 + 1]) (pick (fun i => cnF oneN gs m r (v ++ [i + 1])) 27 0 k').2
              rw [← ef, ep]
            · rcases List.mem_append.mp hx with z | z
              · exact hw.2 x z
              · rw [List.mem_singleton.mp z]
                omega
            · by_cases y : j = i
              · rw [y] at hx ⊢
                rw [List.getElem?_append_right (by omega), hv, Nat.sub_self] at hx
                have : c + 1 = x := Option.some.inj hx
                rw [wi_eq, ← this]
                congr 1
                omega
              · have jl := (List.getElem?_eq_some_iff.mp hx).1
                rw [List.length_append] at jl
                have jl' : j < v.length + 1 := jl
                rw [List.getElem?_append_left (by omega)] at hx
                rw [wi_ne _ _ (fun w => y w.2), f2'.i _ _ (by omega), hf1.i _ _ (fun z => by unfold Wbh Wcfm at z; omega)]
                exact hl j x hx
          have inner : ∀ (e c : Nat) (g1 : PH), 27 - c = e → c < 27 → sm f c ≤ k' → LyO g1 → (f c ≠ 0 → DgA g1 54 (stD N gs m (v ++ [c + 1]))) → Fr Wbh g g1 → wpx (d + 6) P_Md_nth 101 [.ref 17, .int (nI n), .long (lN kk), .retAddr 2, .long (lN (k' - sm f c)), .retAddr 2, .int (nI i), .int (nI c), .long (lN (f c)), .retAddr 2] [] g1 Q := by
            intro e
            induction e with
            | zero =>
              intro c g1 he hc
              omega
            | succ e ih2 =>
              intro c g1 he hc hs hO1 hD54 hf1
              have fbc := fb c
              have sc : sm f (c + 1) = sm f c + f c := rfl
              have hM1 := hf1.md hMg
              refine B_Md_nth_101 (fun z => done c g1 hc hs ?_ hO1 hD54 hf1) (fun z => ?_) <;> rw [lg_lt (by omega) (by omega)] at z
              · omega
              · have c27 : c + 1 < 27 := by
                  refine Nat.lt_of_not_le (fun w => ?_)
                  have e26 : c + 1 = 27 := by omega
                  rw [e26] at sc
                  omega
                refine B_Md_nth_109 hM1.1 ?_
                rw [nI_1, lN_subN (by omega), esub, Nat.sub_sub, ← sc]
                have hC1 : CNd g1 N gs m := hC.fr hf1 (fun x k z => by unfold Wbh Wcfm at z; omega)
                have hD1 : DgA g1 53 (stD N gs m v) := hD.cg (fun q hq => hf1.l _ _ (fun z => by unfold Wbh Wcfm at z; omega))
                refine md_behindBy (c := c + 1) hM1 ho hu hC1 hD1 c27 (by omega) hO1 (fun g2 h54 hO2 f2' => B_Md_nth_131 ?_)
                rw [fe] at h54 ⊢
                exact ih2 (c + 1) g2 (by omega) c27 (by omega) hO2 h54 (hf1.tr f2')
          refine B_Md_nth_78 (fun q => ?_) (fun _ => B_Md_nth_84 hMg.1 ?_)
          · rw [nI_leI (by omega) (by omega)] at q
            omega
          · rw [esub]
            refine md_behindBy (c := 0) hMg ho hu hC hD (by decide) (by omega) hO (fun g1 h54 hO1 f1 => B_Md_nth_99 ?_)
            rw [fe] at h54 ⊢
            exact inner _ 0 g1 rfl (by decide) (Nat.zero_le _) hO1 h54 f1
      exact B_Md_nth_72 (main n 0 [] kk g3 _ _ _ rfl (by omega) q rfl ⟨by decide, fun x hx => by cases hx⟩ (fun j x hx => by cases hx) hD3 hO3 (F3.up (fun x k z => Or.inl z)) hC3)
    · rw [e61, lg_lt hk (by omega)] at q
      exact k2 n kk g3 N hn rfl rfl hk (by omega) hC3 hO3 F3
