/-! words on the reference's side: how many words of n letters; what is behind one letter more -/
def Wmwo (x k : Nat) : Prop := Wnd x k ∨ Wcfm x k ∨ x = 53 ∨ x = 54 ∨ (x = 17 ∧ k = 0)
theorem LyO.fr {W : Nat → Nat → Prop} {h h' : PH} (hf : Fr W h h') (hw : ∀ x k, W x k → x < 46 ∨ 51 ≤ x) (hO : LyO h) : LyO h' := by
  obtain ⟨⟨P0, h0⟩, P1, h1⟩ := hO
  exact ⟨⟨P0, LTk.fr hf (fun x k w z => by have := hw x k w; unfold Wly at z; omega) h0⟩, P1, LTk.fr hf (fun x k w z => by have := hw x k w; unfold Wly at z; omega) h1⟩
theorem md_words {d : Nat} {h : PH} {Q : PQ} {gs : List (List Nat)} {m : Nat} {x1 x2 : Int32} (hM : MdS h) (hg : MGr h gs m) (hu : unlk gs) (hF : h_i h 17 26 ≠ 0 → ∃ N, CNd h N gs m) (hO : LyO h) (k1 : (x1 < 0 ∨ (10 : Int32) < x1 ∨ x2 < 0 ∨ (2 : Int32) < x2) → ∀ h', Fr (fun x k => x = 17 ∧ k = 0) h h' → Q (some (.long (-1))) h') (k2 : ∀ n w h' N, n ≤ 10 → w ≤ 2 → x1 = nI n → x2 = nI w → CNd h' N gs m → LyO h' → Fr Wmwo h h' → Q (some (.long (wdV gs m n w))) h') : wpm (d + 6) 257 [.ref 17, .int x1, .int x2] h Q := by
  refine wpm_in P_Md_words rfl (by decide) (by show ¬ 3 < 3; decide) ?_
  refine B_Md_words_0 hM.1 ?_
  have hf0 : Fr (fun x k => x = 17 ∧ k = 0) h (w_i h 17 0 0) := Fr.wi _ _ ⟨rfl, rfl⟩
  generalize w_i h 17 0 0 = g at hf0 ⊢
  have hMg := hf0.md hM
  have hgg := hg.fr hf0 (fun x k z => by omega)
  have ho := hgg.1
  have hOg := LyO.fr hf0 (fun x k z => by omega) hO
  have hFg : h_i g 17 26 ≠ 0 → ∃ N, CNd g N gs m := fun q => by
    rw [hf0.i _ _ (by omega)] at q
    obtain ⟨N, hN⟩ := hF q
    exact ⟨N, hN.fr hf0 (fun x k z => by omega)⟩
  refine md_in ?_
  by_cases b1 : x1 < 0 ∨ (10 : Int32) < x1
  · rw [if_pos b1]
    exact B_Md_words_12 (fun _ => B_Md_words_24 (k1 (b1.elim Or.inl (fun z => Or.inr (Or.inl z))) g hf0)) (fun q => absurd rfl q)
  · rw [if_neg b1]
    refine B_Md_words_12 (fun q => absurd q (by decide)) (fun _ => B_Md_words_15 (md_in ?_))
    by_cases b2 : x2 < 0 ∨ (2 : Int32) < x2
    · rw [if_pos b2]
      exact B_Md_words_21 (fun q => absurd rfl q) (fun _ => B_Md_words_24 (k1 (Or.inr (Or.inr b2)) g hf0))
    · rw [if_neg b2]
      obtain ⟨n, hn, e1⟩ := nI_ofN (n := 10) (fun z => b1 (Or.inl z)) (fun z => b1 (Or.inr z)) (by decide)
      obtain ⟨w, hw, e2⟩ := nI_ofN (n := 2) (fun z => b2 (Or.inl z)) (fun z => b2 (Or.inr z)) (by decide)
      subst e1
      subst e2
      refine B_Md_words_21 (fun _ => B_Md_words_28 hMg.1 (md_startsAnew hMg hgg hFg (fun g1 N hC _ hD f1 => ?_))) (fun q => absurd q (by decide))
      have hM1 := f1.md hMg
      have hO1 := LyO.fr f1 (fun x k z => by unfold Wnd at z; omega) hOg
      refine B_Md_words_32 hM1.1 (md_countFrom hM1 ho hu hC hD (by show 0 + n ≤ 10; omega) hO1 (fun g2 e61 e62 hO2 f2' => ?_))
      have hM2 := f2'.md hM1
      have F : Fr Wmwo h g2 := (hf0.up (fun x k z => Or.inr (Or.inr (Or.inr (Or.inr z))))).tr ((f1.up (fun x k z => z.elim Or.inl (fun w => Or.inr (Or.inl (Or.inl (by omega)))))).tr (f2'.up (fun x k z => Or.inr (Or.inl z))))
      have fin := k2 n w g2 N hn hw rfl rfl (hC.fr f2' (fun x k z => by unfold Wcfm at z; omega)) hO2 F
      have tw := cnF_tw (gs := gs) (m := m) n []
      refine B_Md_words_37 (fun q => B_Md_words_48 (fun q2 => B_Md_words_65 hM2.1 (B_Md_words_69 ?_)) (fun q2 => B_Md_words_53 hM2.1 (B_Md_words_69 ?_))) (fun q => B_Md_words_41 hM2.1 (B_Md_words_69 ?_))
      · rw [show (0 : Int32) = nI 0 from rfl, nI_eq (by omega) (by omega)] at q
        rw [show (1 : Int32) = nI 1 from rfl, nI_eq (by omega) (by omega)] at q2
        rw [e62]
        unfold wdV at fin
        rw [if_neg q, if_neg q2, lN_subN (by omega), show cnF oneN gs m n [] - cnF onlyN gs m n [] = cnF twN gs m n [] by omega] at fin
        exact fin
      · rw [show (1 : Int32) = nI 1 from rfl, nI_eq (by omega) (by omega)] at q2
        rw [e61, e62, lN_subN (by omega), show cnF oneN gs m n [] - cnF twN gs m n [] = cnF onlyN gs m n [] by omega]
        unfold wdV at fin
        rw [if_neg (by omega), if_pos q2] at fin
        exact fin
      · rw [show (0 : Int32) = nI 0 from rfl, nI_eq (by omega) (by omega)] at q
        rw [e61]
        unfold wdV at fin
        rw [if_pos q] at fin
        exact fin
def Wbh (x k : Nat) : Prop := Wcfm x k ∨ x = 54
theorem bh_copy {d : Nat} {h0 : PH} {Q : PQ} {D : Nat → Nat} {x1 x2 : Int32} {v3 : Value} (hM : MdS h0) (hD : DgA h0 53 D) (k : ∀ g x3, DgA g 51 D → Fr (fun x _ => x = 51) h0 g → wpx d P_Md_behindBy 25 [.ref 17, .int x1, .int x2, .int x3] [] g Q) : wpx d P_Md_behindBy 0 [.ref 17, .int x1, .int x2, v3] [] h0 Q := by
  have loop : ∀ (e q : Nat) (g : PH), 4 - q = e → q ≤ 4 → (∀ k, k < q → h_l g 51 k = lN (pq D (32 * k) 32)) → Fr (fun x _ => x = 51) h0 g → wpx d P_Md_behindBy 2 [.ref 17, .int x1, .int x2, .int (nI q)] [] g Q := by
    intro e
    induction e with
    | zero =>
      intro q g he hq hz hf
      have e4 : q = 4 := by omega
      subst e4
      exact B_Md_behindBy_2 (fun _ => k g _ ⟨hz, hD.2⟩ hf) (fun w => absurd (by decide) w)
    | succ e ih =>
      intro q g he hq hz hf
      have hMg := hf.md hM
      refine B_Md_behindBy_2 (fun w => ?_) (fun _ => B_Md_behindBy_7 hMg.1 (mr_from hMg) (mr_here hMg) (ms_here hMg) (vp_in_nI (by omega) (by omega)) (ms_from hMg) (vp_in_nI (by omega) (by omega)) ?_)
      · rw [show (4 : Int32) = nI 4 from rfl, nI_leI (by omega) (by omega)] at w
        omega
      · rw [nI_clamp (show q < 2 ^ 31 by omega), nI_1]
        refine ih (q + 1) _ (by omega) (by omega) (fun k hk => ?_) (hf.tr (Fr.wl _ _ rfl))
        rw [h_l_wl]
        by_cases y : k = q
        · rw [if_pos ⟨rfl, y⟩, hf.l _ _ (by omega), y]
          exact hD.1 q (by omega)
        · rw [if_neg (fun w => y w.2)]
          exact hz k (by omega)
  exact B_Md_behindBy_0 (loop _ 0 h0 rfl (Nat.zero_le _) (fun k hk => absurd hk (by omega)) (Fr.rf _ _))
theorem bh_copy2 {d : Nat} {h0 : PH} {Q : PQ} {D : Nat → Nat} {x1 x2 x3 : Int32} (hM : MdS h0) (hD : DgA h0 52 D) (k : ∀ g x3, DgA g 51 D → DgA g 54 D → Fr (fun x _ => x = 51 ∨ x = 54) h0 g → wpx d P_Md_behindBy 72 [.ref 17, .int x1, .int x2, .int x3] [] g Q) : wpx d P_Md_behindBy 35 [.ref 17, .int x1, .int x2, .int x3] [] h0 Q := by
  have loop : ∀ (e q : Nat) (g : PH), 4 - q = e → q ≤ 4 → (∀ k, k < q → h_l g 51 k = lN (pq D (32 * k) 32)) → (∀ k, k < q → h_l g 54 k = lN (pq D (32 * k) 32)) → Fr (fun x _ => x = 51 ∨ x = 54) h0 g → wpx d P_Md_behindBy 37 [.ref 17, .int x1, .int x2, .int (nI q)] [] g Q := by
    intro e
    induction e with
    | zero =>
      intro q g he hq hz hy hf
      have e4 : q = 4 := by omega
      subst e4
      exact B_Md_behindBy_37 (fun _ => k g _ ⟨hz, hD.2⟩ ⟨hy, hD.2⟩ hf) (fun w => absurd (by decide) w)
    | succ e ih =>
      intro q g he hq hz hy hf
      have hMg := hf.md hM
      have e52 : h_l g 52 q = lN (pq D (32 * q) 32) := (hf.l _ _ (by omega)).trans (hD.1 q (by omega))
      refine B_Md_behindBy_37 (fun w => ?_) (fun _ => B_Md_behindBy_42 hMg.1 (mr_from hMg) (mr_to hMg) (ms_to hMg) (vp_in_nI (by omega) (by omega)) (ms_from hMg) (vp_in_nI (by omega) (by omega)) (mr_gone hMg) (ms_gone hMg) (vp_in_nI (by omega) (by omega)) ?_)
      · rw [show (4 : Int32) = nI 4 from rfl, nI_leI (by omega) (by omega)] at w
        omega
      · rw [nI_clamp (show q < 2 ^ 31 by omega), nI_1]
        have F1 : Fr (fun x _ => x = 51 ∨ x = 54) h0 (w_l g 51 q (h_l g 52 q)) := hf.tr (Fr.wl _ _ (Or.inl rfl))
        refine ih (q + 1) _ (by omega) (by omega) (fun k hk => ?_) (fun k hk => ?_) (F1.tr (Fr.wl _ _ (Or.inr rfl)))
        · rw [h_l_wl, if_neg (by omega), h_l_wl]
          by_cases y : k = q
          · rw [if_pos ⟨rfl, y⟩, y]
            exact e52
          · rw [if_neg (fun w => y w.2)]
            exact hz k (by omega)
        · rw [h_l_wl]
          by_cases y : k = q
          · rw [if_pos ⟨rfl, y⟩, h_l_wl, if_neg (by omega), y]
            exact e52
          · rw [if_neg (fun w => y w.2), h_l_wl, if_neg (by omega)]
            exact hy k (by omega)
  exact B_Md_behindBy_35 (loop _ 0 h0 rfl (Nat.zero_le _) (fun k hk => absurd hk (by omega)) (fun k hk => absurd hk (by omega)) (Fr.rf _ _))
theorem md_behindBy {d n c : Nat} {h : PH} {Q : PQ} {N gs : List (List Nat)} {m : Nat} {v : List Nat} (hM : MdS h) (ho : okg gs m) (hu : unlk gs) (hC : CNd h N gs m) (hD : DgA h 53 (stD N gs m v)) (hc : c < 27) (hn : v.length + 1 + n ≤ 10) (hO : LyO h) (k : ∀ h', (cnF oneN gs m n (v ++ [c + 1]) ≠ 0 → DgA h' 54 (stD N gs m (v ++ [c + 1]))) → LyO h' → Fr Wbh h h' → Q (some (.long (lN (cnF oneN gs m n (v ++ [c + 1]))))) h') : wpm (d + 6) 258 [.ref 17, .int (nI c), .int (nI n)] h Q := by
  refine wpm_in P_Md_behindBy rfl (by decide) (by show ¬ 4 < 3; decide) ?_
  refine bh_copy hM hD (fun g1 x3 hD1 f1 => ?_)
  have hM1 := f1.md hM
  have hC1 : CNd g1 N gs m := hC.fr f1 (fun x k z => by omega)
  have F1 : Fr Wbh h g1 := f1.up (fun x k z => by unfold Wbh Wcfm; omega)
  have hO1 := LyO.fr f1 (fun x k z => by omega) hO
  refine B_Md_behindBy_25 hM1.1 (md_steps (s := c + 1) hM1 ho hu hC1 (by omega) (by omega) hD1 (fun g2 hD2 _ f2' => ?_) (fun g2 hD2 h0' f2' => ?_))
  · have hM2 := f2'.md hM1
    have F2 : Fr Wbh h g2 := F1.tr (f2'.up (fun x k z => by unfold Wbh Wcfm; omega))
    have hO2 := LyO.fr f2' (fun x k z => by omega) hO1
    refine B_Md_behindBy_30 (fun _ => bh_copy2 hM2 hD2 (fun g3 x3' hD3 hE3 f3 => ?_)) (fun q => absurd q (by decide))
    have hM3 := f3.md hM2
    have F3 : Fr Wbh h g3 := F2.tr (f3.up (fun x k z => by unfold Wbh Wcfm; omega))
    have hO3 := LyO.fr f3 (fun x k z => by omega) hO2
    have hC3 : CNd g3 N gs m := hC.fr F3 (fun x k z => by unfold Wbh Wcfm at z; omega)
    refine B_Md_behindBy_72 hM3.1 (md_countFrom hM3 ho hu hC3 hD3 (by rw [List.length_append]; exact hn) hO3 (fun g4 e61 _ hO4 f4 => ?_))
    refine B_Md_behindBy_77 (f4.md hM3).1 ?_
    rw [e61]
    exact k g4 (fun _ => hE3.cg (fun q hq => f4.l _ _ (fun z => by unfold Wcfm at z; omega))) hO4 (F3.tr (f4.up (fun x k z => Or.inl z)))
  · have F2 : Fr Wbh h g2 := F1.tr (f2'.up (fun x k z => by unfold Wbh Wcfm; omega))
    have hO2 := LyO.fr f2' (fun x k z => by omega) hO1
    have z0 := cnF_dead f2_one ho hu hC1.1.1 hC1.2 n _ h0'
    have kk := k g2 (fun q => absurd z0 q) hO2 F2
    rw [z0] at kk
    exact B_Md_behindBy_30 (fun q => absurd rfl q) (fun _ => B_Md_behindBy_33 kk)
