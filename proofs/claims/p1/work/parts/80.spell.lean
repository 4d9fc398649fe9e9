/-! spell, on the fresh object -/
theorem m_spell {a b c e : Int32} {L : Nat} {xs : Nat → Int32} {h : PH} (hs : h_sh h 17 = some (0, 12)) (hr : h_r h 17 49 = some 42) (hs2 : h_sh h 42 = some (1, 4)) (h5 : h_i h 17 5 = 0) (hsc : h_sc h = (L, xs)) (ok : okh h = true) : wpm 20 245 [.ref 17, .int a, .int b, .int c, .int e] h (fun r' h2 => r' = some (.int (-1)) ∧ Inv1 L xs (0 + 1) h2) := by
  refine wpm_in P_Md_spell rfl (by decide) (Nat.not_lt.mpr (Nat.le_of_ble_eq_true rfl)) ?_
  refine B_Md_spell_0 hs hr hs2 (vp_in_nI (n := 0) (by omega) (by omega)) (vp_in_nI (n := 1) (by omega) (by omega)) (vp_in_nI (n := 2) (by omega) (by omega)) (vp_in_nI (n := 3) (by omega) (by omega)) ?_
  have k5 : h_i (w_i (w_i (w_i (w_i (w_i h 17 0 0) 42 0 a) 42 1 b) 42 2 c) 42 3 e) 17 5 = 0 := by
    rw [wi_ne _ _ (by omega), wi_ne _ _ (by omega), wi_ne _ _ (by omega), wi_ne _ _ (by omega), wi_ne _ _ (by omega), h5]
  have kf : Fin1 (L, xs) (w_i (w_i (w_i (w_i (w_i h 17 0 0) 42 0 a) 42 1 b) 42 2 c) 42 3 e) := fin_of hsc (by rw [okh_wi, okh_wi, okh_wi, okh_wi, okh_wi]; exact ok)
  have ks : h_sh (w_i (w_i (w_i (w_i (w_i h 17 0 0) 42 0 a) 42 1 b) 42 2 c) 42 3 e) 17 = some (0, 12) := hs
  have kr : h_r (w_i (w_i (w_i (w_i (w_i h 17 0 0) 42 0 a) 42 1 b) 42 2 c) 42 3 e) 17 49 = some 42 := hr
  have ks2 : h_sh (w_i (w_i (w_i (w_i (w_i h 17 0 0) 42 0 a) 42 1 b) 42 2 c) 42 3 e) 42 = some (1, 4) := hs2
  generalize w_i (w_i (w_i (w_i (w_i h 17 0 0) 42 0 a) 42 1 b) 42 2 c) 42 3 e = g at k5 kf ks kr ks2 ⊢
  have loop : ∀ (m i : Nat) (x5 : Int32) (v8 : Value), 4 - i = m → 1 ≤ i → i ≤ 4 → wpx 19 P_Md_spell 43 [.ref 17, .int a, .int b, .int c, .int e, .int x5, .int 0, .int (nI i), v8] [] g (fun r' h2 => r' = some (.int (-1)) ∧ Inv1 L xs (0 + 1) h2) := by
    intro m
    induction m with
    | zero =>
      intro i x5 v8 hm h1 h4
      have : i = 4 := by omega
      subst this
      exact B_Md_spell_43 (fun _ => B_Md_spell_131 (fun q => absurd rfl q) (fun _ => B_Md_spell_136 ⟨rfl, (fun z => by cases z), kf⟩)) (fun q => absurd (by decide) q)
    | succ m ih =>
      intro i x5 v8 hm h1 h4
      have vi : vp_in (nI i) 4 := vp_in_nI (by omega) (by omega)
      have nx : ∀ (t x5' : Int32), wpx 19 P_Md_spell 102 [.ref 17, .int a, .int b, .int c, .int e, .int x5', .int 0, .int (nI i), v8] [.int t, .int 0] g (fun r' h2 => r' = some (.int (-1)) ∧ Inv1 L xs (0 + 1) h2) := by
        intro t x5'
        have st : ∀ y : Int32, wpx 19 P_Md_spell 122 [.ref 17, .int a, .int b, .int c, .int e, .int x5', .int ((0 : Int32) &&& t), .int (nI i), v8] [.int y, .int x5'] g (fun r' h2 => r' = some (.int (-1)) ∧ Inv1 L xs (0 + 1) h2) := by
          intro y
          refine B_Md_spell_122 ?_
          rw [Int32.zero_and, show nI i + 1 = nI (i + 1) from nI_add i 1]
          exact ih (i + 1) _ _ (by omega) (by omega) (by omega)
        exact B_Md_spell_102 ks kr ks2 vi (fun _ => B_Md_spell_121 (st 0)) (fun _ => B_Md_spell_117 (st 1))
      refine B_Md_spell_43 (fun q => ?_) (fun _ => ?_)
      · rw [show (4 : Int32) = nI 4 from rfl, nI_leI (by omega) (by omega)] at q
        omega
      · have z0 : ¬ nI i = 0 := by
          intro z
          have := congrArg Int32.toNatClampNeg z
          rw [nI_clamp (by omega)] at this
          have z2 : (0 : Int32).toNatClampNeg = 0 := rfl
          omega
        refine B_Md_spell_49 ks kr ks2 vi (fun _ => B_Md_spell_67 (B_Md_spell_68 ks (md_in ?_))) (fun q => absurd q z0)
        have t77 : ∀ y : Int32, wpx 19 P_Md_spell 77 [.ref 17, .int a, .int b, .int c, .int e, .int x5, .int 0, .int (nI i), v8] [.int y, .int 0] g (fun r' h2 => r' = some (.int (-1)) ∧ Inv1 L xs (0 + 1) h2) := fun y =>
          B_Md_spell_77 (fun _ => B_Md_spell_101 (nx 0 x5)) (fun _ => B_Md_spell_80 ks kr ks2 vi (fun _ => B_Md_spell_97 (nx 1 x5)) (fun _ => B_Md_spell_90 (fun _ => B_Md_spell_101 (nx 0 x5)) (fun _ => B_Md_spell_97 (nx 1 x5))))
        exact t77 _
  refine B_Md_spell_43 (fun q => absurd q (by decide)) (fun _ => ?_)
  have vi : vp_in (0 : Int32) 4 := vp_in_nI (n := 0) (by omega) (by omega)
  refine B_Md_spell_49 ks kr ks2 vi (fun q => absurd rfl q) (fun _ => B_Md_spell_63 (B_Md_spell_68 ks (md_in ?_)))
  rw [k5, no_in]
  refine B_Md_spell_77 (fun _ => B_Md_spell_101 ?_) (fun q => absurd rfl q)
  exact B_Md_spell_102 ks kr ks2 vi (fun _ => B_Md_spell_121 (B_Md_spell_122 (loop 3 1 _ _ rfl (by omega) (by omega)))) (fun _ => B_Md_spell_117 (B_Md_spell_122 (loop 3 1 _ _ rfl (by omega) (by omega))))
set_option maxRecDepth 100000 in
theorem b_Sp : ∃ g, fx_run 19 3000 61 [.ref 63] (h_new H0 (0, 5) (fN 5)) = some (none, g) ∧ h_sh g 0 = some (0, 11) ∧ h_r g 0 2 = some 2 ∧ h_sh g 63 = some (0, 5) ∧ h_r g 63 0 = some 64 ∧ h_sh g 64 = some (1, 4) ∧ h_sh g 2 = some (0, 3) ∧ h_i g 2 4 = 0 ∧ h_sh g 17 = some (0, 12) ∧ h_r g 17 49 = some 42 ∧ h_sh g 42 = some (1, 4) ∧ h_i g 17 5 = 0 ∧ okh g = true :=
  ⟨ro 19 3000 61 [.ref 63] (h_new H0 (0, 5) (fN 5)), ev_of (by decide +kernel), by decide +kernel, by decide +kernel, by decide +kernel, by decide +kernel, by decide +kernel, by decide +kernel, by decide +kernel, by decide +kernel, by decide +kernel, by decide +kernel, by decide +kernel, by decide +kernel⟩
theorem c_ask {d : Nat} {a b c e : Int32} {h : PH} {Q : PQ} (f1 : h_sh h 63 = some (0, 5)) (f2 : h_r h 63 0 = some 64) (f3 : h_sh h 64 = some (1, 4)) (f4 : h_sh h 2 = some (0, 3)) (f5 : h_i h 2 4 = 0) (k : Q (some (.int 0)) (w_i (w_i (w_i (w_i (w_i h 64 0 a) 64 1 b) 64 2 c) 64 3 e) 63 1 0)) : wpm (d + 1) 62 [.ref 63, .ref 2, .int a, .int b, .int c, .int e] h Q := by
  refine wpm_in P_Sp_ask rfl (by decide) (Nat.not_lt.mpr (Nat.le_of_ble_eq_true rfl)) ?_
  refine B_Sp_ask_0 f1 f2 f3 (vp_in_nI (n := 0) (by omega) (by omega)) (vp_in_nI (n := 1) (by omega) (by omega)) (vp_in_nI (n := 2) (by omega) (by omega)) (vp_in_nI (n := 3) (by omega) (by omega)) ?_
  have k1 : h_i (w_i (w_i (w_i (w_i (w_i h 64 0 a) 64 1 b) 64 2 c) 64 3 e) 63 1 0) 63 1 = 0 := wi_eq _ _ _ _
  have k4 : h_i (w_i (w_i (w_i (w_i (w_i h 64 0 a) 64 1 b) 64 2 c) 64 3 e) 63 1 0) 2 4 = 0 := by
    rw [wi_ne _ _ (by omega), wi_ne _ _ (by omega), wi_ne _ _ (by omega), wi_ne _ _ (by omega), wi_ne _ _ (by omega), f5]
  have s1 : h_sh (w_i (w_i (w_i (w_i (w_i h 64 0 a) 64 1 b) 64 2 c) 64 3 e) 63 1 0) 63 = some (0, 5) := f1
  have s2 : h_r (w_i (w_i (w_i (w_i (w_i h 64 0 a) 64 1 b) 64 2 c) 64 3 e) 63 1 0) 63 0 = some 64 := f2
  have s3 : h_sh (w_i (w_i (w_i (w_i (w_i h 64 0 a) 64 1 b) 64 2 c) 64 3 e) 63 1 0) 64 = some (1, 4) := f3
  have s4 : h_sh (w_i (w_i (w_i (w_i (w_i h 64 0 a) 64 1 b) 64 2 c) 64 3 e) 63 1 0) 2 = some (0, 3) := f4
  generalize w_i (w_i (w_i (w_i (w_i h 64 0 a) 64 1 b) 64 2 c) 64 3 e) 63 1 0 = g at k1 k4 s1 s2 s3 s4 k ⊢
  have loop : ∀ (m i : Nat), 4 - i = m → i ≤ 4 → wpx d P_Sp_ask 38 [.ref 63, .ref 2, .int a, .int b, .int c, .int e, .int (nI i)] [] g Q := by
    intro m
    induction m with
    | zero =>
      intro i hm h4
      have : i = 4 := by omega
      subst this
      refine B_Sp_ask_38 (fun _ => B_Sp_ask_106 s1 (fun _ => B_Sp_ask_117 (B_Sp_ask_118 rfl k)) (fun q => absurd ?_ q)) (fun q => absurd (by decide) q)
      rw [k1]
      exact Int32.le_refl _
    | succ m ih =>
      intro i hm h4
      have vi : vp_in (nI i) 4 := vp_in_nI (by omega) (by omega)
      refine B_Sp_ask_38 (fun q => ?_) (fun _ => ?_)
      · rw [show (4 : Int32) = nI 4 from rfl, nI_leI (by omega) (by omega)] at q
        omega
      · refine B_Sp_ask_44 s1 s2 s3 vi (fun _ => B_Sp_ask_100 ?_) (fun _ => B_Sp_ask_55 s1 (fun _ => B_Sp_ask_88 k) (fun _ => B_Sp_ask_64 s1 s2 s3 vi (fun _ => B_Sp_ask_88 k) (fun q => B_Sp_ask_74 s1 s2 s3 vi s4 (fun q2 => ?_) (fun _ => B_Sp_ask_88 k))))
        · rw [show nI i + 1 = nI (i + 1) from nI_add i 1]
          exact ih (i + 1) (by omega) (by omega)
        · rw [k4] at q2
          exact absurd q2 q
  exact loop 4 0 rfl (by omega)
theorem p_23 (a1 a2 a3 a4 : Int32) (L : Nat) (xs : Nat → Int32) : OpI (Inv1 L xs) 20 141 245 [.int a1, .int a2, .int a3, .int a4] 0 := by
  intro h hI
  obtain rfl := hI.1 rfl
  obtain ⟨g, e1, f0, f1, f2, f3, f4, f5, f6, f7, f8, f9, f10, f11⟩ := b_Sp
  refine wpm_in P_Ow_spell rfl (by decide) (Nat.not_lt.mpr (Nat.le_of_ble_eq_true rfl)) ?_
  refine B_Ow_spell_0 (ow0 _).1 (fun z hz => ?_) (fun _ => ?_)
  · rw [hr_sets, show h_r H0 0 9 = none by decide +kernel] at hz
    cases hz
  · refine B_Ow_spell_7 ?_
    rw [new_sets, ct_sets, show h_ct H0 = 63 from rfl]
    refine fx_sc e1 ?_
    refine B_Ow_spell_15 f0 ?_
    rw [wr_sets]
    have w9 : h_r (w_r g 0 9 (some 63)) 0 9 = some 63 := by rw [h_r_wr, if_pos ⟨rfl, rfl⟩]
    have w2 : h_r (w_r g 0 9 (some 63)) 0 2 = some 2 := by rw [h_r_wr, if_neg (by omega)]; exact f1
    have w3 : h_r (w_r g 0 9 (some 63)) 63 0 = some 64 := by rw [h_r_wr, if_neg (by omega)]; exact f3
    have w8 : h_r (w_r g 0 9 (some 63)) 17 49 = some 42 := by rw [h_r_wr, if_neg (by omega)]; exact f8
    refine B_Ow_spell_18 (a0 := 63) (a1 := 2) f0 w9 w2 f2 ?_
    refine c_ask f2 w3 f4 f5 f6 ?_
    refine B_Ow_spell_34 (fun _ => B_Ow_spell_51 ⟨-1, rfl, rfl, f7, ?_⟩) (fun q => absurd rfl q)
    refine m_spell f7 w8 f9 ?_ rfl ?_
    · rw [wi_ne _ _ (by omega), wi_ne _ _ (by omega), wi_ne _ _ (by omega), wi_ne _ _ (by omega), wi_ne _ _ (by omega)]
      exact f10
    · rw [okh_wi, okh_wi, okh_wi, okh_wi, okh_wi]
      exact f11
