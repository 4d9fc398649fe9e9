/-! nth, the walk -/
theorem vi4 (x : Int32) (h : x = 0 ∨ x = 0 + 1 ∨ x = 0 + 1 + 1 ∨ x = 0 + 1 + 1 + 1) : vp_in x 4 := by
  rcases h with rfl | rfl | rfl | rfl <;> (unfold vp_in; decide)
theorem okh_wi (g : PH) (c k : Nat) (v : Int32) : okh (w_i g c k v) = okh g := okh_fr (Fr.wi (W := fun _ _ => True) g v trivial)
theorem m_nth {P : Nat → Prop} {k : Nat} {l : Int64} {g g2 : PH} {L : Nat} {xs : Nat → Int32} (hM : NthM P g g2) (hk : k ≤ 10) (hP : P k) (hl : 0 ≤ lg_cmp l 0) : wpm 20 260 [.ref 17, .int (nI k), .long l] (sets g (L, xs)) (fun r' h2 => r' = some (.int (if lg_cmp l (wv k) < 0 then 1 else 0)) ∧ Inv1 L xs (0 + 1) h2) := by
  obtain ⟨e2, f8, f10, r1, r2, s1, s2, l0, l1, l2, l3, e3⟩ := hM
  obtain ⟨g3, e4, j1, j2, j3, j4⟩ := ckW_of (e3 k hP)
  have c0 : ¬ nI k < 0 := Int32.not_lt.mpr (nI_pos' (by omega))
  have c1 : ¬ (10 : Int32) < nI k := by
    rw [show (10 : Int32) = nI 10 from rfl, nI_ltI (by omega) (by omega)]
    omega
  refine wpm_in P_Md_nth rfl (by decide) (Nat.not_lt.mpr (Nat.le_of_ble_eq_true rfl)) ?_
  refine B_Md_nth_0 f8 (md_in ?_)
  rw [if_neg (fun z => z.elim c0 c1)]
  refine B_Md_nth_12 (fun q => absurd q (by decide)) (fun _ => B_Md_nth_15 (fun _ => ?_) (fun q => absurd hl q))
  refine B_Md_nth_23 f8 ?_
  rw [wi_sets]
  refine fx_sc e2 ?_
  refine B_Md_nth_27 (B_Md_nth_30 (fun q => absurd q (by decide)) (fun _ => ?_))
  refine B_Md_nth_36 (a0 := 53) (a1 := 51) f10 r1 r2 s1 (vi4 _ (Or.inl rfl)) s2 (vi4 _ (Or.inl rfl)) ?_
  rw [show (0 : Int32).toNatClampNeg = 0 from rfl, hl_sets, show h_l ((none : Option Value), g2).2 51 0 = 1 from l0, wl_sets]
  refine B_Md_nth_30 (fun q => absurd q (by decide)) (fun _ => ?_)
  refine B_Md_nth_36 (a0 := 53) (a1 := 51) f10 r1 r2 s1 (vi4 _ (Or.inr (Or.inl rfl))) s2 (vi4 _ (Or.inr (Or.inl rfl))) ?_
  rw [show ((0 : Int32) + 1).toNatClampNeg = 1 from rfl, hl_sets, h_l_wl, if_neg (by omega), show h_l ((none : Option Value), g2).2 51 1 = 0 from l1, wl_sets]
  refine B_Md_nth_30 (fun q => absurd q (by decide)) (fun _ => ?_)
  refine B_Md_nth_36 (a0 := 53) (a1 := 51) f10 r1 r2 s1 (vi4 _ (Or.inr (Or.inr (Or.inl rfl)))) s2 (vi4 _ (Or.inr (Or.inr (Or.inl rfl)))) ?_
  rw [show ((0 : Int32) + 1 + 1).toNatClampNeg = 2 from rfl, hl_sets, h_l_wl, if_neg (by omega), h_l_wl, if_neg (by omega), show h_l ((none : Option Value), g2).2 51 2 = 0 from l2, wl_sets]
  refine B_Md_nth_30 (fun q => absurd q (by decide)) (fun _ => ?_)
  refine B_Md_nth_36 (a0 := 53) (a1 := 51) f10 r1 r2 s1 (vi4 _ (Or.inr (Or.inr (Or.inr rfl)))) s2 (vi4 _ (Or.inr (Or.inr (Or.inr rfl)))) ?_
  rw [show ((0 : Int32) + 1 + 1 + 1).toNatClampNeg = 3 from rfl, hl_sets, h_l_wl, if_neg (by omega), h_l_wl, if_neg (by omega), h_l_wl, if_neg (by omega), show h_l ((none : Option Value), g2).2 51 3 = 0 from l3, wl_sets]
  refine B_Md_nth_30 (fun _ => ?_) (fun q => absurd (by decide) q)
  refine B_Md_nth_56 f10 (fx_sc (h := hN g2) e4 ?_)
  refine B_Md_nth_61 j1 (fun q => ?_) (fun q => ?_)
  · rw [show h_l (sets ((none : Option Value), g3).2 (L, xs)) 17 61 = wv k from j2] at q
    rw [if_pos q]
    have k0 : k = 0 := by
      by_cases z : k = 0
      · exact z
      · exfalso
        rw [show wv k = 0 from if_neg z] at q
        exact absurd q (Int32.not_lt.mpr hl)
    subst k0
    refine B_Md_nth_72 (B_Md_nth_78 (fun _ => B_Md_nth_158 j1 ⟨rfl, (fun z => by cases z), w_i g3 17 24 (nI 0), rfl, (okh_wi _ _ _ _).trans j4⟩) (fun q => absurd (Int32.le_refl _) q))
  · rw [show h_l (sets ((none : Option Value), g3).2 (L, xs)) 17 61 = wv k from j2] at q
    rw [if_neg q]
    exact B_Md_nth_70 ⟨rfl, (fun z => by cases z), g3, rfl, j4⟩
theorem p_26 (a1 : Int32) (a2 : Int64) (L : Nat) (xs : Nat → Int32) : OpI (Inv1 L xs) 20 144 260 [.int a1, .long a2] 0 := by
  intro h hI
  obtain rfl := hI.1 rfl
  by_cases h1 : a1 < 0 ∨ (10 : Int32) < a1
  · have m : wpm 20 260 [.ref 17, .int a1, .long a2] (sets H0 (L, xs)) (fun r' h2 => r' = some (.int 0) ∧ Inv1 L xs (0 + 1) h2) := by
      refine wpm_in P_Md_nth rfl (by decide) (Nat.not_lt.mpr (Nat.le_of_ble_eq_true rfl)) ?_
      refine B_Md_nth_0 (md0 _).1 (md_in ?_)
      rw [if_pos h1]
      exact B_Md_nth_12 (fun _ => B_Md_nth_21 ⟨rfl, (fun z => by cases z), fin_th ok_H0⟩) (fun q => absurd rfl q)
    refine wpm_in P_Ow_nth rfl (by decide) (Nat.not_lt.mpr (Nat.le_of_ble_eq_true rfl)) ?_
    exact B_Ow_nth_0 (fun _ => B_Ow_nth_16 ⟨0, rfl, rfl, (md0 _).1, m⟩) (fun q1 => B_Ow_nth_4 (fun _ => B_Ow_nth_16 ⟨0, rfl, rfl, (md0 _).1, m⟩) (fun q2 => absurd h1 (fun z => z.elim q1 q2)))
  · by_cases hl : 0 ≤ lg_cmp a2 0
    · obtain ⟨k, hk, rfl⟩ := small (x := a1) (n := 10) (by decide) (fun q => h1 (Or.inl q)) (fun q => h1 (Or.inr q))
      obtain ⟨g, g2, g3, e1, f1, f2, f3, f6, f0, f4, f5, M1, M2⟩ := b_nth
      have m1 := m_nth (L := L) (xs := xs) M1 hk hk hl
      refine wpm_in P_Ow_nth rfl (by decide) (Nat.not_lt.mpr (Nat.le_of_ble_eq_true rfl)) ?_
      refine B_Ow_nth_0 (fun q => absurd (Or.inl q) h1) (fun _ => B_Ow_nth_4 (fun q => absurd (Or.inr q) h1) (fun _ => B_Ow_nth_10 (fun _ => ?_) (fun q => absurd hl q)))
      refine B_Ow_nth_18 (ow0 _).1 (fx_sc e1 ?_)
      refine B_Ow_nth_22 f0 f4 f1 ?_
      refine wpm_in P_Ce_bringTo rfl (by decide) (Nat.not_lt.mpr (Nat.le_of_ble_eq_true rfl)) ?_
      refine B_Ce_bringTo_0 (fun q => absurd (Or.inl q) h1) (fun _ => B_Ce_bringTo_4 (fun q => absurd (Or.inr q) h1) (fun _ => B_Ce_bringTo_10 (fun q => absurd q (Int32.not_lt.mpr hl)) (fun _ => ?_)))
      refine B_Ce_bringTo_16 f1 f2 f3 (vin11 hk) (fun q => ?_) (fun q => ?_)
      · rw [nI_clamp (by omega), show h_l (sets (some (Value.ref 63), g).2 (L, xs)) 66 k = wv k from f6 k (by omega)] at q
        rw [if_pos q] at m1
        have k0 : k = 0 := by
          by_cases z : k = 0
          · exact z
          · exfalso
            rw [show wv k = 0 from if_neg z] at q
            exact absurd q (Int32.not_lt.mpr hl)
        subst k0
        have m2 := m_nth (L := L) (xs := xs) M2 hk rfl hl
        rw [if_pos q] at m2
        refine B_Ce_bringTo_29 f5 ?_
        refine wpm_in P_Wo_clear rfl (by decide) (Nat.not_lt.mpr (Nat.le_of_ble_eq_true rfl)) ?_
        refine B_Wo_clear_0 f5 ?_
        refine B_Ce_bringTo_33 (B_Ce_bringTo_44 (fun _ => B_Ce_bringTo_167 ?_) (fun q => absurd (by decide) q))
        exact B_Ow_nth_31 rfl ⟨1, rfl, rfl, M1.2.1, m2⟩
      · rw [nI_clamp (by omega), show h_l (sets (some (Value.ref 63), g).2 (L, xs)) 66 k = wv k from f6 k (by omega)] at q
        rw [if_neg q] at m1
        refine B_Ce_bringTo_27 ?_
        exact B_Ow_nth_31 rfl ⟨0, rfl, rfl, M1.2.1, m1⟩
    · have m : wpm 20 260 [.ref 17, .int a1, .long a2] (sets H0 (L, xs)) (fun r' h2 => r' = some (.int 0) ∧ Inv1 L xs (0 + 1) h2) := by
        refine wpm_in P_Md_nth rfl (by decide) (Nat.not_lt.mpr (Nat.le_of_ble_eq_true rfl)) ?_
        refine B_Md_nth_0 (md0 _).1 (md_in ?_)
        rw [if_neg h1]
        exact B_Md_nth_12 (fun q => absurd q (by decide)) (fun _ => B_Md_nth_15 (fun q => absurd q hl) (fun _ => B_Md_nth_21 ⟨rfl, (fun z => by cases z), fin_th ok_H0⟩))
      refine wpm_in P_Ow_nth rfl (by decide) (Nat.not_lt.mpr (Nat.le_of_ble_eq_true rfl)) ?_
      exact B_Ow_nth_0 (fun q => absurd (Or.inl q) h1) (fun _ => B_Ow_nth_4 (fun q => absurd (Or.inr q) h1) (fun _ => B_Ow_nth_10 (fun q => absurd q hl) (fun _ => B_Ow_nth_16 ⟨0, rfl, rfl, (md0 _).1, m⟩)))
