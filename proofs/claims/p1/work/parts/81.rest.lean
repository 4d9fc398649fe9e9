/-! border and reading, on the fresh object -/
def ckB (g : PH) (n : Int32) : Bool := match fx_run 19 3000 266 [.ref 17, .int n] (w_i g 17 0 0) with
  | some (none, g3) => decide (h_sh g3 17 = some (0, 12)) && decide (h_i g3 17 71 = 0) && okh g3
  | _ => false
theorem ckB_of {g : PH} {n : Int32} (e : ckB g n = true) : ∃ g3, fx_run 19 3000 266 [.ref 17, .int n] (w_i g 17 0 0) = some (none, g3) ∧ h_sh g3 17 = some (0, 12) ∧ h_i g3 17 71 = 0 ∧ okh g3 = true := by
  unfold ckB at e
  split at e
  next g3 e1 =>
    simp only [Bool.and_eq_true, decide_eq_true_eq] at e
    exact ⟨g3, e1, e.1.1, e.1.2, e.2⟩
  · cases e
def gBo : PH := ro 19 3000 155 [.ref 0] H0
set_option maxRecDepth 100000 in
theorem u_1 : ckB gBo 1 = true := by decide +kernel
set_option maxRecDepth 100000 in
theorem u_2 : ckB gBo 2 = true := by decide +kernel
set_option maxRecDepth 100000 in
theorem u_3 : ckB gBo 3 = true := by decide +kernel
set_option maxRecDepth 100000 in
theorem u_4 : ckB gBo 4 = true := by decide +kernel
set_option maxRecDepth 100000 in
theorem b_Bo : ∃ g, fx_run 19 3000 155 [.ref 0] H0 = some (some (.ref 63), g) ∧ h_sh g 63 = some (0, 0) ∧ h_r g 63 4 = some 67 ∧ h_sh g 67 = some (1, 6) ∧ (∀ n, n < 6 → h_i g 67 n = 0) ∧ h_sh g 17 = some (0, 12) ∧ okh g = true ∧ (∀ n, 1 ≤ n → n ≤ 4 → ckB g (nI n) = true) :=
  ⟨gBo, ev_of (by decide +kernel), by decide +kernel, by decide +kernel, by decide +kernel, by decide +kernel, by decide +kernel, by decide +kernel, fun n h1 h4 => by
    rcases (show n = 1 ∨ n = 2 ∨ n = 3 ∨ n = 4 by omega) with rfl | rfl | rfl | rfl
    · exact u_1
    · exact u_2
    · exact u_3
    · exact u_4⟩
theorem rng4 {x : Int32} (h1 : ¬ x < 1) (h2 : ¬ (4 : Int32) < x) : ∃ k, 1 ≤ k ∧ k ≤ 4 ∧ x = nI k := by
  have h0 : ¬ x < 0 := fun q => h1 (by
    rw [Int32.lt_iff_toInt_lt] at q ⊢
    have e1 : (1 : Int32).toInt = 1 := by decide
    have e0 : (0 : Int32).toInt = 0 := by decide
    omega)
  obtain ⟨k, hk, rfl⟩ := small (x := x) (n := 4) (by decide) h0 h2
  refine ⟨k, ?_, hk, rfl⟩
  rw [show (1 : Int32) = nI 1 from rfl, nI_ltI (by omega) (by omega)] at h1
  omega
theorem c_bsize {d : Nat} {h : PH} {Q : PQ} {x : Int32} (f1 : h_sh h 63 = some (0, 0)) (f2 : h_r h 63 4 = some 67) (f3 : h_sh h 67 = some (1, 6)) (f4 : ∀ n, n < 6 → h_i h 67 n = 0) (k : Q (some (.int 0)) h) : wpm (d + 1) 11 [.ref 63, .int x] h Q := by
  refine wpm_in P_Bo_sizeOf rfl (by decide) (Nat.not_lt.mpr (Nat.le_of_ble_eq_true rfl)) ?_
  refine B_Bo_sizeOf_0 (fun _ => B_Bo_sizeOf_10 (B_Bo_sizeOf_29 k)) (fun q => B_Bo_sizeOf_5 (fun q2 => ?_) (fun _ => B_Bo_sizeOf_10 (B_Bo_sizeOf_29 k)))
  obtain ⟨j, j1, j4, rfl⟩ := rng4 q (Int32.not_lt.mpr q2)
  have e : nI j + 1 = nI (j + 1) := nI_add j 1
  refine B_Bo_sizeOf_14 f1 f2 f3 (by rw [e]; exact vp_in_nI (by omega) (by omega)) (vp_in_nI (by omega) (by omega)) (B_Bo_sizeOf_29 ?_)
  rw [e, nI_clamp (by omega), nI_clamp (by omega), f4 _ (by omega), f4 _ (by omega)]
  exact k
theorem p_29 (a1 a2 a3 : Int32) (L : Nat) (xs : Nat → Int32) : OpI (Inv1 L xs) 20 147 269 [.int a1, .int a2, .int a3] 0 := by
  intro h hI
  obtain rfl := hI.1 rfl
  obtain ⟨g, e1, f1, f2, f3, f4, f5, f6, f7⟩ := b_Bo
  have m : wpm 20 269 [.ref 17, .int a1, .int a2, .int a3] (sets g (L, xs)) (fun r' h2 => r' = some (.int (-1)) ∧ Inv1 L xs (0 + 1) h2) := by
    refine wpm_in P_Md_border rfl (by decide) (Nat.not_lt.mpr (Nat.le_of_ble_eq_true rfl)) ?_
    refine B_Md_border_0 f5 (md_in ?_)
    by_cases h1 : a1 < 1 ∨ (4 : Int32) < a1
    · rw [if_pos h1]
      exact B_Md_border_11 (fun _ => B_Md_border_25 ⟨rfl, (fun z => by cases z), fin_th f6⟩) (fun q => absurd rfl q)
    · rw [if_neg h1]
      obtain ⟨j, j1, j4, rfl⟩ := rng4 (fun q => h1 (Or.inl q)) (fun q => h1 (Or.inr q))
      obtain ⟨g3, e3, k1, k2, k3⟩ := ckB_of (f7 j j1 j4)
      refine B_Md_border_11 (fun q => absurd q (by decide)) (fun _ => B_Md_border_14 (md_in ?_))
      have t : ∀ y : Int32, wpx 19 P_Md_border 22 [.ref 17, .int (nI j), .int a2, .int a3] [.int y] (w_i (sets g (L, xs)) 17 0 0) (fun r' h2 => r' = some (.int (-1)) ∧ Inv1 L xs (0 + 1) h2) := by
        intro y
        refine B_Md_border_22 (fun _ => B_Md_border_27 f5 ?_) (fun _ => B_Md_border_25 ⟨rfl, (fun z => by cases z), fin_th f6⟩)
        rw [wi_sets]
        refine fx_sc e3 ?_
        refine B_Md_border_32 k1 (md_in ?_)
        rw [show h_i (sets ((none : Option Value), g3).2 (L, xs)) 17 71 = 0 from k2, no_in]
        exact B_Md_border_43 (fun q => absurd rfl q) (fun _ => B_Md_border_46 ⟨rfl, (fun z => by cases z), g3, rfl, k3⟩)
      exact t _
  refine wpm_in P_Ow_border rfl (by decide) (Nat.not_lt.mpr (Nat.le_of_ble_eq_true rfl)) ?_
  refine B_Ow_border_0 (ow0 _).1 (fx_sc e1 ?_)
  refine B_Ow_border_4 f1 ?_
  refine wpm_in P_Bo_indexOf rfl (by decide) (Nat.not_lt.mpr (Nat.le_of_ble_eq_true rfl)) ?_
  have fin : wpx 19 P_Ow_border 13 [.ref 0, .int a1, .int a2, .int a3, .ref 63, .retAddr 0] ((some (Value.int (-1))).toList ++ []) (sets g (L, xs)) (fun r h1 => ∃ v : Int32, r = some (.int v) ∧ h_sc h1 = h_sc (sets H0 (L, xs)) ∧ h_sh h1 17 = some (0, 12) ∧ wpm 20 269 (.ref 17 :: [.int a1, .int a2, .int a3]) h1 (fun r' h2 => r' = some (.int v) ∧ Inv1 L xs (0 + 1) h2)) :=
    B_Ow_border_13 (fun q => absurd rfl q) (fun _ => B_Ow_border_21 (B_Ow_border_37 ⟨-1, rfl, rfl, f5, m⟩))
  refine B_Bo_indexOf_0 (fun _ => B_Bo_indexOf_13 (B_Bo_indexOf_25 fin)) (fun q => B_Bo_indexOf_4 f1 (c_bsize f1 f2 f3 f4 ?_))
  exact B_Bo_indexOf_10 (fun q2 => absurd q2 q) (fun _ => B_Bo_indexOf_13 (B_Bo_indexOf_25 fin))
/-- reading -/
theorem lgc1 {x : Int32} (h0 : ¬ x < 0) (h1 : ¬ x = 0) : ¬ lg_cmp x.toInt64 1 < 0 := by
  have e0 : (0 : Int32).toInt = 0 := by decide
  have e1 : (1 : Int64).toInt = 1 := by decide
  have ex : x.toInt64.toInt = x.toInt := Int32.toInt_toInt64 x
  rw [Int32.lt_iff_toInt_lt] at h0
  have h2 : x.toInt ≠ 0 := fun z => h1 (Int32.toInt_inj.mp (by rw [z, e0]))
  unfold lg_cmp
  by_cases g1 : x.toInt64 > 1
  · rw [if_pos g1]; decide
  · rw [if_neg g1]
    have : x.toInt64 = 1 := by
      apply Int64.toInt_inj.mp
      rw [gt_iff_lt, Int64.lt_iff_toInt_lt] at g1
      omega
    rw [if_pos this]
    decide
def RdM (X Y : PH) : Prop := h_sh X 17 = some (0, 12) ∧ h_r X 17 23 = some 26 ∧ h_i X 17 24 = 0 ∧ fx_run 19 3000 227 [.ref 17, .ref 26, .int 0] (w_i X 17 0 0) = some (none, Y) ∧ h_sh Y 17 = some (0, 12) ∧ h_r Y 17 40 = some 36 ∧ h_sh Y 36 = some (4, 801) ∧ h_i Y 17 24 = 0 ∧ okh Y = true
def gRd : PH := ro 18 3000 111 [.ref 13, .ref 2] H0
set_option maxRecDepth 100000 in
theorem b_Rd : ∃ g Y Z, fx_run 18 3000 111 [.ref 13, .ref 2] H0 = some (none, g) ∧ h_sh g 13 = some (0, 10) ∧ h_r g 13 2 = some 15 ∧ h_sh g 15 = some (4, 801) ∧ h_l g 15 0 = 1 ∧ h_i g 13 1 = 0 ∧ RdM g Y ∧ RdM (w_l g 13 4 0) Z :=
  ⟨gRd, ro 19 3000 227 [.ref 17, .ref 26, .int 0] (w_i gRd 17 0 0), ro 19 3000 227 [.ref 17, .ref 26, .int 0] (w_i (w_l gRd 13 4 0) 17 0 0), ev_of (by decide +kernel), by decide +kernel, by decide +kernel, by decide +kernel, by decide +kernel, by decide +kernel,
    ⟨by decide +kernel, by decide +kernel, by decide +kernel, ev_of (by decide +kernel), by decide +kernel, by decide +kernel, by decide +kernel, by decide +kernel, by decide +kernel⟩,
    ⟨by decide +kernel, by decide +kernel, by decide +kernel, ev_of (by decide +kernel), by decide +kernel, by decide +kernel, by decide +kernel, by decide +kernel, by decide +kernel⟩⟩
theorem v801 : vp_in 0 801 := vp_in_nI (n := 0) (by omega) (by omega)
theorem m_reading {a1 a2 : Int32} {X Y : PH} {L : Nat} {xs : Nat → Int32} (hM : RdM X Y) : wpm 20 232 [.ref 17, .int a1, .int a2] (sets X (L, xs)) (fun r' h2 => r' = some (.int (-1)) ∧ Inv1 L xs (0 + 1) h2) := by
  obtain ⟨f1, f2, f3, e1, f4, f5, f6, f7, f8⟩ := hM
  refine wpm_in P_Md_reading rfl (by decide) (Nat.not_lt.mpr (Nat.le_of_ble_eq_true rfl)) ?_
  refine B_Md_reading_0 f1 f2 ?_
  rw [wi_ne _ _ (by omega), hi_sets, f3, wi_sets]
  refine fx_sc e1 ?_
  have fin : wpx 19 P_Md_reading 37 [.ref 17, .int a1, .int a2, .retAddr 0, .retAddr 0, .retAddr 0] [] (sets Y (L, xs)) (fun r' h2 => r' = some (.int (-1)) ∧ Inv1 L xs (0 + 1) h2) := B_Md_reading_37 ⟨rfl, (fun z => by cases z), Y, rfl, f8⟩
  refine B_Md_reading_17 (fun _ => fin) (fun _ => B_Md_reading_21 f4 f5 f6 v801 (fun _ => fin) (fun _ => B_Md_reading_33 (fun q => ?_) (fun _ => fin)))
  refine B_Md_reading_39 f4 (B_Md_reading_50 (fun q2 => absurd q (Int32.not_le.mpr q2)) (fun _ => B_Md_reading_56 f4 (fun q2 => absurd ?_ q2) (fun _ => B_Md_reading_67 ⟨rfl, (fun z => by cases z), w_i Y 17 41 0, rfl, (okh_wi _ _ _ _).trans f8⟩)))
  rw [wi_eq, wi_ne _ _ (by omega)]
  exact f7.symm
theorem p_17 (a1 a2 : Int32) (L : Nat) (xs : Nat → Int32) : OpI (Inv1 L xs) 20 135 232 [.int a1, .int a2] 0 := by
  intro h hI
  obtain rfl := hI.1 rfl
  obtain ⟨g, Y, Z, e1, f1, f2, f3, f4, f5, M1, M2⟩ := b_Rd
  have m1 := m_reading (a1 := a1) (a2 := a2) (L := L) (xs := xs) M1
  have m2 := m_reading (a1 := a1) (a2 := a2) (L := L) (xs := xs) M2
  refine wpm_in P_Ow_reading rfl (by decide) (Nat.not_lt.mpr (Nat.le_of_ble_eq_true rfl)) ?_
  refine B_Ow_reading_0 (ow0 _).1 (or_theWord (ow0 _)) (or_groups (ow0 _)) (os_theWord (ow0 _)) ?_
  refine wpm_in P_Wo_groupOfReading rfl (by decide) (Nat.not_lt.mpr (Nat.le_of_ble_eq_true rfl)) ?_
  refine B_Wo_groupOfReading_0 (os_theWord (ow0 _)) (fx_sc e1 ?_)
  have no : wpx 18 P_Wo_groupOfReading 25 [.ref 13, .ref 2, .int a1, .int a2, .retAddr 0, .retAddr 0, .retAddr 0] [] (sets g (L, xs)) (fun r h' => wpx 19 P_Ow_reading 13 [.ref 0, .int a1, .int a2] (r.toList ++ []) h' (fun r h1 => ∃ v : Int32, r = some (.int v) ∧ h_sc h1 = h_sc (sets H0 (L, xs)) ∧ h_sh h1 17 = some (0, 12) ∧ wpm 20 232 (.ref 17 :: [.int a1, .int a2]) h1 (fun r' h2 => r' = some (.int v) ∧ Inv1 L xs (0 + 1) h2))) :=
    B_Wo_groupOfReading_25 (B_Ow_reading_13 ⟨-1, rfl, rfl, M1.1, m1⟩)
  refine B_Wo_groupOfReading_5 (fun _ => no) (fun q0 => B_Wo_groupOfReading_9 (fun _ => no) (fun q1 => B_Wo_groupOfReading_13 f1 f2 f3 v801 (fun q2 => ?_) (fun _ => no)))
  rw [show h_l (sets ((none : Option Value), g).2 (L, xs)) 15 0 = 1 from f4] at q2
  have z0 : a1 = 0 := by
    by_cases z : a1 = 0
    · exact z
    · exact absurd q2 (lgc1 q0 z)
  subst z0
  refine B_Wo_groupOfReading_27 f1 ?_
  rw [show (0 : Int32).toInt64 = 0 from rfl, wl_sets]
  refine B_Wo_groupOfReading_39 (fun q => absurd q q1) (fun _ => B_Wo_groupOfReading_45 f1 (fun _ => ?_) (fun q => absurd ?_ q))
  · exact B_Wo_groupOfReading_96 (B_Ow_reading_13 ⟨-1, rfl, rfl, M2.1, m2⟩)
  · show h_i (sets (w_l g 13 4 0) (L, xs)) 13 1 ≤ 0
    rw [hi_sets, show h_i (w_l g 13 4 0) 13 1 = h_i g 13 1 from rfl, f5]
    exact Int32.le_refl _
