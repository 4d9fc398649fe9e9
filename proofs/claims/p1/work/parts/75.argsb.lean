/-! calls with numbers, on the fresh object: tails, tail, reading, reads, took, fool -/
theorem i_1 {x : Int32} (q : ¬ x < 1) : ¬ x ≤ 0 := by
  rw [Int32.lt_iff_toInt_lt] at q
  rw [Int32.le_iff_toInt_le]
  have h1 : (1 : Int32).toInt = 1 := by decide
  have h0 : (0 : Int32).toInt = 0 := by decide
  omega
theorem c_sizeOf0 {d : Nat} {h : PH} {Q : PQ} {x : Int32} (hs : h_sh h 63 = some (0, 6)) (h5 : h_i h 63 5 = 0) (k : Q (some (.int 0)) h) : wpm (d + 1) 76 [.ref 63, .int x] h Q := by
  refine wpm_in P_Ta_sizeOf rfl (by decide) (Nat.not_lt.mpr (Nat.le_of_ble_eq_true rfl)) ?_
  refine B_Ta_sizeOf_0 (fun _ => B_Ta_sizeOf_13 (B_Ta_sizeOf_32 k)) (fun q => B_Ta_sizeOf_5 hs (fun q2 => ?_) (fun _ => B_Ta_sizeOf_13 (B_Ta_sizeOf_32 k)))
  rw [h5] at q2
  exact absurd q2 (i_1 q)
theorem c_indexOf0 {d : Nat} {h : PH} {Q : PQ} {x y : Int32} (hs : h_sh h 63 = some (0, 6)) (h5 : h_i h 63 5 = 0) (k : Q (some (.int (-1))) h) : wpm (d + 2) 77 [.ref 63, .int x, .int y] h Q := by
  refine wpm_in P_Ta_indexOf rfl (by decide) (Nat.not_lt.mpr (Nat.le_of_ble_eq_true rfl)) ?_
  refine B_Ta_indexOf_0 (fun _ => B_Ta_indexOf_13 (B_Ta_indexOf_25 k)) (fun q => B_Ta_indexOf_4 hs (c_sizeOf0 hs h5 ?_))
  exact B_Ta_indexOf_10 (fun q2 => absurd q2 q) (fun _ => B_Ta_indexOf_13 (B_Ta_indexOf_25 k))
set_option maxRecDepth 100000 in
theorem b_Ta : ∃ g g2, fx_run 19 3000 153 [.ref 0] H0 = some (some (.ref 63), g) ∧ h_sh g 63 = some (0, 6) ∧ h_i g 63 5 = 0 ∧ h_sh g 17 = some (0, 12) ∧ fx_run 19 3000 211 [.ref 17] (w_i g 17 0 0) = some (none, g2) ∧ h_sh g2 17 = some (0, 12) ∧ h_i g2 17 33 = 0 ∧ h_i g2 17 32 = 0 ∧ okh g2 = true :=
  ⟨ro 19 3000 153 [.ref 0] H0, ro 19 3000 211 [.ref 17] (w_i (ro 19 3000 153 [.ref 0] H0) 17 0 0), ev_of (by decide +kernel), by decide +kernel, by decide +kernel, by decide +kernel, ev_of (by decide +kernel), by decide +kernel, by decide +kernel, by decide +kernel, by decide +kernel⟩
/-- tails -/
theorem p_8 (a1 : Int32) (L : Nat) (xs : Nat → Int32) : OpI (Inv1 L xs) 20 126 214 [.int a1] 0 := by
  intro h hI
  obtain rfl := hI.1 rfl
  obtain ⟨g, g2, e1, f1, f2, f3, e2, f4, f5, f6, f7⟩ := b_Ta
  have m : wpm 20 214 [.ref 17, .int a1] (sets g (L, xs)) (fun r' h2 => r' = some (.int 0) ∧ Inv1 L xs (0 + 1) h2) := by
    refine wpm_in P_Md_tails rfl (by decide) (Nat.not_lt.mpr (Nat.le_of_ble_eq_true rfl)) ?_
    refine B_Md_tails_0 f3 ?_
    rw [wi_sets]
    refine fx_sc e2 ?_
    refine B_Md_tails_9 (fun _ => B_Md_tails_19 (B_Md_tails_23 f4 (fun _ => B_Md_tails_59 ⟨rfl, (fun z => by cases z), g2, rfl, f7⟩) (fun q => absurd ?_ q))) (fun _ => B_Md_tails_14 f4 ⟨?_, (fun z => by cases z), g2, rfl, f7⟩)
    · show h_i (sets g2 (L, xs)) 17 32 ≤ 0
      rw [hi_sets, f6]
      exact Int32.le_refl _
    · show some (Value.int (h_i (sets g2 (L, xs)) 17 33)) = _
      rw [hi_sets, f5]
  refine wpm_in P_Ow_tails rfl (by decide) (Nat.not_lt.mpr (Nat.le_of_ble_eq_true rfl)) ?_
  refine B_Ow_tails_0 (ow0 _).1 ?_
  refine fx_sc e1 ?_
  refine B_Ow_tails_4 (fun _ => B_Ow_tails_17 f1 (c_sizeOf0 f1 f2 (B_Ow_tails_22 ⟨0, rfl, rfl, f3, m⟩))) (fun _ => B_Ow_tails_10 f1 (B_Ow_tails_22 ?_))
  refine ⟨0, ?_, rfl, f3, m⟩
  show some (Value.int (h_i (sets g (L, xs)) 63 5)) = _
  rw [hi_sets, f2]
/-- tail -/
theorem p_9 (a1 a2 a3 : Int32) (L : Nat) (xs : Nat → Int32) : OpI (Inv1 L xs) 20 127 215 [.int a1, .int a2, .int a3] 0 := by
  intro h hI
  obtain rfl := hI.1 rfl
  obtain ⟨g, g2, e1, f1, f2, f3, e2, f4, f5, f6, f7⟩ := b_Ta
  have m : wpm 20 215 [.ref 17, .int a1, .int a2, .int a3] (sets g (L, xs)) (fun r' h2 => r' = some (.int (-1)) ∧ Inv1 L xs (0 + 1) h2) := by
    refine wpm_in P_Md_tail rfl (by decide) (Nat.not_lt.mpr (Nat.le_of_ble_eq_true rfl)) ?_
    refine B_Md_tail_0 f3 ?_
    rw [wi_sets]
    refine fx_sc e2 ?_
    refine B_Md_tail_9 (B_Md_tail_15 f4 (fun _ => B_Md_tail_85 ⟨rfl, (fun z => by cases z), g2, rfl, f7⟩) (fun q => absurd ?_ q))
    show h_i (sets g2 (L, xs)) 17 32 ≤ 0
    rw [hi_sets, f6]
    exact Int32.le_refl _
  refine wpm_in P_Ow_tail rfl (by decide) (Nat.not_lt.mpr (Nat.le_of_ble_eq_true rfl)) ?_
  refine B_Ow_tail_0 (ow0 _).1 ?_
  refine fx_sc e1 ?_
  refine B_Ow_tail_4 f1 (c_indexOf0 f1 f2 ?_)
  exact B_Ow_tail_13 (fun q => absurd rfl q) (fun _ => B_Ow_tail_21 (B_Ow_tail_45 ⟨-1, rfl, rfl, f3, m⟩))
/-- readers -/
theorem c_isKind {d : Nat} {h : PH} {Q : PQ} {x : Int32} (k : Q (some (.int (if x < 0 ∨ (2 : Int32) < x then 0 else 1))) h) : wpm (d + 1) 49 [.int x] h Q := by
  refine wpm_in P_Re_isKind rfl (by decide) (Nat.not_lt.mpr (Nat.le_of_ble_eq_true rfl)) ?_
  refine B_Re_isKind_0 (fun q => ?_) (fun q => B_Re_isKind_4 (fun q2 => ?_) (fun q2 => ?_))
  · rw [if_pos (Or.inl q)] at k
    exact B_Re_isKind_13 (B_Re_isKind_14 rfl k)
  · rw [if_pos (Or.inr q2)] at k
    exact B_Re_isKind_13 (B_Re_isKind_14 rfl k)
  · rw [if_neg (fun z => z.elim q q2)] at k
    exact B_Re_isKind_9 (B_Re_isKind_14 rfl k)
theorem kd3 {x : Int32} (h : ¬ (x < 0 ∨ (2 : Int32) < x)) : x ∈ [(0 : Int32), 1, 2] := by
  obtain ⟨k, hk, rfl⟩ := small (x := x) (n := 2) (by decide) (fun q => h (Or.inl q)) (fun q => h (Or.inr q))
  rcases (show k = 0 ∨ k = 1 ∨ k = 2 by omega) with rfl | rfl | rfl
  · exact List.mem_of_getElem? (i := 0) rfl
  · exact List.mem_of_getElem? (i := 1) rfl
  · exact List.mem_of_getElem? (i := 2) rfl
theorem p_19 (a1 : Int32) (L : Nat) (xs : Nat → Int32) : OpI (Inv1 L xs) 20 137 235 [.int a1] 0 := by
  by_cases hk : a1 < 0 ∨ (2 : Int32) < a1
  · intro h hI
    obtain rfl := hI.1 rfl
    refine wpm_in P_Ow_reads rfl (by decide) (Nat.not_lt.mpr (Nat.le_of_ble_eq_true rfl)) ?_
    refine B_Ow_reads_0 (c_isKind ?_)
    rw [if_pos hk]
    refine B_Ow_reads_4 (fun _ => B_Ow_reads_26 (B_Ow_reads_28 ⟨-2, rfl, rfl, (md0 _).1, ?_⟩)) (fun q => absurd rfl q)
    refine wpm_in P_Md_reads rfl (by decide) (Nat.not_lt.mpr (Nat.le_of_ble_eq_true rfl)) ?_
    refine B_Md_reads_0 (md0 _).1 (md_in ?_)
    rw [if_pos hk]
    exact B_Md_reads_11 (fun q => absurd rfl q) (fun _ => B_Md_reads_14 ⟨rfl, (fun z => by cases z), fin_th ok_H0⟩)
  · exact op_i (q_19 a1 (kd3 hk)) L xs
theorem p_21 (a1 : Int32) (L : Nat) (xs : Nat → Int32) : OpI (Inv1 L xs) 20 139 241 [.int a1] 0 := by
  by_cases hk : a1 < 0 ∨ (2 : Int32) < a1
  · intro h hI
    obtain rfl := hI.1 rfl
    refine wpm_in P_Ow_fool rfl (by decide) (Nat.not_lt.mpr (Nat.le_of_ble_eq_true rfl)) ?_
    refine B_Ow_fool_0 (c_isKind ?_)
    rw [if_pos hk]
    refine B_Ow_fool_4 (fun q => absurd rfl q) (fun _ => B_Ow_fool_7 ⟨-2, rfl, rfl, (md0 _).1, ?_⟩)
    refine wpm_in P_Md_fool rfl (by decide) (Nat.not_lt.mpr (Nat.le_of_ble_eq_true rfl)) ?_
    refine B_Md_fool_0 (md0 _).1 (md_in ?_)
    rw [if_pos hk]
    exact B_Md_fool_11 (fun q => absurd rfl q) (fun _ => B_Md_fool_14 ⟨rfl, (fun z => by cases z), fin_th ok_H0⟩)
  · exact op_i (q_21 a1 (kd3 hk)) L xs
set_option maxRecDepth 100000 in
theorem b_Re : ∃ g, fx_run 19 3000 156 [.ref 0] H0 = some (some (.ref 63), g) ∧ h_sh g 0 = some (0, 11) ∧ h_r g 0 4 = some 13 ∧ h_r g 0 2 = some 2 ∧ h_sh g 63 = some (0, 4) ∧ h_sh g 13 = some (0, 10) ∧ h_i g 13 1 = 0 ∧ h_sh g 17 = some (0, 12) ∧ h_i g 17 24 = 0 ∧ okh g = true :=
  ⟨ro 19 3000 156 [.ref 0] H0, ev_of (by decide +kernel), by decide +kernel, by decide +kernel, by decide +kernel, by decide +kernel, by decide +kernel, by decide +kernel, by decide +kernel, by decide +kernel, by decide +kernel⟩
theorem m_took {a1 a2 : Int32} {L : Nat} {xs : Nat → Int32} {g : PH} (f6 : h_sh g 17 = some (0, 12)) (f7 : h_i g 17 24 = 0) (f8 : okh g = true) : wpm 20 236 [.ref 17, .int a1, .int a2] (sets g (L, xs)) (fun r' h2 => r' = some (.int (-1)) ∧ Inv1 L xs (0 + 1) h2) := by
  refine wpm_in P_Md_took rfl (by decide) (Nat.not_lt.mpr (Nat.le_of_ble_eq_true rfl)) ?_
  refine B_Md_took_0 f6 (md_in ?_)
  have e : ∀ x, wpx 19 P_Md_took 11 [.ref 17, .int a1, .int a2, .retAddr 0, .retAddr 0, .retAddr 0] [.int x] (w_i (sets g (L, xs)) 17 0 0) (fun r' h2 => r' = some (.int (-1)) ∧ Inv1 L xs (0 + 1) h2) := by
    intro x
    refine B_Md_took_11 (fun _ => B_Md_took_18 ⟨rfl, (fun z => by cases z), fin_th f8⟩) (fun _ => B_Md_took_14 (fun _ => B_Md_took_20 (B_Md_took_25 f6 (fun _ => B_Md_took_71 ⟨rfl, (fun z => by cases z), fin_th f8⟩) (fun q => absurd ?_ q))) (fun _ => B_Md_took_18 ⟨rfl, (fun z => by cases z), fin_th f8⟩))
    rw [wi_ne _ _ (by omega), hi_sets, f7]
    exact Int32.le_refl _
  exact e _
theorem p_20 (a1 a2 : Int32) (L : Nat) (xs : Nat → Int32) : OpI (Inv1 L xs) 20 138 236 [.int a1, .int a2] 0 := by
  intro h hI
  obtain rfl := hI.1 rfl
  obtain ⟨g, e1, f0, f1, f2, f3, f4, f5, f6, f7, f8⟩ := b_Re
  refine wpm_in P_Ow_took rfl (by decide) (Nat.not_lt.mpr (Nat.le_of_ble_eq_true rfl)) ?_
  refine B_Ow_took_0 (c_isKind ?_)
  have e : ∀ x, wpx 19 P_Ow_took 4 [.ref 0, .int a1, .int a2] [.int x] (sets H0 (L, xs)) (fun r h1 => ∃ v : Int32, r = some (.int v) ∧ h_sc h1 = h_sc (sets H0 (L, xs)) ∧ h_sh h1 17 = some (0, 12) ∧ wpm 20 236 (.ref 17 :: [.int a1, .int a2]) h1 (fun r' h2 => r' = some (.int v) ∧ Inv1 L xs (0 + 1) h2)) := by
    intro x
    refine B_Ow_took_4 (fun _ => B_Ow_took_27 (B_Ow_took_28 ⟨-1, rfl, rfl, (md0 _).1, m_took md0'.1 (by decide +kernel) ok_H0⟩)) (fun _ => B_Ow_took_7 (ow0 _).1 (fx_sc e1 ?_))
    refine B_Ow_took_11 f0 f1 f2 f3 ?_
    refine wpm_in P_Re_takenAt rfl (by decide) (Nat.not_lt.mpr (Nat.le_of_ble_eq_true rfl)) ?_
    have fin : wpx 19 P_Ow_took 24 [.ref 0, .int a1, .int a2] ((some (Value.int (-1))).toList ++ []) (sets g (L, xs)) (fun r h1 => ∃ v : Int32, r = some (.int v) ∧ h_sc h1 = h_sc (sets H0 (L, xs)) ∧ h_sh h1 17 = some (0, 12) ∧ wpm 20 236 (.ref 17 :: [.int a1, .int a2]) h1 (fun r' h2 => r' = some (.int v) ∧ Inv1 L xs (0 + 1) h2)) :=
      B_Ow_took_24 (B_Ow_took_28 ⟨-1, rfl, rfl, f6, m_took f6 f7 f8⟩)
    refine B_Re_takenAt_0 (B_Re_takenAt_6 (fun _ => B_Re_takenAt_66 fin) (fun _ => B_Re_takenAt_13 f4 (fun _ => B_Re_takenAt_66 fin) (fun q => absurd ?_ q)))
    rw [hi_sets, f5]
    exact Int32.le_refl _
  exact e _
