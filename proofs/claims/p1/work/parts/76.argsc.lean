/-! calls with numbers, on the fresh object: words, drawn, borders, cure, mend, reading -/
set_option maxRecDepth 100000 in
theorem b_bc : ∃ g, fx_run 19 3000 282 [.int (h_i H0 2 5)] H0 = some (some (.int 0), g) ∧ h_sh g 17 = some (0, 12) ∧ h_i g 17 6 = 0 ∧ okh g = true :=
  ⟨ro 19 3000 282 [.int (h_i H0 2 5)] H0, ev_of (by decide +kernel), by decide +kernel, by decide +kernel, by decide +kernel⟩
/-- drawn -/
theorem p_24 (a1 a2 : Int32) (L : Nat) (xs : Nat → Int32) : OpI (Inv1 L xs) 20 142 246 [.int a1, .int a2] 0 := by
  intro h hI
  obtain rfl := hI.1 rfl
  obtain ⟨g, e1, f1, f2, f3⟩ := b_bc
  have m : wpm 20 246 [.ref 17, .int a1, .int a2] (sets g (L, xs)) (fun r' h2 => r' = some (.int (-1)) ∧ Inv1 L xs (0 + 1) h2) := by
    refine wpm_in P_Md_drawn rfl (by decide) (Nat.not_lt.mpr (Nat.le_of_ble_eq_true rfl)) ?_
    refine B_Md_drawn_0 f1 (md_in ?_)
    have e : ∀ x, wpx 19 P_Md_drawn 11 [.ref 17, .int a1, .int a2, .retAddr 0, .retAddr 0, .retAddr 0, .retAddr 0] [.int x] (w_i (sets g (L, xs)) 17 0 0) (fun r' h2 => r' = some (.int (-1)) ∧ Inv1 L xs (0 + 1) h2) := by
      intro x
      refine B_Md_drawn_11 (fun _ => B_Md_drawn_21 ⟨rfl, (fun z => by cases z), fin_th f3⟩) (fun _ => B_Md_drawn_14 f1 (fun q => absurd ?_ q) (fun _ => B_Md_drawn_21 ⟨rfl, (fun z => by cases z), fin_th f3⟩))
      rw [wi_ne _ _ (by omega), hi_sets, f2]
    exact e _
  refine wpm_in P_Ow_drawn rfl (by decide) (Nat.not_lt.mpr (Nat.le_of_ble_eq_true rfl)) ?_
  refine B_Ow_drawn_0 (ow0 _).1 (or_groups (ow0 _)) (os_groups (ow0 _)) ?_
  refine fx_sc e1 ?_
  exact B_Ow_drawn_10 (fun _ => B_Ow_drawn_26 ⟨-1, rfl, rfl, f1, m⟩) (fun q => absurd (by decide) q)
/-- borders -/
theorem p_28 (a1 : Int32) (L : Nat) (xs : Nat → Int32) : OpI (Inv1 L xs) 20 146 268 [.int a1] 0 := by
  by_cases h1 : a1 < 1 ∨ (4 : Int32) < a1
  · intro h hI
    obtain rfl := hI.1 rfl
    have m : wpm 20 268 [.ref 17, .int a1] (sets H0 (L, xs)) (fun r' h2 => r' = some (.int (-1)) ∧ Inv1 L xs (0 + 1) h2) := by
      refine wpm_in P_Md_borders rfl (by decide) (Nat.not_lt.mpr (Nat.le_of_ble_eq_true rfl)) ?_
      refine B_Md_borders_0 (md0 _).1 (md_in ?_)
      rw [if_pos h1]
      exact B_Md_borders_11 (fun q => absurd rfl q) (fun _ => B_Md_borders_14 ⟨rfl, (fun z => by cases z), fin_th ok_H0⟩)
    refine wpm_in P_Ow_borders rfl (by decide) (Nat.not_lt.mpr (Nat.le_of_ble_eq_true rfl)) ?_
    refine B_Ow_borders_0 (fun _ => B_Ow_borders_10 (B_Ow_borders_22 ⟨-1, rfl, rfl, (md0 _).1, m⟩)) (fun q1 => B_Ow_borders_5 (fun q2 => absurd h1 (fun z => z.elim q1 (fun w => absurd q2 (Int32.not_le.mpr w)))) (fun _ => B_Ow_borders_10 (B_Ow_borders_22 ⟨-1, rfl, rfl, (md0 _).1, m⟩)))
  · have h0 : ¬ a1 < 0 := fun q => h1 (Or.inl (by
      rw [Int32.lt_iff_toInt_lt] at q ⊢
      have e1 : (1 : Int32).toInt = 1 := by decide
      have e0 : (0 : Int32).toInt = 0 := by decide
      omega))
    obtain ⟨k, hk, rfl⟩ := small (x := a1) (n := 4) (by decide) h0 (fun q => h1 (Or.inr q))
    rcases (show k = 0 ∨ k = 1 ∨ k = 2 ∨ k = 3 ∨ k = 4 by omega) with rfl | rfl | rfl | rfl | rfl
    · exact absurd (Or.inl (by decide)) h1
    · exact op_i (q_28 1 (List.mem_of_getElem? (i := 0) rfl)) L xs
    · exact op_i (q_28 2 (List.mem_of_getElem? (i := 1) rfl)) L xs
    · exact op_i (q_28 3 (List.mem_of_getElem? (i := 2) rfl)) L xs
    · exact op_i (q_28 4 (List.mem_of_getElem? (i := 3) rfl)) L xs
set_option maxRecDepth 100000 in
theorem b_Cu : ∃ g, fx_run 19 3000 157 [.ref 0] H0 = some (some (.ref 63), g) ∧ h_sh g 0 = some (0, 11) ∧ h_r g 0 2 = some 2 ∧ h_sh g 63 = some (0, 2) ∧ h_sh g 17 = some (0, 12) ∧ okh g = true :=
  ⟨ro 19 3000 157 [.ref 0] H0, ev_of (by decide +kernel), by decide +kernel, by decide +kernel, by decide +kernel, by decide +kernel, by decide +kernel⟩
theorem c_fewest0 {d : Nat} {h : PH} {Q : PQ} {x : Int32} {o : Nat} (hx : x < 0 ∨ (2 : Int32) < x) (k : Q (some (.int (-1))) h) : wpm (d + 1) 26 [.ref o, .ref 2, .int x] h Q := by
  refine wpm_in P_Cu_fewest rfl (by decide) (Nat.not_lt.mpr (Nat.le_of_ble_eq_true rfl)) ?_
  refine B_Cu_fewest_0 (fun _ => B_Cu_fewest_9 k) (fun q1 => B_Cu_fewest_4 (fun q2 => ?_) (fun _ => B_Cu_fewest_9 k))
  refine absurd hx (fun z => z.elim q1 (fun w => ?_))
  rw [Int32.lt_iff_toInt_lt] at w q2
  have e1 : (2 : Int32).toInt = 2 := by decide
  have e0 : (3 : Int32).toInt = 3 := by decide
  omega
/-- cure -/
theorem p_30 (a1 : Int32) (L : Nat) (xs : Nat → Int32) : OpI (Inv1 L xs) 20 148 277 [.int a1] 0 := by
  by_cases hk : a1 < 0 ∨ (2 : Int32) < a1
  · intro h hI
    obtain rfl := hI.1 rfl
    obtain ⟨g, e1, f0, f1, f2, f3, f4⟩ := b_Cu
    have m : wpm 20 277 [.ref 17, .int a1] (sets g (L, xs)) (fun r' h2 => r' = some (.int (-1)) ∧ Inv1 L xs (0 + 1) h2) := by
      refine wpm_in P_Md_cure rfl (by decide) (Nat.not_lt.mpr (Nat.le_of_ble_eq_true rfl)) ?_
      refine B_Md_cure_0 f3 (md_in ?_)
      rw [if_pos hk]
      exact B_Md_cure_11 (fun _ => B_Md_cure_22 (B_Md_cure_23 ⟨rfl, (fun z => by cases z), fin_th f4⟩)) (fun q => absurd rfl q)
    refine wpm_in P_Ow_cure rfl (by decide) (Nat.not_lt.mpr (Nat.le_of_ble_eq_true rfl)) ?_
    refine B_Ow_cure_0 (ow0 _).1 (fx_sc e1 ?_)
    refine B_Ow_cure_4 f0 f1 f2 (c_fewest0 hk ?_)
    exact B_Ow_cure_12 ⟨-1, rfl, rfl, f3, m⟩
  · exact op_i (q_30 a1 (kd3 hk)) L xs
/-- mend -/
theorem p_31 (a1 : Int32) (L : Nat) (xs : Nat → Int32) : OpI (Inv1 L xs) 20 149 279 [.int a1] 0 := by
  by_cases hk : a1 < 0 ∨ (2 : Int32) < a1
  · intro h hI
    obtain rfl := hI.1 rfl
    obtain ⟨g, e1, f0, f1, f2, f3, f4⟩ := b_Cu
    have m : wpm 20 279 [.ref 17, .int a1] (sets g (L, xs)) (fun r' h2 => r' = some (.int (-1)) ∧ Inv1 L xs (0 + 1) h2) := by
      refine wpm_in P_Md_mend rfl (by decide) (Nat.not_lt.mpr (Nat.le_of_ble_eq_true rfl)) ?_
      refine B_Md_mend_0 f3 (md_in ?_)
      rw [if_pos hk]
      exact B_Md_mend_11 (fun _ => B_Md_mend_22 (B_Md_mend_23 (fun q => absurd q (by decide)) (fun _ => B_Md_mend_28 ⟨rfl, (fun z => by cases z), fin_th f4⟩))) (fun q => absurd rfl q)
    refine wpm_in P_Ow_mend rfl (by decide) (Nat.not_lt.mpr (Nat.le_of_ble_eq_true rfl)) ?_
    refine B_Ow_mend_0 (ow0 _).1 (fx_sc e1 ?_)
    refine B_Ow_mend_4 f0 f1 f2 (c_fewest0 hk ?_)
    exact B_Ow_mend_12 (fun q => absurd q (by decide)) (fun _ => B_Ow_mend_17 ⟨-1, rfl, rfl, f3, m⟩)
  · exact op_i (q_31 a1 (kd3 hk)) L xs
