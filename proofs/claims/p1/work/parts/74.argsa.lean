/-! calls with numbers, on the fresh object -/
theorem okh_fr {W : Nat → Nat → Prop} {h h' : PH} (f : Fr W h h') : okh h' = okh h := by unfold okh; rw [f.1, f.2.2.1, f.2.2.2.1]
theorem fin_of {s : Nat × (Nat → Int32)} {h : PH} (e : h_sc h = s) (o : okh h = true) : Fin1 s h := by
  subst e
  exact ⟨h, rfl, o⟩
theorem fin_th {s : Nat × (Nat → Int32)} {g : PH} (o : okh g = true) : Fin1 s (w_i (sets g s) 17 0 0) := ⟨w_i g 17 0 0, rfl, (okh_fr (th_fr g)).trans o⟩
set_option maxRecDepth 20000 in
theorem ow0' : OwS H0 := by unfold OwS; decide +kernel
set_option maxRecDepth 20000 in
theorem md0' : MdS H0 := by unfold MdS; decide +kernel
theorem ow0 (s : Nat × (Nat → Int32)) : OwS (sets H0 s) := ⟨ow0'.1, ow0'.2⟩
theorem md_sets {g : PH} (h : MdS g) (s : Nat × (Nat → Int32)) : MdS (sets g s) := ⟨h.1, h.2⟩
theorem md0 (s : Nat × (Nat → Int32)) : MdS (sets H0 s) := md_sets md0' s
theorem i_m1 {x : Int32} (q : ¬ x < 0) : (0 : Int32) - 1 < x := by
  rw [Int32.lt_iff_toInt_lt] at q ⊢
  have h1 : ((0 : Int32) - 1).toInt = -1 := by decide
  have h0 : (0 : Int32).toInt = 0 := by decide
  omega
theorem small {x : Int32} {n : Nat} (hn : n < 1000) (h0 : ¬ x < 0) (h1 : ¬ nI n < x) : ∃ k, k ≤ n ∧ x = nI k := by
  obtain ⟨k, hk, rfl⟩ := nI_of h0
  refine ⟨k, ?_, rfl⟩
  rw [nI_ltI (by omega) (by omega)] at h1
  omega
theorem no_has {d : Nat} {h : PH} {Q : PQ} {x : Int32} (hs : h_sh h 2 = some (0, 3)) (h3 : h_i h 2 3 = 0) (k : Q (some (.int 0)) h) : wpm (d + 1) 34 [.ref 2, .int x] h Q := by
  refine wpm_in P_Gr_has rfl (by decide) (Nat.not_lt.mpr (Nat.le_of_ble_eq_true rfl)) ?_
  refine B_Gr_has_0 (fun _ => B_Gr_has_16 (B_Gr_has_17 rfl k)) (fun q => ?_)
  refine B_Gr_has_4 hs (fun _ => B_Gr_has_16 (B_Gr_has_17 rfl k)) (fun q2 => ?_)
  rw [h3] at q2
  exact absurd (Int32.not_lt.mp q) q2
theorem no_in {x : Int32} : (if x < 0 ∨ (0 : Int32) - 1 < x then (0 : Int32) else 1) = 0 := by
  rw [if_pos]
  by_cases q : x < 0
  · exact Or.inl q
  · exact Or.inr (i_m1 q)
theorem no_grp {d : Nat} {h : PH} {Q : PQ} {x : Int32} (hs : h_sh h 17 = some (0, 12)) (h4 : h_i h 17 4 = 0) (k : Q (some (.int 0)) h) : wpm (d + 2) 174 [.ref 17, .int x] h Q := by
  refine wpm_in P_Md_isGroup rfl (by decide) (Nat.not_lt.mpr (Nat.le_of_ble_eq_true rfl)) ?_
  refine B_Md_isGroup_0 hs ?_
  refine md_in ?_
  rw [h4, no_in]
  exact B_Md_isGroup_11 rfl k
theorem n03 (s : Nat × (Nat → Int32)) : h_i (sets H0 s) 2 3 = 0 := (show h_i H0 2 3 = 0 by decide +kernel)
theorem n174 (s : Nat × (Nat → Int32)) : h_i (w_i (sets H0 s) 17 0 0) 17 4 = 0 := (wi_ne _ _ (by omega)).trans (show h_i H0 17 4 = 0 by decide +kernel)
/-- feed -/
theorem p_0 (a1 a2 a3 a4 a5 : Int32) (L : Nat) (xs : Nat → Int32) : OpI (Inv1 L xs) 20 118 178 [.int a1, .int a2, .int a3, .int a4, .int a5] 0 := by
  intro h hI
  obtain rfl := hI.1 rfl
  refine ow_feed (tp := []) (ow0 _) ⟨(show h_i H0 0 1 = nI 0 by decide +kernel), by decide, fun k v hv => by cases hv⟩ (fun h1 c1 f1 => ⟨_, rfl, f1.2.2.2.2.1, by rw [f1.1]; exact (md0 _).1, ?_⟩)
  refine md_feed (tp := []) (f1.md (md0 _)) ⟨(f1.i 17 12 (by unfold Wct; omega)).trans (show h_i H0 17 12 = nI 0 by decide +kernel), by decide, fun k v hv => by cases hv⟩ (fun h2 c2 f2 => ⟨rfl, (fun z => by cases z), ?_⟩)
  exact fin_of (f2.2.2.2.2.1.trans f1.2.2.2.2.1) ((okh_fr f2).trans ((okh_fr f1).trans ok_H0))
/-- end -/
theorem p_1 (a1 : Int32) (L : Nat) (xs : Nat → Int32) : OpI (Inv1 L xs) 20 119 179 [.int a1] 0 := by
  intro h hI
  obtain rfl := hI.1 rfl
  refine ow_end (tp := []) (ow0 _) ⟨(show h_i H0 0 1 = nI 0 by decide +kernel), by decide, fun k v hv => by cases hv⟩ (fun h1 c1 f1 => ⟨_, rfl, f1.2.2.2.2.1, by rw [f1.1]; exact (md0 _).1, ?_⟩)
  refine md_end (tp := []) (f1.md (md0 _)) ⟨(f1.i 17 12 (by unfold Wct; omega)).trans (show h_i H0 17 12 = nI 0 by decide +kernel), by decide, fun k v hv => by cases hv⟩ (fun h2 c2 f2 => ⟨rfl, (fun z => by cases z), ?_⟩)
  exact fin_of (f2.2.2.2.2.1.trans f1.2.2.2.2.1) ((okh_fr f2).trans ((okh_fr f1).trans ok_H0))
/-- fault -/
theorem p_3 (a1 : Int32) (L : Nat) (xs : Nat → Int32) : OpI (Inv1 L xs) 20 121 196 [.int a1] 0 := by
  intro h hI
  obtain rfl := hI.1 rfl
  refine ow_fault (ow0 _) ⟨_, rfl, rfl, (md0 _).1, ?_⟩
  refine md_fault (md0 _) ⟨?_, (fun z => by cases z), fin_th ok_H0⟩
  rw [show h_i (sets H0 (L, xs)) 8 7 = h_i (sets H0 (L, xs)) 17 17 from (show h_i H0 8 7 = h_i H0 17 17 by decide +kernel), show h_i (sets H0 (L, xs)) 8 8 = h_i (sets H0 (L, xs)) 17 18 from (show h_i H0 8 8 = h_i H0 17 18 by decide +kernel)]
/-- group -/
theorem p_4 (a1 a2 : Int32) (L : Nat) (xs : Nat → Int32) : OpI (Inv1 L xs) 20 122 203 [.int a1, .int a2] 0 := by
  intro h hI
  obtain rfl := hI.1 rfl
  refine wpm_in P_Ow_group rfl (by decide) (Nat.not_lt.mpr (Nat.le_of_ble_eq_true rfl)) ?_
  refine B_Ow_group_0 (ow0 _).1 (or_groups (ow0 _)) (os_groups (ow0 _)) ?_
  refine no_has (os_groups (ow0 _)) (n03 _) ?_
  refine B_Ow_group_8 (fun q => absurd rfl q) (fun _ => B_Ow_group_11 ⟨-1, rfl, rfl, (md0 _).1, ?_⟩)
  refine wpm_in P_Md_group rfl (by decide) (Nat.not_lt.mpr (Nat.le_of_ble_eq_true rfl)) ?_
  refine B_Md_group_0 (md0 _).1 ?_
  refine no_grp (md0 (L, xs)).1 (n174 (L, xs)) ?_
  exact B_Md_group_10 (fun q => absurd rfl q) (fun _ => B_Md_group_13 ⟨rfl, (fun z => by cases z), fin_th ok_H0⟩)
/-- meets -/
theorem p_6 (a1 a2 : Int32) (L : Nat) (xs : Nat → Int32) : OpI (Inv1 L xs) 20 124 205 [.int a1, .int a2] 0 := by
  intro h hI
  obtain rfl := hI.1 rfl
  refine wpm_in P_Ow_meets rfl (by decide) (Nat.not_lt.mpr (Nat.le_of_ble_eq_true rfl)) ?_
  refine B_Ow_meets_0 (ow0 _).1 (or_groups (ow0 _)) (os_groups (ow0 _)) ?_
  refine no_has (os_groups (ow0 _)) (n03 _) ?_
  refine B_Ow_meets_8 (fun _ => B_Ow_meets_34 (B_Ow_meets_35 ⟨-1, rfl, rfl, (md0 _).1, ?_⟩)) (fun q => absurd rfl q)
  refine wpm_in P_Md_meets rfl (by decide) (Nat.not_lt.mpr (Nat.le_of_ble_eq_true rfl)) ?_
  refine B_Md_meets_0 (md0 _).1 ?_
  refine no_grp (md0 (L, xs)).1 (n174 (L, xs)) ?_
  exact B_Md_meets_10 (fun _ => B_Md_meets_21 ⟨rfl, (fun z => by cases z), fin_th ok_H0⟩) (fun q => absurd rfl q)
/-- out -/
theorem p_32 (a1 a2 : Int32) (L : Nat) (xs : Nat → Int32) : OpI (Inv1 L xs) 20 150 280 [.int a1, .int a2] 0 := by
  intro h hI
  obtain rfl := hI.1 rfl
  refine wpm_in P_Ow_out rfl (by decide) (Nat.not_lt.mpr (Nat.le_of_ble_eq_true rfl)) ?_
  refine B_Ow_out_0 (ow0 _).1 (or_groups (ow0 _)) (os_groups (ow0 _)) ?_
  refine no_has (os_groups (ow0 _)) (n03 _) ?_
  refine B_Ow_out_8 (fun _ => B_Ow_out_23 ⟨0, rfl, rfl, (md0 _).1, ?_⟩) (fun q => absurd rfl q)
  refine wpm_in P_Md_out rfl (by decide) (Nat.not_lt.mpr (Nat.le_of_ble_eq_true rfl)) ?_
  refine B_Md_out_0 (md0 _).1 ?_
  refine no_grp (md0 (L, xs)).1 (n174 (L, xs)) ?_
  exact B_Md_out_10 (fun _ => B_Md_out_25 ⟨rfl, (fun z => by cases z), fin_th ok_H0⟩) (fun q => absurd rfl q)
/-- letter -/
theorem p_15 (a1 : Int32) (L : Nat) (xs : Nat → Int32) : OpI (Inv1 L xs) 20 133 229 [.int a1] 0 := by
  intro h hI
  obtain rfl := hI.1 rfl
  refine ow_letter (w := []) (ow0 _) ⟨(by unfold okw; simp), (show h_i H0 13 1 = nI 0 by decide +kernel), fun k x hx => by cases hx⟩ ⟨_, rfl, rfl, (md0 _).1, ?_⟩
  exact md_letter (w := []) (md0 _) ⟨(by unfold okw; simp), (show h_i H0 17 24 = nI 0 by decide +kernel), fun k x hx => by cases hx⟩ ⟨rfl, (fun z => by cases z), fin_th ok_H0⟩

set_option maxRecDepth 100000 in
theorem q_5 : ∀ w ∈ [((0 : Int32), (0 : Int32)), (1, 0), (2, 0), (3, 2), (4, 0), (5, 0), (6, 0), (7, 1), (8, 1)], chk H0 20 3000 123 204 [.int w.1] (.int w.2) = true := by decide +kernel
theorem p_5 (a1 : Int32) (L : Nat) (xs : Nat → Int32) : OpI (Inv1 L xs) 20 123 204 [.int a1] 0 := by
  by_cases hr : a1.toInt < 0 ∨ (0 : Int) + (([52, 60, 68, 76, 84, 92, 100, 105, 121] : List Nat).length : Int) ≤ a1.toInt
  · intro h hI
    obtain rfl := hI.1 rfl
    refine wpm_in P_Ow_about rfl (by decide) (Nat.not_lt.mpr (Nat.le_of_ble_eq_true rfl)) ?_
    refine B_Ow_about_0 (lo := 0) (tg := [52, 60, 68, 76, 84, 92, 100, 105, 121]) (df := 137) rfl (fun _ => B_Ow_about_137 ⟨-1, rfl, rfl, (md0 _).1, ?_⟩) (fun t hn _ => absurd hr hn)
    refine wpm_in P_Md_about rfl (by decide) (Nat.not_lt.mpr (Nat.le_of_ble_eq_true rfl)) ?_
    exact B_Md_about_0 (lo := 0) (tg := [56, 61, 66, 71, 76, 81, 86, 91, 105]) (df := 119) (md0 _).1 rfl (fun _ => B_Md_about_119 ⟨rfl, (fun z => by cases z), fin_th ok_H0⟩) (fun t hn _ => absurd hr hn)
  · obtain ⟨k, hk, rfl⟩ : ∃ k, k ≤ 8 ∧ a1 = nI k := by
      have h1 : ¬ a1 < 0 := by
        rw [Int32.lt_iff_toInt_lt]
        have h0 : (0 : Int32).toInt = 0 := by decide
        omega
      refine small (by decide) h1 ?_
      rw [Int32.lt_iff_toInt_lt]
      have h8 : (nI 8).toInt = 8 := by decide
      simp only [List.length_cons, List.length_nil] at hr
      omega
    rcases (show k = 0 ∨ k = 1 ∨ k = 2 ∨ k = 3 ∨ k = 4 ∨ k = 5 ∨ k = 6 ∨ k = 7 ∨ k = 8 by omega) with rfl | rfl | rfl | rfl | rfl | rfl | rfl | rfl | rfl
    · exact op_i (q_5 (0, 0) (List.mem_of_getElem? (i := 0) rfl)) L xs
    · exact op_i (q_5 (1, 0) (List.mem_of_getElem? (i := 1) rfl)) L xs
    · exact op_i (q_5 (2, 0) (List.mem_of_getElem? (i := 2) rfl)) L xs
    · exact op_i (q_5 (3, 2) (List.mem_of_getElem? (i := 3) rfl)) L xs
    · exact op_i (q_5 (4, 0) (List.mem_of_getElem? (i := 4) rfl)) L xs
    · exact op_i (q_5 (5, 0) (List.mem_of_getElem? (i := 5) rfl)) L xs
    · exact op_i (q_5 (6, 0) (List.mem_of_getElem? (i := 6) rfl)) L xs
    · exact op_i (q_5 (7, 1) (List.mem_of_getElem? (i := 7) rfl)) L xs
    · exact op_i (q_5 (8, 1) (List.mem_of_getElem? (i := 8) rfl)) L xs
/-- share -/
theorem p_13 (a1 : Int32) (L : Nat) (xs : Nat → Int32) : OpL (Inv1 L xs) 20 131 225 [.int a1] 0 := by
  by_cases h0 : a1 = 0
  · subst h0; exact op_l q_13_0 L xs
  · by_cases h1 : a1 = 1
    · subst h1; exact op_l q_13_1 L xs
    · intro h hI
      obtain rfl := hI.1 rfl
      refine wpm_in P_Ow_share rfl (by decide) (Nat.not_lt.mpr (Nat.le_of_ble_eq_true rfl)) ?_
      refine B_Ow_share_0 (fun q => absurd q h0) (fun _ => B_Ow_share_4 (fun q => absurd q h1) (fun _ => B_Ow_share_9 ⟨-1, rfl, rfl, (md0 _).1, ?_⟩))
      refine wpm_in P_Md_share rfl (by decide) (Nat.not_lt.mpr (Nat.le_of_ble_eq_true rfl)) ?_
      refine B_Md_share_0 (md0 _).1 ?_
      refine md_in ?_
      rw [if_pos (show a1 < 0 ∨ (1 : Int32) < a1 from ?_)]
      · exact B_Md_share_11 (fun q => absurd rfl q) (fun _ => B_Md_share_14 ⟨rfl, (fun z => by cases z), fin_th ok_H0⟩)
      · by_cases q1 : a1 < 0
        · exact Or.inl q1
        · by_cases q2 : (1 : Int32) < a1
          · exact Or.inr q2
          · obtain ⟨k, hk, rfl⟩ := small (n := 1) (by decide) q1 q2
            rcases (show k = 0 ∨ k = 1 by omega) with rfl | rfl
            · exact absurd rfl h0
            · exact absurd rfl h1
