/-! words, on the fresh object: the class's census, the model's count -/
def gCe : PH := ro 19 3000 154 [.ref 0] H0
def gMw : PH := ro 19 3000 256 [.ref 17] (w_i gCe 17 0 0)
def ckW (g : PH) (n : Int32) (v : Int64) : Bool := match fx_run 19 3000 255 [.ref 17, .int n] g with
  | some (none, g3) => decide (h_sh g3 17 = some (0, 12)) && decide (h_l g3 17 61 = v) && decide (h_l g3 17 62 = 0) && okh g3
  | _ => false
theorem ckW_of {g : PH} {n : Int32} {v : Int64} (e : ckW g n v = true) : ∃ g3, fx_run 19 3000 255 [.ref 17, .int n] g = some (none, g3) ∧ h_sh g3 17 = some (0, 12) ∧ h_l g3 17 61 = v ∧ h_l g3 17 62 = 0 ∧ okh g3 = true := by
  unfold ckW at e
  split at e
  next g3 e1 =>
    simp only [Bool.and_eq_true, decide_eq_true_eq] at e
    exact ⟨g3, e1, e.1.1.1, e.1.1.2, e.1.2, e.2⟩
  · cases e
set_option maxRecDepth 100000 in
theorem w_0 : ckW gMw 0 1 = true := by decide +kernel
set_option maxRecDepth 100000 in
theorem w_1 : ckW gMw 1 0 = true := by decide +kernel
set_option maxRecDepth 100000 in
theorem w_2 : ckW gMw 2 0 = true := by decide +kernel
set_option maxRecDepth 100000 in
theorem w_3 : ckW gMw 3 0 = true := by decide +kernel
set_option maxRecDepth 100000 in
theorem w_4 : ckW gMw 4 0 = true := by decide +kernel
set_option maxRecDepth 100000 in
theorem w_5 : ckW gMw 5 0 = true := by decide +kernel
set_option maxRecDepth 100000 in
theorem w_6 : ckW gMw 6 0 = true := by decide +kernel
set_option maxRecDepth 100000 in
theorem w_7 : ckW gMw 7 0 = true := by decide +kernel
set_option maxRecDepth 100000 in
theorem w_8 : ckW gMw 8 0 = true := by decide +kernel
set_option maxRecDepth 100000 in
theorem w_9 : ckW gMw 9 0 = true := by decide +kernel
set_option maxRecDepth 100000 in
theorem w_10 : ckW gMw 10 0 = true := by decide +kernel
def wv (n : Nat) : Int64 := if n = 0 then 1 else 0
theorem w_all (n : Nat) (hn : n ≤ 10) : ckW gMw (nI n) (wv n) = true := by
  match n, hn with
  | 0, _ => exact w_0
  | 1, _ => exact w_1
  | 2, _ => exact w_2
  | 3, _ => exact w_3
  | 4, _ => exact w_4
  | 5, _ => exact w_5
  | 6, _ => exact w_6
  | 7, _ => exact w_7
  | 8, _ => exact w_8
  | 9, _ => exact w_9
  | 10, _ => exact w_10
  | n + 11, hn => exact absurd hn (by omega)
set_option maxRecDepth 100000 in
theorem b_Ce : ∃ g g2, fx_run 19 3000 154 [.ref 0] H0 = some (some (.ref 63), g) ∧ h_sh g 63 = some (0, 1) ∧ h_r g 63 2 = some 66 ∧ h_sh g 66 = some (4, 704) ∧ h_r g 63 3 = some 67 ∧ h_sh g 67 = some (4, 704) ∧ (∀ n, n < 11 → h_l g 66 n = wv n) ∧ (∀ n, n < 11 → h_l g 67 n = wv n) ∧ h_sh g 17 = some (0, 12) ∧ okh g = true ∧ fx_run 19 3000 256 [.ref 17] (w_i g 17 0 0) = some (none, g2) ∧ h_sh g2 17 = some (0, 12) ∧ (∀ n, n ≤ 10 → ckW g2 (nI n) (wv n) = true) :=
  ⟨gCe, gMw, ev_of (by decide +kernel), by decide +kernel, by decide +kernel, by decide +kernel, by decide +kernel, by decide +kernel, by decide +kernel, by decide +kernel, by decide +kernel, by decide +kernel, ev_of (by decide +kernel), by decide +kernel, w_all⟩
theorem vin11 {k : Nat} (hk : k ≤ 10) : vp_in (nI k) 704 := vp_in_nI (by omega) (by omega)
theorem c_amount {d k : Nat} {x : Int32} {h : PH} {Q : PQ} (hk : k ≤ 10) (f1 : h_sh h 63 = some (0, 1)) (f2 : h_r h 63 2 = some 66) (f3 : h_sh h 66 = some (4, 704)) (f4 : h_r h 63 3 = some 67) (f5 : h_sh h 67 = some (4, 704)) (f6 : h_l h 66 k = wv k) (f7 : h_l h 67 k = wv k) (hq : Q (some (.long (if x = 0 then wv k else if x = 1 then wv k else wv k - wv k))) h) : wpm (d + 1) 22 [.ref 63, .int (nI k), .int x] h Q := by
  refine wpm_in P_Ce_amount rfl (by decide) (Nat.not_lt.mpr (Nat.le_of_ble_eq_true rfl)) ?_
  have c0 : ¬ nI k < 0 := Int32.not_lt.mpr (nI_pos' (by omega))
  have c1 : nI k ≤ (10 : Int32) := by
    rw [show (10 : Int32) = nI 10 from rfl, nI_leI (by omega) (by omega)]
    exact hk
  refine B_Ce_amount_0 (fun q => absurd q c0) (fun _ => B_Ce_amount_4 (fun _ => ?_) (fun q => absurd c1 q))
  refine B_Ce_amount_14 (fun q0 => ?_) (fun q0 => ?_)
  · rw [if_neg q0] at hq
    refine B_Ce_amount_25 (fun q1 => ?_) (fun q1 => ?_)
    · rw [if_neg q1] at hq
      refine B_Ce_amount_39 f1 f2 f3 (vin11 hk) f4 f5 (vin11 hk) (B_Ce_amount_52 ?_)
      rw [nI_clamp (by omega), f6, f7]
      exact hq
    · rw [if_pos q1] at hq
      refine B_Ce_amount_30 f1 f4 f5 (vin11 hk) (B_Ce_amount_52 ?_)
      rw [nI_clamp (by omega), f7]
      exact hq
  · rw [if_pos q0] at hq
    refine B_Ce_amount_18 f1 f2 f3 (vin11 hk) ?_
    rw [nI_clamp (by omega), f6]
    exact hq
theorem p_25 (a1 a2 : Int32) (L : Nat) (xs : Nat → Int32) : OpL (Inv1 L xs) 20 143 257 [.int a1, .int a2] 0 := by
  intro h hI
  obtain rfl := hI.1 rfl
  by_cases h1 : a1 < 0 ∨ (10 : Int32) < a1
  · have m : wpm 20 257 [.ref 17, .int a1, .int a2] (sets H0 (L, xs)) (fun r' h2 => r' = some (.long (-1)) ∧ Inv1 L xs (0 + 1) h2) := by
      refine wpm_in P_Md_words rfl (by decide) (Nat.not_lt.mpr (Nat.le_of_ble_eq_true rfl)) ?_
      refine B_Md_words_0 (md0 _).1 (md_in ?_)
      rw [if_pos h1]
      exact B_Md_words_12 (fun _ => B_Md_words_24 ⟨rfl, (fun z => by cases z), fin_th ok_H0⟩) (fun q => absurd rfl q)
    refine wpm_in P_Ow_words rfl (by decide) (Nat.not_lt.mpr (Nat.le_of_ble_eq_true rfl)) ?_
    exact B_Ow_words_0 (fun _ => B_Ow_words_19 ⟨-1, rfl, rfl, (md0 _).1, m⟩) (fun q1 => B_Ow_words_4 (fun _ => B_Ow_words_19 ⟨-1, rfl, rfl, (md0 _).1, m⟩) (fun q2 => absurd h1 (fun z => z.elim q1 q2)))
  · by_cases h2 : a2 < 0 ∨ (2 : Int32) < a2
    · have m : wpm 20 257 [.ref 17, .int a1, .int a2] (sets H0 (L, xs)) (fun r' h2 => r' = some (.long (-1)) ∧ Inv1 L xs (0 + 1) h2) := by
        refine wpm_in P_Md_words rfl (by decide) (Nat.not_lt.mpr (Nat.le_of_ble_eq_true rfl)) ?_
        refine B_Md_words_0 (md0 _).1 (md_in ?_)
        rw [if_neg h1]
        refine B_Md_words_12 (fun q => absurd q (by decide)) (fun _ => B_Md_words_15 (md_in ?_))
        rw [if_pos h2]
        exact B_Md_words_21 (fun q => absurd rfl q) (fun _ => B_Md_words_24 ⟨rfl, (fun z => by cases z), fin_th ok_H0⟩)
      refine wpm_in P_Ow_words rfl (by decide) (Nat.not_lt.mpr (Nat.le_of_ble_eq_true rfl)) ?_
      refine B_Ow_words_0 (fun q => absurd (Or.inl q) h1) (fun _ => B_Ow_words_4 (fun q => absurd (Or.inr q) h1) (fun _ => ?_))
      exact B_Ow_words_10 (fun _ => B_Ow_words_19 ⟨-1, rfl, rfl, (md0 _).1, m⟩) (fun q1 => B_Ow_words_14 (fun q2 => absurd h2 (fun z => z.elim q1 (fun w => absurd q2 (Int32.not_le.mpr w)))) (fun _ => B_Ow_words_19 ⟨-1, rfl, rfl, (md0 _).1, m⟩))
    · obtain ⟨k, hk, rfl⟩ := small (x := a1) (n := 10) (by decide) (fun q => h1 (Or.inl q)) (fun q => h1 (Or.inr q))
      obtain ⟨g, g2, e1, f1, f2, f3, f4, f5, f6, f7, f8, f9, e2, f10, e3⟩ := b_Ce
      obtain ⟨g3, e4, j1, j2, j3, j4⟩ := ckW_of (e3 k hk)
      have m : wpm 20 257 [.ref 17, .int (nI k), .int a2] (sets g (L, xs)) (fun r' h2 => r' = some (.long (if a2 = 0 then wv k else if a2 = 1 then wv k else wv k - wv k)) ∧ Inv1 L xs (0 + 1) h2) := by
        refine wpm_in P_Md_words rfl (by decide) (Nat.not_lt.mpr (Nat.le_of_ble_eq_true rfl)) ?_
        refine B_Md_words_0 f8 (md_in ?_)
        rw [if_neg h1]
        refine B_Md_words_12 (fun q => absurd q (by decide)) (fun _ => B_Md_words_15 (md_in ?_))
        rw [if_neg h2]
        refine B_Md_words_21 (fun _ => ?_) (fun q => absurd q (by decide))
        refine B_Md_words_28 f8 ?_
        rw [wi_sets]
        refine fx_sc e2 ?_
        refine B_Md_words_32 f10 (fx_sc e4 ?_)
        refine B_Md_words_37 (fun q0 => ?_) (fun q0 => ?_)
        · rw [if_neg q0]
          refine B_Md_words_48 (fun q1 => ?_) (fun q1 => ?_)
          · rw [if_neg q1]
            refine B_Md_words_65 j1 (B_Md_words_69 ⟨?_, (fun z => by cases z), g3, rfl, j4⟩)
            show some (Value.long (h_l (sets g3 (L, xs)) 17 62)) = _
            rw [hl_sets, j3]
            rw [Int64.sub_self]
          · rw [if_pos q1]
            refine B_Md_words_53 j1 (B_Md_words_69 ⟨?_, (fun z => by cases z), g3, rfl, j4⟩)
            show some (Value.long (h_l (sets g3 (L, xs)) 17 61 - h_l (sets g3 (L, xs)) 17 62)) = _
            rw [hl_sets, hl_sets, j2, j3, Int64.sub_zero]
        · rw [if_pos q0]
          refine B_Md_words_41 j1 (B_Md_words_69 ⟨?_, (fun z => by cases z), g3, rfl, j4⟩)
          show some (Value.long (h_l (sets g3 (L, xs)) 17 61)) = _
          rw [hl_sets, j2]
      refine wpm_in P_Ow_words rfl (by decide) (Nat.not_lt.mpr (Nat.le_of_ble_eq_true rfl)) ?_
      refine B_Ow_words_0 (fun q => absurd (Or.inl q) h1) (fun _ => B_Ow_words_4 (fun q => absurd (Or.inr q) h1) (fun _ => ?_))
      refine B_Ow_words_10 (fun q => absurd (Or.inl q) h2) (fun _ => B_Ow_words_14 (fun _ => ?_) (fun q => absurd (Or.inr (Int32.not_le.mp q)) h2))
      refine B_Ow_words_23 (ow0 _).1 (fx_sc e1 ?_)
      refine B_Ow_words_27 f1 (c_amount hk f1 f2 f3 f4 f5 ((hl_sets _ _ _ _).trans (f6 k (by omega))) ((hl_sets _ _ _ _).trans (f7 k (by omega))) ?_)
      exact B_Ow_words_32 ⟨_, rfl, rfl, f8, m⟩
