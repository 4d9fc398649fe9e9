/-! stretches of methods -/
theorem B_Re_init_0 {d : Nat} {h : PH} {Q : PQ} {r0 : Nat} (hs0 : h_sh (h_new h (2, 14) 14) r0 = some (0, 4)) (hs1 : h_sh (h_new (w_r (h_new h (2, 14) 14) r0 0 (some (h_ct h))) (2, 14) 14) r0 = some (0, 4)) (hs2 : h_sh (h_new (w_r (h_new (w_r (h_new h (2, 14) 14) r0 0 (some (h_ct h))) (2, 14) 14) r0 2 (some (h_ct (w_r (h_new h (2, 14) 14) r0 0 (some (h_ct h)))))) (3, 8) 8) r0 = some (0, 4)) (k : wpx d P_Re_init 28 [.ref r0] [] (w_r (h_new (w_r (h_new (w_r (h_new h (2, 14) 14) r0 0 (some (h_ct h))) (2, 14) 14) r0 2 (some (h_ct (w_r (h_new h (2, 14) 14) r0 0 (some (h_ct h)))))) (3, 8) 8) r0 4 (some (h_ct (w_r (h_new (w_r (h_new h (2, 14) 14) r0 0 (some (h_ct h))) (2, 14) 14) r0 2 (some (h_ct (w_r (h_new h (2, 14) 14) r0 0 (some (h_ct h))))))))) Q) : wpx d P_Re_init 0 [.ref r0] [] h Q := by
  refine st_aload (pc' := 1) rfl rfl rfl ?_
  refine st_oinit (pc' := 4) rfl rfl (Nat.le_of_ble_eq_true rfl) ?_
  refine st_aload (pc' := 5) rfl rfl rfl ?_
  refine st_ipush (pc' := 7) (v := 14) rfl rfl (by decide) ?_
  refine st_newB rfl (by decide) (j := 14) (by decide) (pc' := 9) rfl ?_
  refine st_putf (h' := w_r (h_new h (2, 14) 14) r0 0 (some (h_ct h))) (Or.inr (Or.inr rfl)) rfl hs0 rfl rfl rfl (pc' := 12) rfl ?_
  refine st_aload (pc' := 13) rfl rfl rfl ?_
  refine st_ipush (pc' := 15) (v := 14) rfl rfl (by decide) ?_
  refine st_newB rfl (by decide) (j := 14) (by decide) (pc' := 17) rfl ?_
  refine st_putf (h' := w_r (h_new (w_r (h_new h (2, 14) 14) r0 0 (some (h_ct h))) (2, 14) 14) r0 2 (some (h_ct (w_r (h_new h (2, 14) 14) r0 0 (some (h_ct h)))))) (Or.inr (Or.inr rfl)) rfl hs1 rfl rfl rfl (pc' := 20) rfl ?_
  refine st_aload (pc' := 21) rfl rfl rfl ?_
  refine st_ipush (pc' := 23) (v := 8) rfl rfl (by decide) ?_
  refine st_newZ rfl (by decide) (j := 8) (by decide) (pc' := 25) rfl ?_
  refine st_putf (h' := w_r (h_new (w_r (h_new (w_r (h_new h (2, 14) 14) r0 0 (some (h_ct h))) (2, 14) 14) r0 2 (some (h_ct (w_r (h_new h (2, 14) 14) r0 0 (some (h_ct h)))))) (3, 8) 8) r0 4 (some (h_ct (w_r (h_new (w_r (h_new h (2, 14) 14) r0 0 (some (h_ct h))) (2, 14) 14) r0 2 (some (h_ct (w_r (h_new h (2, 14) 14) r0 0 (some (h_ct h))))))))) (Or.inr (Or.inr rfl)) rfl hs2 rfl rfl rfl (pc' := 28) rfl ?_
  exact k
theorem B_Re_init_28 {d : Nat} {h : PH} {Q : PQ} {r0 : Nat}  (k : Q none h) : wpx d P_Re_init 28 [.ref r0] [] h Q := by
  exact st_return rfl k
theorem B_Re_isKind_0 {d : Nat} {h : PH} {Q : PQ} {x0 : Int32}  (kt : x0 < 0 → wpx d P_Re_isKind 13 [.int x0] [] h Q) (kf : ¬ (x0 < 0) → wpx d P_Re_isKind 4 [.int x0] [] h Q) : wpx d P_Re_isKind 0 [.int x0] [] h Q := by
  refine st_iload (pc' := 1) rfl rfl rfl ?_
  exact st_if_lt (pc' := 4) rfl rfl kt kf
theorem B_Re_isKind_4 {d : Nat} {h : PH} {Q : PQ} {x0 : Int32}  (kt : (2 : Int32) < x0 → wpx d P_Re_isKind 13 [.int x0] [] h Q) (kf : ¬ ((2 : Int32) < x0) → wpx d P_Re_isKind 9 [.int x0] [] h Q) : wpx d P_Re_isKind 4 [.int x0] [] h Q := by
  refine st_iload (pc' := 5) rfl rfl rfl ?_
  refine st_ipush (pc' := 6) (v := 2) rfl rfl (by decide) ?_
  exact st_icmp_gt (pc' := 9) rfl rfl kt kf
theorem B_Re_isKind_9 {d : Nat} {h : PH} {Q : PQ} {x0 : Int32}  (k : wpx d P_Re_isKind 14 [.int x0] [.int 1] h Q) : wpx d P_Re_isKind 9 [.int x0] [] h Q := by
  refine st_ipush (pc' := 10) (v := 1) rfl rfl (by decide) ?_
  exact st_goto rfl k
theorem B_Re_isKind_13 {d : Nat} {h : PH} {Q : PQ} {x0 : Int32}  (k : wpx d P_Re_isKind 14 [.int x0] [.int 0] h Q) : wpx d P_Re_isKind 13 [.int x0] [] h Q := by
  refine st_ipush (pc' := 14) (v := 0) rfl rfl (by decide) ?_
  exact k
theorem B_Re_isKind_14 {d : Nat} {h : PH} {Q : PQ} {x0 : Int32} {s0 : Int32} (hz0 : narrow .boolean (.int s0) = .int s0) (k : Q (some (.int s0)) h) : wpx d P_Re_isKind 14 [.int x0] [.int s0] h Q := by
  exact st_ireturn (ty := .boolean) rfl rfl hz0 k
theorem B_Re_prefers_0 {d : Nat} {h : PH} {Q : PQ} {r0 : Nat} {x1 : Int32} {x2 : Int32} {x3 : Int32}  (kt : ¬ (x1 = 0) → wpx d P_Re_prefers 25 [.ref r0, .int x1, .int x2, .int x3] [] h Q) (kf : x1 = 0 → wpx d P_Re_prefers 4 [.ref r0, .int x1, .int x2, .int x3] [] h Q) : wpx d P_Re_prefers 0 [.ref r0, .int x1, .int x2, .int x3] [] h Q := by
  refine st_iload (pc' := 1) rfl rfl rfl ?_
  exact st_if_ne (pc' := 4) rfl rfl kt kf
theorem B_Re_prefers_4 {d : Nat} {h : PH} {Q : PQ} {r0 : Nat} {x1 : Int32} {x2 : Int32} {x3 : Int32} {a0 : Nat} {n1 : Nat} (hs0 : h_sh h r0 = some (0, 3)) (hr1 : h_r h r0 1 = some a0) (hs2 : h_sh h a0 = some (1, n1)) (hb3 : vp_in x2 n1) (hb4 : vp_in x3 n1) (kt : (h_i h a0 x2.toNatClampNeg) ≤ (h_i h a0 x3.toNatClampNeg) → wpx d P_Re_prefers 23 [.ref r0, .int x1, .int x2, .int x3] [] h Q) (kf : ¬ ((h_i h a0 x2.toNatClampNeg) ≤ (h_i h a0 x3.toNatClampNeg)) → wpx d P_Re_prefers 19 [.ref r0, .int x1, .int x2, .int x3] [] h Q) : wpx d P_Re_prefers 4 [.ref r0, .int x1, .int x2, .int x3] [] h Q := by
  refine st_aload (pc' := 5) rfl rfl rfl ?_
  refine st_getfr (x := some a0) (Or.inr rfl) rfl hs0 rfl hr1 (pc' := 8) rfl ?_
  refine st_iload (pc' := 9) rfl rfl rfl ?_
  refine st_iaload rfl hs2 hb3 (j := x2.toNatClampNeg) rfl (pc' := 10) rfl ?_
  refine st_aload (pc' := 11) rfl rfl rfl ?_
  refine st_getfr (x := some a0) (Or.inr rfl) rfl hs0 rfl hr1 (pc' := 14) rfl ?_
  refine st_iload (pc' := 15) rfl rfl rfl ?_
  refine st_iaload rfl hs2 hb4 (j := x3.toNatClampNeg) rfl (pc' := 16) rfl ?_
  exact st_icmp_le (pc' := 19) rfl rfl kt kf
theorem B_Re_prefers_19 {d : Nat} {h : PH} {Q : PQ} {r0 : Nat} {x1 : Int32} {x2 : Int32} {x3 : Int32}  (k : wpx d P_Re_prefers 24 [.ref r0, .int x1, .int x2, .int x3] [.int 1] h Q) : wpx d P_Re_prefers 19 [.ref r0, .int x1, .int x2, .int x3] [] h Q := by
  refine st_ipush (pc' := 20) (v := 1) rfl rfl (by decide) ?_
  exact st_goto rfl k
theorem B_Re_prefers_23 {d : Nat} {h : PH} {Q : PQ} {r0 : Nat} {x1 : Int32} {x2 : Int32} {x3 : Int32}  (k : wpx d P_Re_prefers 24 [.ref r0, .int x1, .int x2, .int x3] [.int 0] h Q) : wpx d P_Re_prefers 23 [.ref r0, .int x1, .int x2, .int x3] [] h Q := by
  refine st_ipush (pc' := 24) (v := 0) rfl rfl (by decide) ?_
  exact k
theorem B_Re_prefers_24 {d : Nat} {h : PH} {Q : PQ} {r0 : Nat} {x1 : Int32} {x2 : Int32} {x3 : Int32} {s0 : Int32} (hz0 : narrow .boolean (.int s0) = .int s0) (k : Q (some (.int s0)) h) : wpx d P_Re_prefers 24 [.ref r0, .int x1, .int x2, .int x3] [.int s0] h Q := by
  exact st_ireturn (ty := .boolean) rfl rfl hz0 k
theorem B_Re_prefers_25 {d : Nat} {h : PH} {Q : PQ} {r0 : Nat} {x1 : Int32} {x2 : Int32} {x3 : Int32}  (kt : ¬ (x1 = (1 : Int32)) → wpx d P_Re_prefers 53 [.ref r0, .int x1, .int x2, .int x3] [] h Q) (kf : x1 = (1 : Int32) → wpx d P_Re_prefers 30 [.ref r0, .int x1, .int x2, .int x3] [] h Q) : wpx d P_Re_prefers 25 [.ref r0, .int x1, .int x2, .int x3] [] h Q := by
  refine st_iload (pc' := 26) rfl rfl rfl ?_
  refine st_ipush (pc' := 27) (v := 1) rfl rfl (by decide) ?_
  exact st_icmp_ne (pc' := 30) rfl rfl kt kf
theorem B_Re_prefers_30 {d : Nat} {h : PH} {Q : PQ} {r0 : Nat} {x1 : Int32} {x2 : Int32} {x3 : Int32} {a0 : Nat} {n1 : Nat} (hs0 : h_sh h r0 = some (0, 3)) (hr1 : h_r h r0 1 = some a0) (hs2 : h_sh h a0 = some (1, n1)) (hb3 : vp_in x2 n1) (hb4 : vp_in x3 n1) (kt : (h_i h a0 x3.toNatClampNeg) ≤ (h_i h a0 x2.toNatClampNeg) → wpx d P_Re_prefers 49 [.ref r0, .int x1, .int x2, .int x3] [] h Q) (kf : ¬ ((h_i h a0 x3.toNatClampNeg) ≤ (h_i h a0 x2.toNatClampNeg)) → wpx d P_Re_prefers 45 [.ref r0, .int x1, .int x2, .int x3] [] h Q) : wpx d P_Re_prefers 30 [.ref r0, .int x1, .int x2, .int x3] [] h Q := by
  refine st_aload (pc' := 31) rfl rfl rfl ?_
  refine st_getfr (x := some a0) (Or.inr rfl) rfl hs0 rfl hr1 (pc' := 34) rfl ?_
  refine st_iload (pc' := 35) rfl rfl rfl ?_
  refine st_iaload rfl hs2 hb3 (j := x2.toNatClampNeg) rfl (pc' := 36) rfl ?_
  refine st_aload (pc' := 37) rfl rfl rfl ?_
  refine st_getfr (x := some a0) (Or.inr rfl) rfl hs0 rfl hr1 (pc' := 40) rfl ?_
  refine st_iload (pc' := 41) rfl rfl rfl ?_
  refine st_iaload rfl hs2 hb4 (j := x3.toNatClampNeg) rfl (pc' := 42) rfl ?_
  exact st_icmp_ge (pc' := 45) rfl rfl kt kf
theorem B_Re_prefers_45 {d : Nat} {h : PH} {Q : PQ} {r0 : Nat} {x1 : Int32} {x2 : Int32} {x3 : Int32}  (k : wpx d P_Re_prefers 63 [.ref r0, .int x1, .int x2, .int x3] [.int 1] h Q) : wpx d P_Re_prefers 45 [.ref r0, .int x1, .int x2, .int x3] [] h Q := by
  refine st_ipush (pc' := 46) (v := 1) rfl rfl (by decide) ?_
  exact st_goto rfl k
theorem B_Re_prefers_49 {d : Nat} {h : PH} {Q : PQ} {r0 : Nat} {x1 : Int32} {x2 : Int32} {x3 : Int32}  (k : wpx d P_Re_prefers 63 [.ref r0, .int x1, .int x2, .int x3] [.int 0] h Q) : wpx d P_Re_prefers 49 [.ref r0, .int x1, .int x2, .int x3] [] h Q := by
  refine st_ipush (pc' := 50) (v := 0) rfl rfl (by decide) ?_
  exact st_goto rfl k
theorem B_Re_prefers_53 {d : Nat} {h : PH} {Q : PQ} {r0 : Nat} {x1 : Int32} {x2 : Int32} {x3 : Int32}  (kt : x3 ≤ x2 → wpx d P_Re_prefers 62 [.ref r0, .int x1, .int x2, .int x3] [] h Q) (kf : ¬ (x3 ≤ x2) → wpx d P_Re_prefers 58 [.ref r0, .int x1, .int x2, .int x3] [] h Q) : wpx d P_Re_prefers 53 [.ref r0, .int x1, .int x2, .int x3] [] h Q := by
  refine st_iload (pc' := 54) rfl rfl rfl ?_
  refine st_iload (pc' := 55) rfl rfl rfl ?_
  exact st_icmp_ge (pc' := 58) rfl rfl kt kf
theorem B_Re_prefers_58 {d : Nat} {h : PH} {Q : PQ} {r0 : Nat} {x1 : Int32} {x2 : Int32} {x3 : Int32}  (k : wpx d P_Re_prefers 63 [.ref r0, .int x1, .int x2, .int x3] [.int 1] h Q) : wpx d P_Re_prefers 58 [.ref r0, .int x1, .int x2, .int x3] [] h Q := by
  refine st_ipush (pc' := 59) (v := 1) rfl rfl (by decide) ?_
  exact st_goto rfl k
theorem B_Re_prefers_62 {d : Nat} {h : PH} {Q : PQ} {r0 : Nat} {x1 : Int32} {x2 : Int32} {x3 : Int32}  (k : wpx d P_Re_prefers 63 [.ref r0, .int x1, .int x2, .int x3] [.int 0] h Q) : wpx d P_Re_prefers 62 [.ref r0, .int x1, .int x2, .int x3] [] h Q := by
  refine st_ipush (pc' := 63) (v := 0) rfl rfl (by decide) ?_
  exact k
theorem B_Re_prefers_63 {d : Nat} {h : PH} {Q : PQ} {r0 : Nat} {x1 : Int32} {x2 : Int32} {x3 : Int32} {s0 : Int32} (hz0 : narrow .boolean (.int s0) = .int s0) (k : Q (some (.int s0)) h) : wpx d P_Re_prefers 63 [.ref r0, .int x1, .int x2, .int x3] [.int s0] h Q := by
  exact st_ireturn (ty := .boolean) rfl rfl hz0 k
theorem B_Re_choose_0 {d : Nat} {h : PH} {Q : PQ} {r0 : Nat} {r1 : Nat} {x2 : Int32} {x3 : Int32} {v4 : Value} {v5 : Value}  (k : wpx d P_Re_choose 6 [.ref r0, .ref r1, .int x2, .int x3, .int (-1), .int 0] [] h Q) : wpx d P_Re_choose 0 [.ref r0, .ref r1, .int x2, .int x3, v4, v5] [] h Q := by
  refine st_ipush (pc' := 1) (v := (-1)) rfl rfl (by decide) ?_
  refine st_istore (pc' := 3) (ls' := [.ref r0, .ref r1, .int x2, .int x3, .int (-1), v5]) rfl rfl (Nat.le_of_ble_eq_true rfl) rfl ?_
  refine st_ipush (pc' := 4) (v := 0) rfl rfl (by decide) ?_
  refine st_istore (pc' := 6) (ls' := [.ref r0, .ref r1, .int x2, .int x3, .int (-1), .int 0]) rfl rfl (Nat.le_of_ble_eq_true rfl) rfl ?_
  exact k
theorem B_Re_choose_6 {d : Nat} {h : PH} {Q : PQ} {r0 : Nat} {r1 : Nat} {x2 : Int32} {x3 : Int32} {x4 : Int32} {x5 : Int32} (hs0 : h_sh h r1 = some (0, 3)) (kt : (h_i h r1 3) ≤ x5 → wpx d P_Re_choose 54 [.ref r0, .ref r1, .int x2, .int x3, .int x4, .int x5] [] h Q) (kf : ¬ ((h_i h r1 3) ≤ x5) → wpx d P_Re_choose 15 [.ref r0, .ref r1, .int x2, .int x3, .int x4, .int x5] [] h Q) : wpx d P_Re_choose 6 [.ref r0, .ref r1, .int x2, .int x3, .int x4, .int x5] [] h Q := by
  refine st_iload (pc' := 8) rfl rfl rfl ?_
  refine st_aload (pc' := 9) rfl rfl rfl ?_
  refine st_getfi (Or.inr rfl) rfl hs0 rfl (pc' := 12) rfl ?_
  exact st_icmp_ge (pc' := 15) rfl rfl kt kf
theorem B_Re_choose_15 {d : Nat} {h : PH} {Q : PQ} {r0 : Nat} {r1 : Nat} {x2 : Int32} {x3 : Int32} {x4 : Int32} {x5 : Int32} (hs0 : h_sh h r0 = some (0, 10)) (k : wpm d 110 [.ref r0, .ref r1, .int x5, .int x3] h (fun r h' => wpx d P_Re_choose 23 [.ref r0, .ref r1, .int x2, .int x3, .int x4, .int x5] (r.toList ++ []) h' Q)) : wpx d P_Re_choose 15 [.ref r0, .ref r1, .int x2, .int x3, .int x4, .int x5] [] h Q := by
  refine st_aload (pc' := 16) rfl rfl rfl ?_
  refine st_aload (pc' := 17) rfl rfl rfl ?_
  refine st_iload (pc' := 19) rfl rfl rfl ?_
  refine st_iload (pc' := 20) rfl rfl rfl ?_
  exact st_call (pc' := 23) (as := [.ref r0, .ref r1, .int x5, .int x3]) (rest := []) rfl rfl (Nat.le_of_ble_eq_true rfl) rfl rfl (Nat.le_of_ble_eq_true rfl) (kd := 1) (o := 10) rfl rfl (beq_iff_eq.mpr hs0) k
theorem B_Re_choose_23 {d : Nat} {h : PH} {Q : PQ} {r0 : Nat} {r1 : Nat} {x2 : Int32} {x3 : Int32} {x4 : Int32} {x5 : Int32} {s0 : Int32}  (kt : s0 = 0 → wpx d P_Re_choose 48 [.ref r0, .ref r1, .int x2, .int x3, .int x4, .int x5] [] h Q) (kf : ¬ (s0 = 0) → wpx d P_Re_choose 26 [.ref r0, .ref r1, .int x2, .int x3, .int x4, .int x5] [] h Q) : wpx d P_Re_choose 23 [.ref r0, .ref r1, .int x2, .int x3, .int x4, .int x5] [.int s0] h Q := by
  exact st_if_eq (pc' := 26) rfl rfl kt kf
theorem B_Re_choose_26 {d : Nat} {h : PH} {Q : PQ} {r0 : Nat} {r1 : Nat} {x2 : Int32} {x3 : Int32} {x4 : Int32} {x5 : Int32}  (kt : x4 = ((-1) : Int32) → wpx d P_Re_choose 44 [.ref r0, .ref r1, .int x2, .int x3, .int x4, .int x5] [] h Q) (kf : ¬ (x4 = ((-1) : Int32)) → wpx d P_Re_choose 32 [.ref r0, .ref r1, .int x2, .int x3, .int x4, .int x5] [] h Q) : wpx d P_Re_choose 26 [.ref r0, .ref r1, .int x2, .int x3, .int x4, .int x5] [] h Q := by
  refine st_iload (pc' := 28) rfl rfl rfl ?_
  refine st_ipush (pc' := 29) (v := (-1)) rfl rfl (by decide) ?_
  exact st_icmp_eq (pc' := 32) rfl rfl kt kf
theorem B_Re_choose_32 {d : Nat} {h : PH} {Q : PQ} {r0 : Nat} {r1 : Nat} {x2 : Int32} {x3 : Int32} {x4 : Int32} {x5 : Int32}  (k : wpm d 50 [.ref r1, .int x2, .int x5, .int x4] h (fun r h' => wpx d P_Re_choose 41 [.ref r0, .ref r1, .int x2, .int x3, .int x4, .int x5] (r.toList ++ []) h' Q)) : wpx d P_Re_choose 32 [.ref r0, .ref r1, .int x2, .int x3, .int x4, .int x5] [] h Q := by
  refine st_aload (pc' := 33) rfl rfl rfl ?_
  refine st_iload (pc' := 34) rfl rfl rfl ?_
  refine st_iload (pc' := 36) rfl rfl rfl ?_
  refine st_iload (pc' := 38) rfl rfl rfl ?_
  exact st_call (pc' := 41) (as := [.ref r1, .int x2, .int x5, .int x4]) (rest := []) rfl rfl (Nat.le_of_ble_eq_true rfl) rfl rfl (Nat.le_of_ble_eq_true rfl) (kd := 0) (o := 4) rfl rfl rfl k
theorem B_Re_choose_41 {d : Nat} {h : PH} {Q : PQ} {r0 : Nat} {r1 : Nat} {x2 : Int32} {x3 : Int32} {x4 : Int32} {x5 : Int32} {s0 : Int32}  (kt : s0 = 0 → wpx d P_Re_choose 48 [.ref r0, .ref r1, .int x2, .int x3, .int x4, .int x5] [] h Q) (kf : ¬ (s0 = 0) → wpx d P_Re_choose 44 [.ref r0, .ref r1, .int x2, .int x3, .int x4, .int x5] [] h Q) : wpx d P_Re_choose 41 [.ref r0, .ref r1, .int x2, .int x3, .int x4, .int x5] [.int s0] h Q := by
  exact st_if_eq (pc' := 44) rfl rfl kt kf
theorem B_Re_choose_44 {d : Nat} {h : PH} {Q : PQ} {r0 : Nat} {r1 : Nat} {x2 : Int32} {x3 : Int32} {x4 : Int32} {x5 : Int32}  (k : wpx d P_Re_choose 48 [.ref r0, .ref r1, .int x2, .int x3, .int x5, .int x5] [] h Q) : wpx d P_Re_choose 44 [.ref r0, .ref r1, .int x2, .int x3, .int x4, .int x5] [] h Q := by
  refine st_iload (pc' := 46) rfl rfl rfl ?_
  refine st_istore (pc' := 48) (ls' := [.ref r0, .ref r1, .int x2, .int x3, .int x5, .int x5]) rfl rfl (Nat.le_of_ble_eq_true rfl) rfl ?_
  exact k
theorem B_Re_choose_48 {d : Nat} {h : PH} {Q : PQ} {r0 : Nat} {r1 : Nat} {x2 : Int32} {x3 : Int32} {x4 : Int32} {x5 : Int32}  (k : wpx d P_Re_choose 6 [.ref r0, .ref r1, .int x2, .int x3, .int x4, .int (x5 + 1)] [] h Q) : wpx d P_Re_choose 48 [.ref r0, .ref r1, .int x2, .int x3, .int x4, .int x5] [] h Q := by
  refine st_iinc (pc' := 51) (v := 1) (ls' := [.ref r0, .ref r1, .int x2, .int x3, .int x4, .int (x5 + 1)]) rfl rfl rfl (by decide) rfl ?_
  exact st_goto rfl k
theorem B_Re_choose_54 {d : Nat} {h : PH} {Q : PQ} {r0 : Nat} {r1 : Nat} {x2 : Int32} {x3 : Int32} {x4 : Int32} {x5 : Int32}  (k : Q (some (.int x4)) h) : wpx d P_Re_choose 54 [.ref r0, .ref r1, .int x2, .int x3, .int x4, .int x5] [] h Q := by
  refine st_iload (pc' := 56) rfl rfl rfl ?_
  exact st_ireturn (ty := .int) rfl rfl rfl k
theorem B_Re_countTaken_0 {d : Nat} {h : PH} {Q : PQ} {r0 : Nat} {r1 : Nat} {r2 : Nat} {x3 : Int32} {v4 : Value} {v5 : Value} {v6 : Value}  (k : wpx d P_Re_countTaken 6 [.ref r0, .ref r1, .ref r2, .int x3, .int 0, .int 0, v6] [] h Q) : wpx d P_Re_countTaken 0 [.ref r0, .ref r1, .ref r2, .int x3, v4, v5, v6] [] h Q := by
  refine st_ipush (pc' := 1) (v := 0) rfl rfl (by decide) ?_
  refine st_istore (pc' := 3) (ls' := [.ref r0, .ref r1, .ref r2, .int x3, .int 0, v5, v6]) rfl rfl (Nat.le_of_ble_eq_true rfl) rfl ?_
  refine st_ipush (pc' := 4) (v := 0) rfl rfl (by decide) ?_
  refine st_istore (pc' := 6) (ls' := [.ref r0, .ref r1, .ref r2, .int x3, .int 0, .int 0, v6]) rfl rfl (Nat.le_of_ble_eq_true rfl) rfl ?_
  exact k
theorem B_Re_countTaken_6 {d : Nat} {h : PH} {Q : PQ} {r0 : Nat} {r1 : Nat} {r2 : Nat} {x3 : Int32} {x4 : Int32} {x5 : Int32} {v6 : Value} (hs0 : h_sh h r1 = some (0, 10)) (kt : (h_i h r1 1) ≤ x5 → wpx d P_Re_countTaken 60 [.ref r0, .ref r1, .ref r2, .int x3, .int x4, .int x5, v6] [] h Q) (kf : ¬ ((h_i h r1 1) ≤ x5) → wpx d P_Re_countTaken 15 [.ref r0, .ref r1, .ref r2, .int x3, .int x4, .int x5, v6] [] h Q) : wpx d P_Re_countTaken 6 [.ref r0, .ref r1, .ref r2, .int x3, .int x4, .int x5, v6] [] h Q := by
  refine st_iload (pc' := 8) rfl rfl rfl ?_
  refine st_aload (pc' := 9) rfl rfl rfl ?_
  refine st_getfi (Or.inr rfl) rfl hs0 rfl (pc' := 12) rfl ?_
  exact st_icmp_ge (pc' := 15) rfl rfl kt kf
theorem B_Re_countTaken_15 {d : Nat} {h : PH} {Q : PQ} {r0 : Nat} {r1 : Nat} {r2 : Nat} {x3 : Int32} {x4 : Int32} {x5 : Int32} {v6 : Value} (hs0 : h_sh h r1 = some (0, 10)) (kt : (h_i h r1 1) ≤ x4 → wpx d P_Re_countTaken 60 [.ref r0, .ref r1, .ref r2, .int x3, .int x4, .int x5, v6] [] h Q) (kf : ¬ ((h_i h r1 1) ≤ x4) → wpx d P_Re_countTaken 24 [.ref r0, .ref r1, .ref r2, .int x3, .int x4, .int x5, v6] [] h Q) : wpx d P_Re_countTaken 15 [.ref r0, .ref r1, .ref r2, .int x3, .int x4, .int x5, v6] [] h Q := by
  refine st_iload (pc' := 17) rfl rfl rfl ?_
  refine st_aload (pc' := 18) rfl rfl rfl ?_
  refine st_getfi (Or.inr rfl) rfl hs0 rfl (pc' := 21) rfl ?_
  exact st_icmp_ge (pc' := 24) rfl rfl kt kf
theorem B_Re_countTaken_24 {d : Nat} {h : PH} {Q : PQ} {r0 : Nat} {r1 : Nat} {r2 : Nat} {x3 : Int32} {x4 : Int32} {x5 : Int32} {v6 : Value}  (k : wpm d 51 [.ref r1, .ref r2, .int x3, .int x4] h (fun r h' => wpx d P_Re_countTaken 32 [.ref r0, .ref r1, .ref r2, .int x3, .int x4, .int x5, v6] (r.toList ++ []) h' Q)) : wpx d P_Re_countTaken 24 [.ref r0, .ref r1, .ref r2, .int x3, .int x4, .int x5, v6] [] h Q := by
  refine st_aload (pc' := 25) rfl rfl rfl ?_
  refine st_aload (pc' := 26) rfl rfl rfl ?_
  refine st_iload (pc' := 27) rfl rfl rfl ?_
  refine st_iload (pc' := 29) rfl rfl rfl ?_
  exact st_call (pc' := 32) (as := [.ref r1, .ref r2, .int x3, .int x4]) (rest := []) rfl rfl (Nat.le_of_ble_eq_true rfl) rfl rfl (Nat.le_of_ble_eq_true rfl) (kd := 0) (o := 4) rfl rfl rfl k
theorem B_Re_countTaken_32 {d : Nat} {h : PH} {Q : PQ} {r0 : Nat} {r1 : Nat} {r2 : Nat} {x3 : Int32} {x4 : Int32} {x5 : Int32} {v6 : Value} {s0 : Int32}  (kt : ¬ (s0 = ((-1) : Int32)) → wpx d P_Re_countTaken 42 [.ref r0, .ref r1, .ref r2, .int x3, .int x4, .int x5, .int s0] [] h Q) (kf : s0 = ((-1) : Int32) → wpx d P_Re_countTaken 40 [.ref r0, .ref r1, .ref r2, .int x3, .int x4, .int x5, .int s0] [] h Q) : wpx d P_Re_countTaken 32 [.ref r0, .ref r1, .ref r2, .int x3, .int x4, .int x5, v6] [.int s0] h Q := by
  refine st_istore (pc' := 34) (ls' := [.ref r0, .ref r1, .ref r2, .int x3, .int x4, .int x5, .int s0]) rfl rfl (Nat.le_of_ble_eq_true rfl) rfl ?_
  refine st_iload (pc' := 36) rfl rfl rfl ?_
  refine st_ipush (pc' := 37) (v := (-1)) rfl rfl (by decide) ?_
  exact st_icmp_ne (pc' := 40) rfl rfl kt kf
theorem B_Re_countTaken_40 {d : Nat} {h : PH} {Q : PQ} {r0 : Nat} {r1 : Nat} {r2 : Nat} {x3 : Int32} {x4 : Int32} {x5 : Int32} {x6 : Int32}  (k : Q (some (.int (-1))) h) : wpx d P_Re_countTaken 40 [.ref r0, .ref r1, .ref r2, .int x3, .int x4, .int x5, .int x6] [] h Q := by
  refine st_ipush (pc' := 41) (v := (-1)) rfl rfl (by decide) ?_
  exact st_ireturn (ty := .int) rfl rfl rfl k
theorem B_Re_countTaken_42 {d : Nat} {h : PH} {Q : PQ} {r0 : Nat} {r1 : Nat} {r2 : Nat} {x3 : Int32} {x4 : Int32} {x5 : Int32} {x6 : Int32} {a0 : Nat} {n1 : Nat} (hs0 : h_sh h r2 = some (0, 3)) (hr1 : h_r h r2 1 = some a0) (hs2 : h_sh h a0 = some (1, n1)) (hb3 : vp_in x6 n1) (k : wpx d P_Re_countTaken 6 [.ref r0, .ref r1, .ref r2, .int x3, .int (x4 + (h_i h a0 x6.toNatClampNeg)), .int (x5 + 1), .int x6] [] h Q) : wpx d P_Re_countTaken 42 [.ref r0, .ref r1, .ref r2, .int x3, .int x4, .int x5, .int x6] [] h Q := by
  refine st_iload (pc' := 44) rfl rfl rfl ?_
  refine st_aload (pc' := 45) rfl rfl rfl ?_
  refine st_getfr (x := some a0) (Or.inr rfl) rfl hs0 rfl hr1 (pc' := 48) rfl ?_
  refine st_iload (pc' := 50) rfl rfl rfl ?_
  refine st_iaload rfl hs2 hb3 (j := x6.toNatClampNeg) rfl (pc' := 51) rfl ?_
  refine st_iadd (pc' := 52) rfl rfl ?_
  refine st_istore (pc' := 54) (ls' := [.ref r0, .ref r1, .ref r2, .int x3, .int (x4 + (h_i h a0 x6.toNatClampNeg)), .int x5, .int x6]) rfl rfl (Nat.le_of_ble_eq_true rfl) rfl ?_
  refine st_iinc (pc' := 57) (v := 1) (ls' := [.ref r0, .ref r1, .ref r2, .int x3, .int (x4 + (h_i h a0 x6.toNatClampNeg)), .int (x5 + 1), .int x6]) rfl rfl rfl (by decide) rfl ?_
  exact st_goto rfl k
theorem B_Re_countTaken_60 {d : Nat} {h : PH} {Q : PQ} {r0 : Nat} {r1 : Nat} {r2 : Nat} {x3 : Int32} {x4 : Int32} {x5 : Int32} {v6 : Value}  (k : Q (some (.int x5)) h) : wpx d P_Re_countTaken 60 [.ref r0, .ref r1, .ref r2, .int x3, .int x4, .int x5, v6] [] h Q := by
  refine st_iload (pc' := 62) rfl rfl rfl ?_
  exact st_ireturn (ty := .int) rfl rfl rfl k
theorem B_Re_takenAt_0 {d : Nat} {h : PH} {Q : PQ} {r0 : Nat} {r1 : Nat} {r2 : Nat} {x3 : Int32} {x4 : Int32} {v5 : Value} {v6 : Value} {v7 : Value}  (k : wpx d P_Re_takenAt 6 [.ref r0, .ref r1, .ref r2, .int x3, .int x4, .int 0, .int 0, v7] [] h Q) : wpx d P_Re_takenAt 0 [.ref r0, .ref r1, .ref r2, .int x3, .int x4, v5, v6, v7] [] h Q := by
  refine st_ipush (pc' := 1) (v := 0) rfl rfl (by decide) ?_
  refine st_istore (pc' := 3) (ls' := [.ref r0, .ref r1, .ref r2, .int x3, .int x4, .int 0, v6, v7]) rfl rfl (Nat.le_of_ble_eq_true rfl) rfl ?_
  refine st_ipush (pc' := 4) (v := 0) rfl rfl (by decide) ?_
  refine st_istore (pc' := 6) (ls' := [.ref r0, .ref r1, .ref r2, .int x3, .int x4, .int 0, .int 0, v7]) rfl rfl (Nat.le_of_ble_eq_true rfl) rfl ?_
  exact k
theorem B_Re_takenAt_6 {d : Nat} {h : PH} {Q : PQ} {r0 : Nat} {r1 : Nat} {r2 : Nat} {x3 : Int32} {x4 : Int32} {x5 : Int32} {x6 : Int32} {v7 : Value}  (kt : x4 < x6 → wpx d P_Re_takenAt 66 [.ref r0, .ref r1, .ref r2, .int x3, .int x4, .int x5, .int x6, v7] [] h Q) (kf : ¬ (x4 < x6) → wpx d P_Re_takenAt 13 [.ref r0, .ref r1, .ref r2, .int x3, .int x4, .int x5, .int x6, v7] [] h Q) : wpx d P_Re_takenAt 6 [.ref r0, .ref r1, .ref r2, .int x3, .int x4, .int x5, .int x6, v7] [] h Q := by
  refine st_iload (pc' := 8) rfl rfl rfl ?_
  refine st_iload (pc' := 10) rfl rfl rfl ?_
  exact st_icmp_gt (pc' := 13) rfl rfl kt kf
theorem B_Re_takenAt_13 {d : Nat} {h : PH} {Q : PQ} {r0 : Nat} {r1 : Nat} {r2 : Nat} {x3 : Int32} {x4 : Int32} {x5 : Int32} {x6 : Int32} {v7 : Value} (hs0 : h_sh h r1 = some (0, 10)) (kt : (h_i h r1 1) ≤ x5 → wpx d P_Re_takenAt 66 [.ref r0, .ref r1, .ref r2, .int x3, .int x4, .int x5, .int x6, v7] [] h Q) (kf : ¬ ((h_i h r1 1) ≤ x5) → wpx d P_Re_takenAt 22 [.ref r0, .ref r1, .ref r2, .int x3, .int x4, .int x5, .int x6, v7] [] h Q) : wpx d P_Re_takenAt 13 [.ref r0, .ref r1, .ref r2, .int x3, .int x4, .int x5, .int x6, v7] [] h Q := by
  refine st_iload (pc' := 15) rfl rfl rfl ?_
  refine st_aload (pc' := 16) rfl rfl rfl ?_
  refine st_getfi (Or.inr rfl) rfl hs0 rfl (pc' := 19) rfl ?_
  exact st_icmp_ge (pc' := 22) rfl rfl kt kf
theorem B_Re_takenAt_22 {d : Nat} {h : PH} {Q : PQ} {r0 : Nat} {r1 : Nat} {r2 : Nat} {x3 : Int32} {x4 : Int32} {x5 : Int32} {x6 : Int32} {v7 : Value}  (k : wpm d 51 [.ref r1, .ref r2, .int x3, .int x5] h (fun r h' => wpx d P_Re_takenAt 30 [.ref r0, .ref r1, .ref r2, .int x3, .int x4, .int x5, .int x6, v7] (r.toList ++ []) h' Q)) : wpx d P_Re_takenAt 22 [.ref r0, .ref r1, .ref r2, .int x3, .int x4, .int x5, .int x6, v7] [] h Q := by
  refine st_aload (pc' := 23) rfl rfl rfl ?_
  refine st_aload (pc' := 24) rfl rfl rfl ?_
  refine st_iload (pc' := 25) rfl rfl rfl ?_
  refine st_iload (pc' := 27) rfl rfl rfl ?_
  exact st_call (pc' := 30) (as := [.ref r1, .ref r2, .int x3, .int x5]) (rest := []) rfl rfl (Nat.le_of_ble_eq_true rfl) rfl rfl (Nat.le_of_ble_eq_true rfl) (kd := 0) (o := 4) rfl rfl rfl k
theorem B_Re_takenAt_30 {d : Nat} {h : PH} {Q : PQ} {r0 : Nat} {r1 : Nat} {r2 : Nat} {x3 : Int32} {x4 : Int32} {x5 : Int32} {x6 : Int32} {v7 : Value} {s0 : Int32}  (kt : s0 = ((-1) : Int32) → wpx d P_Re_takenAt 45 [.ref r0, .ref r1, .ref r2, .int x3, .int x4, .int x5, .int x6, .int s0] [] h Q) (kf : ¬ (s0 = ((-1) : Int32)) → wpx d P_Re_takenAt 38 [.ref r0, .ref r1, .ref r2, .int x3, .int x4, .int x5, .int x6, .int s0] [] h Q) : wpx d P_Re_takenAt 30 [.ref r0, .ref r1, .ref r2, .int x3, .int x4, .int x5, .int x6, v7] [.int s0] h Q := by
  refine st_istore (pc' := 32) (ls' := [.ref r0, .ref r1, .ref r2, .int x3, .int x4, .int x5, .int x6, .int s0]) rfl rfl (Nat.le_of_ble_eq_true rfl) rfl ?_
  refine st_iload (pc' := 34) rfl rfl rfl ?_
  refine st_ipush (pc' := 35) (v := (-1)) rfl rfl (by decide) ?_
  exact st_icmp_eq (pc' := 38) rfl rfl kt kf
theorem B_Re_takenAt_38 {d : Nat} {h : PH} {Q : PQ} {r0 : Nat} {r1 : Nat} {r2 : Nat} {x3 : Int32} {x4 : Int32} {x5 : Int32} {x6 : Int32} {x7 : Int32}  (kt : ¬ (x6 = x4) → wpx d P_Re_takenAt 48 [.ref r0, .ref r1, .ref r2, .int x3, .int x4, .int x5, .int x6, .int x7] [] h Q) (kf : x6 = x4 → wpx d P_Re_takenAt 45 [.ref r0, .ref r1, .ref r2, .int x3, .int x4, .int x5, .int x6, .int x7] [] h Q) : wpx d P_Re_takenAt 38 [.ref r0, .ref r1, .ref r2, .int x3, .int x4, .int x5, .int x6, .int x7] [] h Q := by
  refine st_iload (pc' := 40) rfl rfl rfl ?_
  refine st_iload (pc' := 42) rfl rfl rfl ?_
  exact st_icmp_ne (pc' := 45) rfl rfl kt kf
theorem B_Re_takenAt_45 {d : Nat} {h : PH} {Q : PQ} {r0 : Nat} {r1 : Nat} {r2 : Nat} {x3 : Int32} {x4 : Int32} {x5 : Int32} {x6 : Int32} {x7 : Int32}  (k : Q (some (.int x7)) h) : wpx d P_Re_takenAt 45 [.ref r0, .ref r1, .ref r2, .int x3, .int x4, .int x5, .int x6, .int x7] [] h Q := by
  refine st_iload (pc' := 47) rfl rfl rfl ?_
  exact st_ireturn (ty := .int) rfl rfl rfl k
theorem B_Re_takenAt_48 {d : Nat} {h : PH} {Q : PQ} {r0 : Nat} {r1 : Nat} {r2 : Nat} {x3 : Int32} {x4 : Int32} {x5 : Int32} {x6 : Int32} {x7 : Int32} {a0 : Nat} {n1 : Nat} (hs0 : h_sh h r2 = some (0, 3)) (hr1 : h_r h r2 1 = some a0) (hs2 : h_sh h a0 = some (1, n1)) (hb3 : vp_in x7 n1) (k : wpx d P_Re_takenAt 6 [.ref r0, .ref r1, .ref r2, .int x3, .int x4, .int (x5 + (h_i h a0 x7.toNatClampNeg)), .int (x6 + 1), .int x7] [] h Q) : wpx d P_Re_takenAt 48 [.ref r0, .ref r1, .ref r2, .int x3, .int x4, .int x5, .int x6, .int x7] [] h Q := by
  refine st_iload (pc' := 50) rfl rfl rfl ?_
  refine st_aload (pc' := 51) rfl rfl rfl ?_
  refine st_getfr (x := some a0) (Or.inr rfl) rfl hs0 rfl hr1 (pc' := 54) rfl ?_
  refine st_iload (pc' := 56) rfl rfl rfl ?_
  refine st_iaload rfl hs2 hb3 (j := x7.toNatClampNeg) rfl (pc' := 57) rfl ?_
  refine st_iadd (pc' := 58) rfl rfl ?_
  refine st_istore (pc' := 60) (ls' := [.ref r0, .ref r1, .ref r2, .int x3, .int x4, .int (x5 + (h_i h a0 x7.toNatClampNeg)), .int x6, .int x7]) rfl rfl (Nat.le_of_ble_eq_true rfl) rfl ?_
  refine st_iinc (pc' := 63) (v := 1) (ls' := [.ref r0, .ref r1, .ref r2, .int x3, .int x4, .int (x5 + (h_i h a0 x7.toNatClampNeg)), .int (x6 + 1), .int x7]) rfl rfl rfl (by decide) rfl ?_
  exact st_goto rfl k
theorem B_Re_takenAt_66 {d : Nat} {h : PH} {Q : PQ} {r0 : Nat} {r1 : Nat} {r2 : Nat} {x3 : Int32} {x4 : Int32} {x5 : Int32} {x6 : Int32} {v7 : Value}  (k : Q (some (.int (-1))) h) : wpx d P_Re_takenAt 66 [.ref r0, .ref r1, .ref r2, .int x3, .int x4, .int x5, .int x6, v7] [] h Q := by
  refine st_ipush (pc' := 67) (v := (-1)) rfl rfl (by decide) ?_
  exact st_ireturn (ty := .int) rfl rfl rfl k
theorem B_Re_findFool_0 {d : Nat} {h : PH} {Q : PQ} {r0 : Nat} {r1 : Nat} {x2 : Int32} {v3 : Value} {v4 : Value} (hs0 : h_sh h r0 = some (0, 4)) (k : wpx d P_Re_findFool 7 [.ref r0, .ref r1, .int x2, .int 0, v4] [] (w_i h r0 1 0) Q) : wpx d P_Re_findFool 0 [.ref r0, .ref r1, .int x2, v3, v4] [] h Q := by
  refine st_aload (pc' := 1) rfl rfl rfl ?_
  refine st_ipush (pc' := 2) (v := 0) rfl rfl (by decide) ?_
  refine st_putf (h' := w_i h r0 1 0) (Or.inl rfl) rfl hs0 rfl rfl rfl (pc' := 5) rfl ?_
  refine st_ipush (pc' := 6) (v := 0) rfl rfl (by decide) ?_
  refine st_istore (pc' := 7) (ls' := [.ref r0, .ref r1, .int x2, .int 0, v4]) rfl rfl (Nat.le_of_ble_eq_true rfl) rfl ?_
  exact k
theorem B_Re_findFool_7 {d : Nat} {h : PH} {Q : PQ} {r0 : Nat} {r1 : Nat} {x2 : Int32} {x3 : Int32} {v4 : Value} (hs0 : h_sh h r1 = some (0, 3)) (kt : (h_i h r1 3) ≤ x3 → wpx d P_Re_findFool 114 [.ref r0, .ref r1, .int x2, .int x3, v4] [] h Q) (kf : ¬ ((h_i h r1 3) ≤ x3) → wpx d P_Re_findFool 15 [.ref r0, .ref r1, .int x2, .int x3, v4] [] h Q) : wpx d P_Re_findFool 7 [.ref r0, .ref r1, .int x2, .int x3, v4] [] h Q := by
  refine st_iload (pc' := 8) rfl rfl rfl ?_
  refine st_aload (pc' := 9) rfl rfl rfl ?_
  refine st_getfi (Or.inr rfl) rfl hs0 rfl (pc' := 12) rfl ?_
  exact st_icmp_ge (pc' := 15) rfl rfl kt kf
theorem B_Re_findFool_15 {d : Nat} {h : PH} {Q : PQ} {r0 : Nat} {r1 : Nat} {x2 : Int32} {x3 : Int32} {v4 : Value}  (k : wpx d P_Re_findFool 18 [.ref r0, .ref r1, .int x2, .int x3, .int 0] [] h Q) : wpx d P_Re_findFool 15 [.ref r0, .ref r1, .int x2, .int x3, v4] [] h Q := by
  refine st_ipush (pc' := 16) (v := 0) rfl rfl (by decide) ?_
  refine st_istore (pc' := 18) (ls' := [.ref r0, .ref r1, .int x2, .int x3, .int 0]) rfl rfl (Nat.le_of_ble_eq_true rfl) rfl ?_
  exact k
theorem B_Re_findFool_18 {d : Nat} {h : PH} {Q : PQ} {r0 : Nat} {r1 : Nat} {x2 : Int32} {x3 : Int32} {x4 : Int32} (hs0 : h_sh h r1 = some (0, 3)) (kt : (h_i h r1 3) ≤ x4 → wpx d P_Re_findFool 108 [.ref r0, .ref r1, .int x2, .int x3, .int x4] [] h Q) (kf : ¬ ((h_i h r1 3) ≤ x4) → wpx d P_Re_findFool 27 [.ref r0, .ref r1, .int x2, .int x3, .int x4] [] h Q) : wpx d P_Re_findFool 18 [.ref r0, .ref r1, .int x2, .int x3, .int x4] [] h Q := by
  refine st_iload (pc' := 20) rfl rfl rfl ?_
  refine st_aload (pc' := 21) rfl rfl rfl ?_
  refine st_getfi (Or.inr rfl) rfl hs0 rfl (pc' := 24) rfl ?_
  exact st_icmp_ge (pc' := 27) rfl rfl kt kf
theorem B_Re_findFool_27 {d : Nat} {h : PH} {Q : PQ} {r0 : Nat} {r1 : Nat} {x2 : Int32} {x3 : Int32} {x4 : Int32}  (kt : x3 = x4 → wpx d P_Re_findFool 102 [.ref r0, .ref r1, .int x2, .int x3, .int x4] [] h Q) (kf : ¬ (x3 = x4) → wpx d P_Re_findFool 33 [.ref r0, .ref r1, .int x2, .int x3, .int x4] [] h Q) : wpx d P_Re_findFool 27 [.ref r0, .ref r1, .int x2, .int x3, .int x4] [] h Q := by
  refine st_iload (pc' := 28) rfl rfl rfl ?_
  refine st_iload (pc' := 30) rfl rfl rfl ?_
  exact st_icmp_eq (pc' := 33) rfl rfl kt kf
theorem B_Re_findFool_33 {d : Nat} {h : PH} {Q : PQ} {r0 : Nat} {r1 : Nat} {x2 : Int32} {x3 : Int32} {x4 : Int32} (hs0 : h_sh h r1 = some (0, 3)) (k : wpm d 35 [.ref r1, .int x3] h (fun r h' => wpx d P_Re_findFool 38 [.ref r0, .ref r1, .int x2, .int x3, .int x4] (r.toList ++ []) h' Q)) : wpx d P_Re_findFool 33 [.ref r0, .ref r1, .int x2, .int x3, .int x4] [] h Q := by
  refine st_aload (pc' := 34) rfl rfl rfl ?_
  refine st_iload (pc' := 35) rfl rfl rfl ?_
  exact st_call (pc' := 38) (as := [.ref r1, .int x3]) (rest := []) rfl rfl (Nat.le_of_ble_eq_true rfl) rfl rfl (Nat.le_of_ble_eq_true rfl) (kd := 1) (o := 3) rfl rfl (beq_iff_eq.mpr hs0) k
theorem B_Re_findFool_38 {d : Nat} {h : PH} {Q : PQ} {r0 : Nat} {r1 : Nat} {x2 : Int32} {x3 : Int32} {x4 : Int32} {s0 : Int32}  (kt : s0 = 0 → wpx d P_Re_findFool 102 [.ref r0, .ref r1, .int x2, .int x3, .int x4] [] h Q) (kf : ¬ (s0 = 0) → wpx d P_Re_findFool 41 [.ref r0, .ref r1, .int x2, .int x3, .int x4] [] h Q) : wpx d P_Re_findFool 38 [.ref r0, .ref r1, .int x2, .int x3, .int x4] [.int s0] h Q := by
  exact st_if_eq (pc' := 41) rfl rfl kt kf
theorem B_Re_findFool_41 {d : Nat} {h : PH} {Q : PQ} {r0 : Nat} {r1 : Nat} {x2 : Int32} {x3 : Int32} {x4 : Int32} (hs0 : h_sh h r1 = some (0, 3)) (k : wpm d 35 [.ref r1, .int x4] h (fun r h' => wpx d P_Re_findFool 47 [.ref r0, .ref r1, .int x2, .int x3, .int x4] (r.toList ++ []) h' Q)) : wpx d P_Re_findFool 41 [.ref r0, .ref r1, .int x2, .int x3, .int x4] [] h Q := by
  refine st_aload (pc' := 42) rfl rfl rfl ?_
  refine st_iload (pc' := 44) rfl rfl rfl ?_
  exact st_call (pc' := 47) (as := [.ref r1, .int x4]) (rest := []) rfl rfl (Nat.le_of_ble_eq_true rfl) rfl rfl (Nat.le_of_ble_eq_true rfl) (kd := 1) (o := 3) rfl rfl (beq_iff_eq.mpr hs0) k
theorem B_Re_findFool_47 {d : Nat} {h : PH} {Q : PQ} {r0 : Nat} {r1 : Nat} {x2 : Int32} {x3 : Int32} {x4 : Int32} {s0 : Int32}  (kt : s0 = 0 → wpx d P_Re_findFool 102 [.ref r0, .ref r1, .int x2, .int x3, .int x4] [] h Q) (kf : ¬ (s0 = 0) → wpx d P_Re_findFool 50 [.ref r0, .ref r1, .int x2, .int x3, .int x4] [] h Q) : wpx d P_Re_findFool 47 [.ref r0, .ref r1, .int x2, .int x3, .int x4] [.int s0] h Q := by
  exact st_if_eq (pc' := 50) rfl rfl kt kf
theorem B_Re_findFool_50 {d : Nat} {h : PH} {Q : PQ} {r0 : Nat} {r1 : Nat} {x2 : Int32} {x3 : Int32} {x4 : Int32}  (k : wpm d 50 [.ref r1, .int x2, .int x4, .int x3] h (fun r h' => wpx d P_Re_findFool 58 [.ref r0, .ref r1, .int x2, .int x3, .int x4] (r.toList ++ []) h' Q)) : wpx d P_Re_findFool 50 [.ref r0, .ref r1, .int x2, .int x3, .int x4] [] h Q := by
  refine st_aload (pc' := 51) rfl rfl rfl ?_
  refine st_iload (pc' := 52) rfl rfl rfl ?_
  refine st_iload (pc' := 54) rfl rfl rfl ?_
  refine st_iload (pc' := 55) rfl rfl rfl ?_
  exact st_call (pc' := 58) (as := [.ref r1, .int x2, .int x4, .int x3]) (rest := []) rfl rfl (Nat.le_of_ble_eq_true rfl) rfl rfl (Nat.le_of_ble_eq_true rfl) (kd := 0) (o := 4) rfl rfl rfl k
theorem B_Re_findFool_58 {d : Nat} {h : PH} {Q : PQ} {r0 : Nat} {r1 : Nat} {x2 : Int32} {x3 : Int32} {x4 : Int32} {s0 : Int32}  (kt : s0 = 0 → wpx d P_Re_findFool 102 [.ref r0, .ref r1, .int x2, .int x3, .int x4] [] h Q) (kf : ¬ (s0 = 0) → wpx d P_Re_findFool 61 [.ref r0, .ref r1, .int x2, .int x3, .int x4] [] h Q) : wpx d P_Re_findFool 58 [.ref r0, .ref r1, .int x2, .int x3, .int x4] [.int s0] h Q := by
  exact st_if_eq (pc' := 61) rfl rfl kt kf
theorem B_Re_findFool_61 {d : Nat} {h : PH} {Q : PQ} {r0 : Nat} {r1 : Nat} {x2 : Int32} {x3 : Int32} {x4 : Int32} (hs0 : h_sh h r1 = some (0, 3)) (k : wpm d 43 [.ref r1, .int x4, .int x3] h (fun r h' => wpx d P_Re_findFool 68 [.ref r0, .ref r1, .int x2, .int x3, .int x4] (r.toList ++ []) h' Q)) : wpx d P_Re_findFool 61 [.ref r0, .ref r1, .int x2, .int x3, .int x4] [] h Q := by
  refine st_aload (pc' := 62) rfl rfl rfl ?_
  refine st_iload (pc' := 64) rfl rfl rfl ?_
  refine st_iload (pc' := 65) rfl rfl rfl ?_
  exact st_call (pc' := 68) (as := [.ref r1, .int x4, .int x3]) (rest := []) rfl rfl (Nat.le_of_ble_eq_true rfl) rfl rfl (Nat.le_of_ble_eq_true rfl) (kd := 1) (o := 3) rfl rfl (beq_iff_eq.mpr hs0) k
theorem B_Re_findFool_68 {d : Nat} {h : PH} {Q : PQ} {r0 : Nat} {r1 : Nat} {x2 : Int32} {x3 : Int32} {x4 : Int32} {s0 : Int32}  (kt : s0 = 0 → wpx d P_Re_findFool 84 [.ref r0, .ref r1, .int x2, .int x3, .int x4] [] h Q) (kf : ¬ (s0 = 0) → wpx d P_Re_findFool 71 [.ref r0, .ref r1, .int x2, .int x3, .int x4] [] h Q) : wpx d P_Re_findFool 68 [.ref r0, .ref r1, .int x2, .int x3, .int x4] [.int s0] h Q := by
  exact st_if_eq (pc' := 71) rfl rfl kt kf
theorem B_Re_findFool_71 {d : Nat} {h : PH} {Q : PQ} {r0 : Nat} {r1 : Nat} {x2 : Int32} {x3 : Int32} {x4 : Int32} (hs0 : h_sh h r0 = some (0, 4)) (k : wpm d 55 [.ref r0, .ref r1, .int x3] h (fun r h' => wpx d P_Re_findFool 77 [.ref r0, .ref r1, .int x2, .int x3, .int x4] (r.toList ++ []) h' Q)) : wpx d P_Re_findFool 71 [.ref r0, .ref r1, .int x2, .int x3, .int x4] [] h Q := by
  refine st_aload (pc' := 72) rfl rfl rfl ?_
  refine st_aload (pc' := 73) rfl rfl rfl ?_
  refine st_iload (pc' := 74) rfl rfl rfl ?_
  exact st_call (pc' := 77) (as := [.ref r0, .ref r1, .int x3]) (rest := []) rfl rfl (Nat.le_of_ble_eq_true rfl) rfl rfl (Nat.le_of_ble_eq_true rfl) (kd := 1) (o := 4) rfl rfl (beq_iff_eq.mpr hs0) k
theorem B_Re_findFool_77 {d : Nat} {h : PH} {Q : PQ} {r0 : Nat} {r1 : Nat} {x2 : Int32} {x3 : Int32} {x4 : Int32} (hs0 : h_sh h r0 = some (0, 4)) (k : wpm d 58 [.ref r0] h (fun r h' => wpx d P_Re_findFool 81 [.ref r0, .ref r1, .int x2, .int x3, .int x4] (r.toList ++ []) h' Q)) : wpx d P_Re_findFool 77 [.ref r0, .ref r1, .int x2, .int x3, .int x4] [] h Q := by
  refine st_aload (pc' := 78) rfl rfl rfl ?_
  exact st_call (pc' := 81) (as := [.ref r0]) (rest := []) rfl rfl (Nat.le_of_ble_eq_true rfl) rfl rfl (Nat.le_of_ble_eq_true rfl) (kd := 1) (o := 4) rfl rfl (beq_iff_eq.mpr hs0) k
theorem B_Re_findFool_81 {d : Nat} {h : PH} {Q : PQ} {r0 : Nat} {r1 : Nat} {x2 : Int32} {x3 : Int32} {x4 : Int32}  (k : wpx d P_Re_findFool 102 [.ref r0, .ref r1, .int x2, .int x3, .int x4] [] h Q) : wpx d P_Re_findFool 81 [.ref r0, .ref r1, .int x2, .int x3, .int x4] [] h Q := by
  exact st_goto rfl k
theorem B_Re_findFool_84 {d : Nat} {h : PH} {Q : PQ} {r0 : Nat} {r1 : Nat} {x2 : Int32} {x3 : Int32} {x4 : Int32} (hs0 : h_sh h r1 = some (0, 3)) (k : wpm d 43 [.ref r1, .int x3, .int x4] h (fun r h' => wpx d P_Re_findFool 91 [.ref r0, .ref r1, .int x2, .int x3, .int x4] (r.toList ++ []) h' Q)) : wpx d P_Re_findFool 84 [.ref r0, .ref r1, .int x2, .int x3, .int x4] [] h Q := by
  refine st_aload (pc' := 85) rfl rfl rfl ?_
  refine st_iload (pc' := 86) rfl rfl rfl ?_
  refine st_iload (pc' := 88) rfl rfl rfl ?_
  exact st_call (pc' := 91) (as := [.ref r1, .int x3, .int x4]) (rest := []) rfl rfl (Nat.le_of_ble_eq_true rfl) rfl rfl (Nat.le_of_ble_eq_true rfl) (kd := 1) (o := 3) rfl rfl (beq_iff_eq.mpr hs0) k
theorem B_Re_findFool_91 {d : Nat} {h : PH} {Q : PQ} {r0 : Nat} {r1 : Nat} {x2 : Int32} {x3 : Int32} {x4 : Int32} {s0 : Int32}  (kt : s0 = 0 → wpx d P_Re_findFool 102 [.ref r0, .ref r1, .int x2, .int x3, .int x4] [] h Q) (kf : ¬ (s0 = 0) → wpx d P_Re_findFool 94 [.ref r0, .ref r1, .int x2, .int x3, .int x4] [] h Q) : wpx d P_Re_findFool 91 [.ref r0, .ref r1, .int x2, .int x3, .int x4] [.int s0] h Q := by
  exact st_if_eq (pc' := 94) rfl rfl kt kf
theorem B_Re_findFool_94 {d : Nat} {h : PH} {Q : PQ} {r0 : Nat} {r1 : Nat} {x2 : Int32} {x3 : Int32} {x4 : Int32} (hs0 : h_sh h r0 = some (0, 4)) (k : wpm d 56 [.ref r0, .ref r1, .int x3, .int x4] h (fun r h' => wpx d P_Re_findFool 102 [.ref r0, .ref r1, .int x2, .int x3, .int x4] (r.toList ++ []) h' Q)) : wpx d P_Re_findFool 94 [.ref r0, .ref r1, .int x2, .int x3, .int x4] [] h Q := by
  refine st_aload (pc' := 95) rfl rfl rfl ?_
  refine st_aload (pc' := 96) rfl rfl rfl ?_
  refine st_iload (pc' := 97) rfl rfl rfl ?_
  refine st_iload (pc' := 99) rfl rfl rfl ?_
  exact st_call (pc' := 102) (as := [.ref r0, .ref r1, .int x3, .int x4]) (rest := []) rfl rfl (Nat.le_of_ble_eq_true rfl) rfl rfl (Nat.le_of_ble_eq_true rfl) (kd := 1) (o := 4) rfl rfl (beq_iff_eq.mpr hs0) k
theorem B_Re_findFool_102 {d : Nat} {h : PH} {Q : PQ} {r0 : Nat} {r1 : Nat} {x2 : Int32} {x3 : Int32} {x4 : Int32}  (k : wpx d P_Re_findFool 18 [.ref r0, .ref r1, .int x2, .int x3, .int (x4 + 1)] [] h Q) : wpx d P_Re_findFool 102 [.ref r0, .ref r1, .int x2, .int x3, .int x4] [] h Q := by
  refine st_iinc (pc' := 105) (v := 1) (ls' := [.ref r0, .ref r1, .int x2, .int x3, .int (x4 + 1)]) rfl rfl rfl (by decide) rfl ?_
  exact st_goto rfl k
theorem B_Re_findFool_108 {d : Nat} {h : PH} {Q : PQ} {r0 : Nat} {r1 : Nat} {x2 : Int32} {x3 : Int32} {x4 : Int32}  (k : wpx d P_Re_findFool 7 [.ref r0, .ref r1, .int x2, .int (x3 + 1), .int x4] [] h Q) : wpx d P_Re_findFool 108 [.ref r0, .ref r1, .int x2, .int x3, .int x4] [] h Q := by
  refine st_iinc (pc' := 111) (v := 1) (ls' := [.ref r0, .ref r1, .int x2, .int (x3 + 1), .int x4]) rfl rfl rfl (by decide) rfl ?_
  exact st_goto rfl k
theorem B_Re_findFool_114 {d : Nat} {h : PH} {Q : PQ} {r0 : Nat} {r1 : Nat} {x2 : Int32} {x3 : Int32} {v4 : Value} (hs0 : h_sh h r0 = some (0, 4)) (kt : (h_i h r0 1) ≤ 0 → wpx d P_Re_findFool 125 [.ref r0, .ref r1, .int x2, .int x3, v4] [] h Q) (kf : ¬ ((h_i h r0 1) ≤ 0) → wpx d P_Re_findFool 121 [.ref r0, .ref r1, .int x2, .int x3, v4] [] h Q) : wpx d P_Re_findFool 114 [.ref r0, .ref r1, .int x2, .int x3, v4] [] h Q := by
  refine st_aload (pc' := 115) rfl rfl rfl ?_
  refine st_getfi (Or.inl rfl) rfl hs0 rfl (pc' := 118) rfl ?_
  exact st_if_le (pc' := 121) rfl rfl kt kf
theorem B_Re_findFool_121 {d : Nat} {h : PH} {Q : PQ} {r0 : Nat} {r1 : Nat} {x2 : Int32} {x3 : Int32} {v4 : Value}  (k : wpx d P_Re_findFool 126 [.ref r0, .ref r1, .int x2, .int x3, v4] [.int 1] h Q) : wpx d P_Re_findFool 121 [.ref r0, .ref r1, .int x2, .int x3, v4] [] h Q := by
  refine st_ipush (pc' := 122) (v := 1) rfl rfl (by decide) ?_
  exact st_goto rfl k
theorem B_Re_findFool_125 {d : Nat} {h : PH} {Q : PQ} {r0 : Nat} {r1 : Nat} {x2 : Int32} {x3 : Int32} {v4 : Value}  (k : wpx d P_Re_findFool 126 [.ref r0, .ref r1, .int x2, .int x3, v4] [.int 0] h Q) : wpx d P_Re_findFool 125 [.ref r0, .ref r1, .int x2, .int x3, v4] [] h Q := by
  refine st_ipush (pc' := 126) (v := 0) rfl rfl (by decide) ?_
  exact k
theorem B_Re_findFool_126 {d : Nat} {h : PH} {Q : PQ} {r0 : Nat} {r1 : Nat} {x2 : Int32} {x3 : Int32} {v4 : Value} {s0 : Int32} (hz0 : narrow .boolean (.int s0) = .int s0) (k : Q (some (.int s0)) h) : wpx d P_Re_findFool 126 [.ref r0, .ref r1, .int x2, .int x3, v4] [.int s0] h Q := by
  exact st_ireturn (ty := .boolean) rfl rfl hz0 k
theorem B_Re_startTrial_0 {d : Nat} {h : PH} {Q : PQ} {r0 : Nat} {r1 : Nat} {x2 : Int32} {v3 : Value} {a0 : Nat} {n1 : Nat} (hs0 : h_sh h r1 = some (0, 3)) (hr1 : h_r h r1 1 = some a0) (hs2 : h_sh h a0 = some (1, n1)) (hb3 : vp_in x2 n1) (hs4 : h_sh h r0 = some (0, 4)) (k : wpx d P_Re_startTrial 12 [.ref r0, .ref r1, .int x2, .int 0] [] (w_i h r0 3 (h_i h a0 x2.toNatClampNeg)) Q) : wpx d P_Re_startTrial 0 [.ref r0, .ref r1, .int x2, v3] [] h Q := by
  refine st_aload (pc' := 1) rfl rfl rfl ?_
  refine st_aload (pc' := 2) rfl rfl rfl ?_
  refine st_getfr (x := some a0) (Or.inr rfl) rfl hs0 rfl hr1 (pc' := 5) rfl ?_
  refine st_iload (pc' := 6) rfl rfl rfl ?_
  refine st_iaload rfl hs2 hb3 (j := x2.toNatClampNeg) rfl (pc' := 7) rfl ?_
  refine st_putf (h' := w_i h r0 3 (h_i h a0 x2.toNatClampNeg)) (Or.inl rfl) rfl hs4 rfl rfl rfl (pc' := 10) rfl ?_
  refine st_ipush (pc' := 11) (v := 0) rfl rfl (by decide) ?_
  refine st_istore (pc' := 12) (ls' := [.ref r0, .ref r1, .int x2, .int 0]) rfl rfl (Nat.le_of_ble_eq_true rfl) rfl ?_
  exact k
theorem B_Re_startTrial_12 {d : Nat} {h : PH} {Q : PQ} {r0 : Nat} {r1 : Nat} {x2 : Int32} {x3 : Int32} (hs0 : h_sh h r0 = some (0, 4)) (kt : (h_i h r0 3) ≤ x3 → wpx d P_Re_startTrial 49 [.ref r0, .ref r1, .int x2, .int x3] [] h Q) (kf : ¬ ((h_i h r0 3) ≤ x3) → wpx d P_Re_startTrial 20 [.ref r0, .ref r1, .int x2, .int x3] [] h Q) : wpx d P_Re_startTrial 12 [.ref r0, .ref r1, .int x2, .int x3] [] h Q := by
  refine st_iload (pc' := 13) rfl rfl rfl ?_
  refine st_aload (pc' := 14) rfl rfl rfl ?_
  refine st_getfi (Or.inl rfl) rfl hs0 rfl (pc' := 17) rfl ?_
  exact st_icmp_ge (pc' := 20) rfl rfl kt kf
theorem B_Re_startTrial_20 {d : Nat} {h : PH} {Q : PQ} {r0 : Nat} {r1 : Nat} {x2 : Int32} {x3 : Int32} {a0 : Nat} {a1 : Nat} {n2 : Nat} {a3 : Nat} {n4 : Nat} (hs0 : h_sh h r0 = some (0, 4)) (hr1 : h_r h r0 2 = some a0) (hs2 : h_sh h r1 = some (0, 3)) (hr3 : h_r h r1 0 = some a1) (hs4 : h_sh h a1 = some (4, n2)) (hb5 : vp_in x2 n2) (hr6 : h_r h r1 1 = some a3) (hs7 : h_sh h a3 = some (1, n4)) (hb8 : vp_in x2 n4) (k : wpm d 165 [.long (h_l h a1 x2.toNatClampNeg), .int (h_i h a3 x2.toNatClampNeg), .int x3] h (fun r h' => wpx d P_Re_startTrial 41 [.ref r0, .ref r1, .int x2, .int x3] (r.toList ++ [.int x3, .ref a0]) h' Q)) : wpx d P_Re_startTrial 20 [.ref r0, .ref r1, .int x2, .int x3] [] h Q := by
  refine st_aload (pc' := 21) rfl rfl rfl ?_
  refine st_getfr (x := some a0) (Or.inl rfl) rfl hs0 rfl hr1 (pc' := 24) rfl ?_
  refine st_iload (pc' := 25) rfl rfl rfl ?_
  refine st_aload (pc' := 26) rfl rfl rfl ?_
  refine st_getfr (x := some a1) (Or.inr rfl) rfl hs2 rfl hr3 (pc' := 29) rfl ?_
  refine st_iload (pc' := 30) rfl rfl rfl ?_
  refine st_laload rfl hs4 hb5 (j := x2.toNatClampNeg) rfl (pc' := 31) rfl ?_
  refine st_aload (pc' := 32) rfl rfl rfl ?_
  refine st_getfr (x := some a3) (Or.inr rfl) rfl hs2 rfl hr6 (pc' := 35) rfl ?_
  refine st_iload (pc' := 36) rfl rfl rfl ?_
  refine st_iaload rfl hs7 hb8 (j := x2.toNatClampNeg) rfl (pc' := 37) rfl ?_
  refine st_iload (pc' := 38) rfl rfl rfl ?_
  exact st_call (pc' := 41) (as := [.long (h_l h a1 x2.toNatClampNeg), .int (h_i h a3 x2.toNatClampNeg), .int x3]) (rest := [.int x3, .ref a0]) rfl rfl (Nat.le_of_ble_eq_true rfl) rfl rfl (Nat.le_of_ble_eq_true rfl) (kd := 0) (o := 11) rfl rfl rfl k
theorem B_Re_startTrial_41 {d : Nat} {h : PH} {Q : PQ} {r0 : Nat} {r1 : Nat} {x2 : Int32} {x3 : Int32} {q0 : Nat} {s1 : Int32} {s2 : Int32} {n0 : Nat} (hs0 : h_sh h q0 = some (2, n0)) (hb1 : vp_in s1 n0) (k : wpx d P_Re_startTrial 12 [.ref r0, .ref r1, .int x2, .int (x3 + 1)] [] (w_i h q0 s1.toNatClampNeg s2.toInt8.toInt32.toInt8.toInt32) Q) : wpx d P_Re_startTrial 41 [.ref r0, .ref r1, .int x2, .int x3] [.int s2, .int s1, .ref q0] h Q := by
  refine st_i2b (pc' := 42) rfl rfl ?_
  refine st_bastore rfl hs0 hb1 (j := s1.toNatClampNeg) rfl (pc' := 43) rfl ?_
  refine st_iinc (pc' := 46) (v := 1) (ls' := [.ref r0, .ref r1, .int x2, .int (x3 + 1)]) rfl rfl rfl (by decide) rfl ?_
  exact st_goto rfl k
theorem B_Re_startTrial_49 {d : Nat} {h : PH} {Q : PQ} {r0 : Nat} {r1 : Nat} {x2 : Int32} {x3 : Int32}  (k : Q none h) : wpx d P_Re_startTrial 49 [.ref r0, .ref r1, .int x2, .int x3] [] h Q := by
  exact st_return rfl k
theorem B_Re_coverRest_0 {d : Nat} {h : PH} {Q : PQ} {r0 : Nat} {r1 : Nat} {x2 : Int32} {x3 : Int32} {v4 : Value} {v5 : Value} {v6 : Value} {a0 : Nat} {n1 : Nat} {a2 : Nat} {n3 : Nat} (hs0 : h_sh h r1 = some (0, 3)) (hr1 : h_r h r1 1 = some a0) (hs2 : h_sh h a0 = some (1, n1)) (hb3 : vp_in x3 n1) (hs4 : h_sh h r0 = some (0, 4)) (hr5 : h_r h r0 4 = some a2) (hs6 : h_sh h a2 = some (3, n3)) (k : wpm d 161 [.ref a2, .int (Int32.ofNat n3)] h (fun r h' => wpx d P_Re_coverRest 20 [.ref r0, .ref r1, .int x2, .int x3, .int (h_i h a0 x3.toNatClampNeg), v5, v6] (r.toList ++ []) h' Q)) : wpx d P_Re_coverRest 0 [.ref r0, .ref r1, .int x2, .int x3, v4, v5, v6] [] h Q := by
  refine st_aload (pc' := 1) rfl rfl rfl ?_
  refine st_getfr (x := some a0) (Or.inr rfl) rfl hs0 rfl hr1 (pc' := 4) rfl ?_
  refine st_iload (pc' := 5) rfl rfl rfl ?_
  refine st_iaload rfl hs2 hb3 (j := x3.toNatClampNeg) rfl (pc' := 6) rfl ?_
  refine st_istore (pc' := 8) (ls' := [.ref r0, .ref r1, .int x2, .int x3, .int (h_i h a0 x3.toNatClampNeg), v5, v6]) rfl rfl (Nat.le_of_ble_eq_true rfl) rfl ?_
  refine st_aload (pc' := 9) rfl rfl rfl ?_
  refine st_getfr (x := some a2) (Or.inl rfl) rfl hs4 rfl hr5 (pc' := 12) rfl ?_
  refine st_aload (pc' := 13) rfl rfl rfl ?_
  refine st_getfr (x := some a2) (Or.inl rfl) rfl hs4 rfl hr5 (pc' := 16) rfl ?_
  refine st_alen rfl hs6 (by decide) (pc' := 17) rfl ?_
  exact st_call (pc' := 20) (as := [.ref a2, .int (Int32.ofNat n3)]) (rest := []) rfl rfl (Nat.le_of_ble_eq_true rfl) rfl rfl (Nat.le_of_ble_eq_true rfl) (kd := 0) (o := 11) rfl rfl rfl k
theorem B_Re_coverRest_20 {d : Nat} {h : PH} {Q : PQ} {r0 : Nat} {r1 : Nat} {x2 : Int32} {x3 : Int32} {x4 : Int32} {v5 : Value} {v6 : Value} {a0 : Nat} {a1 : Nat} {n2 : Nat} {n3 : Nat} (hs0 : h_sh h r0 = some (0, 4)) (hr1 : h_r h r0 4 = some a0) (hs2 : h_sh h r1 = some (0, 3)) (hr3 : h_r h r1 1 = some a1) (hs4 : h_sh h a1 = some (1, n2)) (hb5 : vp_in x2 n2) (hs6 : h_sh h a0 = some (3, n3)) (hb7 : vp_in (h_i h a1 x2.toNatClampNeg) n3) (k : wpx d P_Re_coverRest 40 [.ref r0, .ref r1, .int x2, .int x3, .int x4, .int (h_i (w_i h a0 ((h_i h a1 x2.toNatClampNeg).toNatClampNeg) ((1 : Int32) &&& 1)) a1 x2.toNatClampNeg), v6] [] (w_i h a0 ((h_i h a1 x2.toNatClampNeg).toNatClampNeg) ((1 : Int32) &&& 1)) Q) : wpx d P_Re_coverRest 20 [.ref r0, .ref r1, .int x2, .int x3, .int x4, v5, v6] [] h Q := by
  refine st_aload (pc' := 21) rfl rfl rfl ?_
  refine st_getfr (x := some a0) (Or.inl rfl) rfl hs0 rfl hr1 (pc' := 24) rfl ?_
  refine st_aload (pc' := 25) rfl rfl rfl ?_
  refine st_getfr (x := some a1) (Or.inr rfl) rfl hs2 rfl hr3 (pc' := 28) rfl ?_
  refine st_iload (pc' := 29) rfl rfl rfl ?_
  refine st_iaload rfl hs4 hb5 (j := x2.toNatClampNeg) rfl (pc' := 30) rfl ?_
  refine st_ipush (pc' := 31) (v := 1) rfl rfl (by decide) ?_
  refine st_zastore rfl hs6 hb7 (j := (h_i h a1 x2.toNatClampNeg).toNatClampNeg) rfl (pc' := 32) rfl ?_
  refine st_aload (pc' := 33) rfl rfl rfl ?_
  refine st_getfr (x := some a1) (Or.inr rfl) rfl hs2 rfl hr3 (pc' := 36) rfl ?_
  refine st_iload (pc' := 37) rfl rfl rfl ?_
  refine st_iaload rfl hs4 hb5 (j := x2.toNatClampNeg) rfl (pc' := 38) rfl ?_
  refine st_istore (pc' := 40) (ls' := [.ref r0, .ref r1, .int x2, .int x3, .int x4, .int (h_i (w_i h a0 ((h_i h a1 x2.toNatClampNeg).toNatClampNeg) ((1 : Int32) &&& 1)) a1 x2.toNatClampNeg), v6]) rfl rfl (Nat.le_of_ble_eq_true rfl) rfl ?_
  exact k
theorem B_Re_coverRest_40 {d : Nat} {h : PH} {Q : PQ} {r0 : Nat} {r1 : Nat} {x2 : Int32} {x3 : Int32} {x4 : Int32} {x5 : Int32} {v6 : Value}  (kt : x4 ≤ x5 → wpx d P_Re_coverRest 100 [.ref r0, .ref r1, .int x2, .int x3, .int x4, .int x5, v6] [] h Q) (kf : ¬ (x4 ≤ x5) → wpx d P_Re_coverRest 47 [.ref r0, .ref r1, .int x2, .int x3, .int x4, .int x5, v6] [] h Q) : wpx d P_Re_coverRest 40 [.ref r0, .ref r1, .int x2, .int x3, .int x4, .int x5, v6] [] h Q := by
  refine st_iload (pc' := 42) rfl rfl rfl ?_
  refine st_iload (pc' := 44) rfl rfl rfl ?_
  exact st_icmp_ge (pc' := 47) rfl rfl kt kf
theorem B_Re_coverRest_47 {d : Nat} {h : PH} {Q : PQ} {r0 : Nat} {r1 : Nat} {x2 : Int32} {x3 : Int32} {x4 : Int32} {x5 : Int32} {v6 : Value}  (k : wpx d P_Re_coverRest 50 [.ref r0, .ref r1, .int x2, .int x3, .int x4, .int x5, .int 0] [] h Q) : wpx d P_Re_coverRest 47 [.ref r0, .ref r1, .int x2, .int x3, .int x4, .int x5, v6] [] h Q := by
  refine st_ipush (pc' := 48) (v := 0) rfl rfl (by decide) ?_
  refine st_istore (pc' := 50) (ls' := [.ref r0, .ref r1, .int x2, .int x3, .int x4, .int x5, .int 0]) rfl rfl (Nat.le_of_ble_eq_true rfl) rfl ?_
  exact k
theorem B_Re_coverRest_50 {d : Nat} {h : PH} {Q : PQ} {r0 : Nat} {r1 : Nat} {x2 : Int32} {x3 : Int32} {x4 : Int32} {x5 : Int32} {x6 : Int32} (hs0 : h_sh h r1 = some (0, 3)) (kt : (h_i h r1 3) ≤ x6 → wpx d P_Re_coverRest 94 [.ref r0, .ref r1, .int x2, .int x3, .int x4, .int x5, .int x6] [] h Q) (kf : ¬ ((h_i h r1 3) ≤ x6) → wpx d P_Re_coverRest 59 [.ref r0, .ref r1, .int x2, .int x3, .int x4, .int x5, .int x6] [] h Q) : wpx d P_Re_coverRest 50 [.ref r0, .ref r1, .int x2, .int x3, .int x4, .int x5, .int x6] [] h Q := by
  refine st_iload (pc' := 52) rfl rfl rfl ?_
  refine st_aload (pc' := 53) rfl rfl rfl ?_
  refine st_getfi (Or.inr rfl) rfl hs0 rfl (pc' := 56) rfl ?_
  exact st_icmp_ge (pc' := 59) rfl rfl kt kf
theorem B_Re_coverRest_59 {d : Nat} {h : PH} {Q : PQ} {r0 : Nat} {r1 : Nat} {x2 : Int32} {x3 : Int32} {x4 : Int32} {x5 : Int32} {x6 : Int32} {a0 : Nat} {n1 : Nat} (hs0 : h_sh h r0 = some (0, 4)) (hr1 : h_r h r0 4 = some a0) (hs2 : h_sh h a0 = some (3, n1)) (hb3 : vp_in x5 n1) (kt : (h_i h a0 x5.toNatClampNeg) = 0 → wpx d P_Re_coverRest 94 [.ref r0, .ref r1, .int x2, .int x3, .int x4, .int x5, .int x6] [] h Q) (kf : ¬ ((h_i h a0 x5.toNatClampNeg) = 0) → wpx d P_Re_coverRest 69 [.ref r0, .ref r1, .int x2, .int x3, .int x4, .int x5, .int x6] [] h Q) : wpx d P_Re_coverRest 59 [.ref r0, .ref r1, .int x2, .int x3, .int x4, .int x5, .int x6] [] h Q := by
  refine st_aload (pc' := 60) rfl rfl rfl ?_
  refine st_getfr (x := some a0) (Or.inl rfl) rfl hs0 rfl hr1 (pc' := 63) rfl ?_
  refine st_iload (pc' := 65) rfl rfl rfl ?_
  refine st_baload rfl (Or.inr hs2) hb3 (j := x5.toNatClampNeg) rfl (pc' := 66) rfl ?_
  exact st_if_eq (pc' := 69) rfl rfl kt kf
theorem B_Re_coverRest_69 {d : Nat} {h : PH} {Q : PQ} {r0 : Nat} {r1 : Nat} {x2 : Int32} {x3 : Int32} {x4 : Int32} {x5 : Int32} {x6 : Int32} (hs0 : h_sh h r1 = some (0, 3)) (k : wpm d 35 [.ref r1, .int x6] h (fun r h' => wpx d P_Re_coverRest 75 [.ref r0, .ref r1, .int x2, .int x3, .int x4, .int x5, .int x6] (r.toList ++ []) h' Q)) : wpx d P_Re_coverRest 69 [.ref r0, .ref r1, .int x2, .int x3, .int x4, .int x5, .int x6] [] h Q := by
  refine st_aload (pc' := 70) rfl rfl rfl ?_
  refine st_iload (pc' := 72) rfl rfl rfl ?_
  exact st_call (pc' := 75) (as := [.ref r1, .int x6]) (rest := []) rfl rfl (Nat.le_of_ble_eq_true rfl) rfl rfl (Nat.le_of_ble_eq_true rfl) (kd := 1) (o := 3) rfl rfl (beq_iff_eq.mpr hs0) k
theorem B_Re_coverRest_75 {d : Nat} {h : PH} {Q : PQ} {r0 : Nat} {r1 : Nat} {x2 : Int32} {x3 : Int32} {x4 : Int32} {x5 : Int32} {x6 : Int32} {s0 : Int32}  (kt : s0 = 0 → wpx d P_Re_coverRest 88 [.ref r0, .ref r1, .int x2, .int x3, .int x4, .int x5, .int x6] [] h Q) (kf : ¬ (s0 = 0) → wpx d P_Re_coverRest 78 [.ref r0, .ref r1, .int x2, .int x3, .int x4, .int x5, .int x6] [] h Q) : wpx d P_Re_coverRest 75 [.ref r0, .ref r1, .int x2, .int x3, .int x4, .int x5, .int x6] [.int s0] h Q := by
  exact st_if_eq (pc' := 78) rfl rfl kt kf
theorem B_Re_coverRest_78 {d : Nat} {h : PH} {Q : PQ} {r0 : Nat} {r1 : Nat} {x2 : Int32} {x3 : Int32} {x4 : Int32} {x5 : Int32} {x6 : Int32} (hs0 : h_sh h r0 = some (0, 4)) (k : wpm d 57 [.ref r0, .ref r1, .int x3, .int x6, .int x5] h (fun r h' => wpx d P_Re_coverRest 88 [.ref r0, .ref r1, .int x2, .int x3, .int x4, .int x5, .int x6] (r.toList ++ []) h' Q)) : wpx d P_Re_coverRest 78 [.ref r0, .ref r1, .int x2, .int x3, .int x4, .int x5, .int x6] [] h Q := by
  refine st_aload (pc' := 79) rfl rfl rfl ?_
  refine st_aload (pc' := 80) rfl rfl rfl ?_
  refine st_iload (pc' := 81) rfl rfl rfl ?_
  refine st_iload (pc' := 83) rfl rfl rfl ?_
  refine st_iload (pc' := 85) rfl rfl rfl ?_
  exact st_call (pc' := 88) (as := [.ref r0, .ref r1, .int x3, .int x6, .int x5]) (rest := []) rfl rfl (Nat.le_of_ble_eq_true rfl) rfl rfl (Nat.le_of_ble_eq_true rfl) (kd := 1) (o := 4) rfl rfl (beq_iff_eq.mpr hs0) k
theorem B_Re_coverRest_88 {d : Nat} {h : PH} {Q : PQ} {r0 : Nat} {r1 : Nat} {x2 : Int32} {x3 : Int32} {x4 : Int32} {x5 : Int32} {x6 : Int32}  (k : wpx d P_Re_coverRest 50 [.ref r0, .ref r1, .int x2, .int x3, .int x4, .int x5, .int (x6 + 1)] [] h Q) : wpx d P_Re_coverRest 88 [.ref r0, .ref r1, .int x2, .int x3, .int x4, .int x5, .int x6] [] h Q := by
  refine st_iinc (pc' := 91) (v := 1) (ls' := [.ref r0, .ref r1, .int x2, .int x3, .int x4, .int x5, .int (x6 + 1)]) rfl rfl rfl (by decide) rfl ?_
  exact st_goto rfl k
theorem B_Re_coverRest_94 {d : Nat} {h : PH} {Q : PQ} {r0 : Nat} {r1 : Nat} {x2 : Int32} {x3 : Int32} {x4 : Int32} {x5 : Int32} {x6 : Int32}  (k : wpx d P_Re_coverRest 40 [.ref r0, .ref r1, .int x2, .int x3, .int x4, .int (x5 + 1), .int x6] [] h Q) : wpx d P_Re_coverRest 94 [.ref r0, .ref r1, .int x2, .int x3, .int x4, .int x5, .int x6] [] h Q := by
  refine st_iinc (pc' := 97) (v := 1) (ls' := [.ref r0, .ref r1, .int x2, .int x3, .int x4, .int (x5 + 1), .int x6]) rfl rfl rfl (by decide) rfl ?_
  exact st_goto rfl k
theorem B_Re_coverRest_100 {d : Nat} {h : PH} {Q : PQ} {r0 : Nat} {r1 : Nat} {x2 : Int32} {x3 : Int32} {x4 : Int32} {x5 : Int32} {v6 : Value}  (k : Q none h) : wpx d P_Re_coverRest 100 [.ref r0, .ref r1, .int x2, .int x3, .int x4, .int x5, v6] [] h Q := by
  exact st_return rfl k
theorem B_Re_coverWith_0 {d : Nat} {h : PH} {Q : PQ} {r0 : Nat} {r1 : Nat} {x2 : Int32} {x3 : Int32} {x4 : Int32} {v5 : Value} {v6 : Value} {v7 : Value} {v8 : Value} {v9 : Value} {v10 : Value} {a0 : Nat} {n1 : Nat} {a2 : Nat} {n3 : Nat} (hs0 : h_sh h r1 = some (0, 3)) (hr1 : h_r h r1 1 = some a0) (hs2 : h_sh h a0 = some (1, n1)) (hb3 : vp_in x2 n1) (hb4 : vp_in x3 n1) (hr5 : h_r h r1 0 = some a2) (hs6 : h_sh h a2 = some (4, n3)) (hb7 : vp_in x2 n3) (k : wpm d 164 [.long (h_l h a2 x2.toNatClampNeg), .int ((h_i h a0 x2.toNatClampNeg) - x4)] h (fun r h' => wpx d P_Re_coverWith 42 [.ref r0, .ref r1, .int x2, .int x3, .int x4, .int (h_i h a0 x2.toNatClampNeg), .int (h_i h a0 x3.toNatClampNeg), .int (if ((h_i h a0 x2.toNatClampNeg) - x4) < (h_i h a0 x3.toNatClampNeg) then ((h_i h a0 x2.toNatClampNeg) - x4) else (h_i h a0 x3.toNatClampNeg)), v8, v9, v10] (r.toList ++ []) h' Q)) : wpx d P_Re_coverWith 0 [.ref r0, .ref r1, .int x2, .int x3, .int x4, v5, v6, v7, v8, v9, v10] [] h Q := by
  refine st_aload (pc' := 1) rfl rfl rfl ?_
  refine st_getfr (x := some a0) (Or.inr rfl) rfl hs0 rfl hr1 (pc' := 4) rfl ?_
  refine st_iload (pc' := 5) rfl rfl rfl ?_
  refine st_iaload rfl hs2 hb3 (j := x2.toNatClampNeg) rfl (pc' := 6) rfl ?_
  refine st_istore (pc' := 8) (ls' := [.ref r0, .ref r1, .int x2, .int x3, .int x4, .int (h_i h a0 x2.toNatClampNeg), v6, v7, v8, v9, v10]) rfl rfl (Nat.le_of_ble_eq_true rfl) rfl ?_
  refine st_aload (pc' := 9) rfl rfl rfl ?_
  refine st_getfr (x := some a0) (Or.inr rfl) rfl hs0 rfl hr1 (pc' := 12) rfl ?_
  refine st_iload (pc' := 13) rfl rfl rfl ?_
  refine st_iaload rfl hs2 hb4 (j := x3.toNatClampNeg) rfl (pc' := 14) rfl ?_
  refine st_istore (pc' := 16) (ls' := [.ref r0, .ref r1, .int x2, .int x3, .int x4, .int (h_i h a0 x2.toNatClampNeg), .int (h_i h a0 x3.toNatClampNeg), v7, v8, v9, v10]) rfl rfl (Nat.le_of_ble_eq_true rfl) rfl ?_
  refine st_iload (pc' := 18) rfl rfl rfl ?_
  refine st_iload (pc' := 20) rfl rfl rfl ?_
  refine st_iload (pc' := 22) rfl rfl rfl ?_
  refine st_isub (pc' := 23) rfl rfl ?_
  refine st_mmin (pc' := 26) rfl rfl (Nat.le_of_ble_eq_true rfl) ?_
  refine st_istore (pc' := 28) (ls' := [.ref r0, .ref r1, .int x2, .int x3, .int x4, .int (h_i h a0 x2.toNatClampNeg), .int (h_i h a0 x3.toNatClampNeg), .int (if ((h_i h a0 x2.toNatClampNeg) - x4) < (h_i h a0 x3.toNatClampNeg) then ((h_i h a0 x2.toNatClampNeg) - x4) else (h_i h a0 x3.toNatClampNeg)), v8, v9, v10]) rfl rfl (Nat.le_of_ble_eq_true rfl) rfl ?_
  refine st_aload (pc' := 29) rfl rfl rfl ?_
  refine st_getfr (x := some a2) (Or.inr rfl) rfl hs0 rfl hr5 (pc' := 32) rfl ?_
  refine st_iload (pc' := 33) rfl rfl rfl ?_
  refine st_laload rfl hs6 hb7 (j := x2.toNatClampNeg) rfl (pc' := 34) rfl ?_
  refine st_iload (pc' := 36) rfl rfl rfl ?_
  refine st_iload (pc' := 38) rfl rfl rfl ?_
  refine st_isub (pc' := 39) rfl rfl ?_
  exact st_call (pc' := 42) (as := [.long (h_l h a2 x2.toNatClampNeg), .int ((h_i h a0 x2.toNatClampNeg) - x4)]) (rest := []) rfl rfl (Nat.le_of_ble_eq_true rfl) rfl rfl (Nat.le_of_ble_eq_true rfl) (kd := 0) (o := 11) rfl rfl rfl k
theorem B_Re_coverWith_42 {d : Nat} {h : PH} {Q : PQ} {r0 : Nat} {r1 : Nat} {x2 : Int32} {x3 : Int32} {x4 : Int32} {x5 : Int32} {x6 : Int32} {x7 : Int32} {v8 : Value} {v9 : Value} {v10 : Value} {t0 : Int64} {a0 : Nat} {n1 : Nat} (hs0 : h_sh h r1 = some (0, 3)) (hr1 : h_r h r1 0 = some a0) (hs2 : h_sh h a0 = some (4, n1)) (hb3 : vp_in x3 n1) (k : wpm d 168 [.long t0, .int (x5 - x4), .long (h_l h a0 x3.toNatClampNeg), .int x6] h (fun r h' => wpx d P_Re_coverWith 62 [.ref r0, .ref r1, .int x2, .int x3, .int x4, .int x5, .int x6, .int x7, .long t0, .retAddr 2, v10] (r.toList ++ []) h' Q)) : wpx d P_Re_coverWith 42 [.ref r0, .ref r1, .int x2, .int x3, .int x4, .int x5, .int x6, .int x7, v8, v9, v10] [.long t0] h Q := by
  refine st_lstore (pc' := 44) (ls' := [.ref r0, .ref r1, .int x2, .int x3, .int x4, .int x5, .int x6, .int x7, .long t0, .retAddr 2, v10]) rfl rfl (Nat.le_of_ble_eq_true rfl) rfl ?_
  refine st_lload (pc' := 46) rfl rfl rfl rfl ?_
  refine st_iload (pc' := 48) rfl rfl rfl ?_
  refine st_iload (pc' := 50) rfl rfl rfl ?_
  refine st_isub (pc' := 51) rfl rfl ?_
  refine st_aload (pc' := 52) rfl rfl rfl ?_
  refine st_getfr (x := some a0) (Or.inr rfl) rfl hs0 rfl hr1 (pc' := 55) rfl ?_
  refine st_iload (pc' := 56) rfl rfl rfl ?_
  refine st_laload rfl hs2 hb3 (j := x3.toNatClampNeg) rfl (pc' := 57) rfl ?_
  refine st_iload (pc' := 59) rfl rfl rfl ?_
  exact st_call (pc' := 62) (as := [.long t0, .int (x5 - x4), .long (h_l h a0 x3.toNatClampNeg), .int x6]) (rest := []) rfl rfl (Nat.le_of_ble_eq_true rfl) rfl rfl (Nat.le_of_ble_eq_true rfl) (kd := 0) (o := 11) rfl rfl rfl k
theorem B_Re_coverWith_62 {d : Nat} {h : PH} {Q : PQ} {r0 : Nat} {r1 : Nat} {x2 : Int32} {x3 : Int32} {x4 : Int32} {x5 : Int32} {x6 : Int32} {x7 : Int32} {l8 : Int64} {v10 : Value} {s0 : Int32}  (kt : x7 ≤ s0 → wpx d P_Re_coverWith 68 [.ref r0, .ref r1, .int x2, .int x3, .int x4, .int x5, .int x6, .int x7, .long l8, .retAddr 2, v10] [] h Q) (kf : ¬ (x7 ≤ s0) → wpx d P_Re_coverWith 67 [.ref r0, .ref r1, .int x2, .int x3, .int x4, .int x5, .int x6, .int x7, .long l8, .retAddr 2, v10] [] h Q) : wpx d P_Re_coverWith 62 [.ref r0, .ref r1, .int x2, .int x3, .int x4, .int x5, .int x6, .int x7, .long l8, .retAddr 2, v10] [.int s0] h Q := by
  refine st_iload (pc' := 64) rfl rfl rfl ?_
  exact st_icmp_ge (pc' := 67) rfl rfl kt kf
theorem B_Re_coverWith_67 {d : Nat} {h : PH} {Q : PQ} {r0 : Nat} {r1 : Nat} {x2 : Int32} {x3 : Int32} {x4 : Int32} {x5 : Int32} {x6 : Int32} {x7 : Int32} {l8 : Int64} {v10 : Value}  (k : Q none h) : wpx d P_Re_coverWith 67 [.ref r0, .ref r1, .int x2, .int x3, .int x4, .int x5, .int x6, .int x7, .long l8, .retAddr 2, v10] [] h Q := by
  exact st_return rfl k
theorem B_Re_coverWith_68 {d : Nat} {h : PH} {Q : PQ} {r0 : Nat} {r1 : Nat} {x2 : Int32} {x3 : Int32} {x4 : Int32} {x5 : Int32} {x6 : Int32} {x7 : Int32} {l8 : Int64} {v10 : Value}  (kt : x5 ≤ (x4 + x6) → wpx d P_Re_coverWith 90 [.ref r0, .ref r1, .int x2, .int x3, .int x4, .int x5, .int x6, .int x7, .long l8, .retAddr 2, v10] [] h Q) (kf : ¬ (x5 ≤ (x4 + x6)) → wpx d P_Re_coverWith 78 [.ref r0, .ref r1, .int x2, .int x3, .int x4, .int x5, .int x6, .int x7, .long l8, .retAddr 2, v10] [] h Q) : wpx d P_Re_coverWith 68 [.ref r0, .ref r1, .int x2, .int x3, .int x4, .int x5, .int x6, .int x7, .long l8, .retAddr 2, v10] [] h Q := by
  refine st_iload (pc' := 70) rfl rfl rfl ?_
  refine st_iload (pc' := 72) rfl rfl rfl ?_
  refine st_iadd (pc' := 73) rfl rfl ?_
  refine st_iload (pc' := 75) rfl rfl rfl ?_
  exact st_icmp_ge (pc' := 78) rfl rfl kt kf
theorem B_Re_coverWith_78 {d : Nat} {h : PH} {Q : PQ} {r0 : Nat} {r1 : Nat} {x2 : Int32} {x3 : Int32} {x4 : Int32} {x5 : Int32} {x6 : Int32} {x7 : Int32} {l8 : Int64} {v10 : Value} {a0 : Nat} {n1 : Nat} (hs0 : h_sh h r0 = some (0, 4)) (hr1 : h_r h r0 4 = some a0) (hs2 : h_sh h a0 = some (3, n1)) (hb3 : vp_in (x4 + x6) n1) (k : Q none (w_i h a0 ((x4 + x6).toNatClampNeg) ((1 : Int32) &&& 1))) : wpx d P_Re_coverWith 78 [.ref r0, .ref r1, .int x2, .int x3, .int x4, .int x5, .int x6, .int x7, .long l8, .retAddr 2, v10] [] h Q := by
  refine st_aload (pc' := 79) rfl rfl rfl ?_
  refine st_getfr (x := some a0) (Or.inl rfl) rfl hs0 rfl hr1 (pc' := 82) rfl ?_
  refine st_iload (pc' := 84) rfl rfl rfl ?_
  refine st_iload (pc' := 86) rfl rfl rfl ?_
  refine st_iadd (pc' := 87) rfl rfl ?_
  refine st_ipush (pc' := 88) (v := 1) rfl rfl (by decide) ?_
  refine st_zastore rfl hs2 hb3 (j := (x4 + x6).toNatClampNeg) rfl (pc' := 89) rfl ?_
  exact st_return rfl k
theorem B_Re_coverWith_90 {d : Nat} {h : PH} {Q : PQ} {r0 : Nat} {r1 : Nat} {x2 : Int32} {x3 : Int32} {x4 : Int32} {x5 : Int32} {x6 : Int32} {x7 : Int32} {l8 : Int64} {v10 : Value} (hs0 : h_sh h r0 = some (0, 4)) (k : wpm d 55 [.ref r0, .ref r1, .int x2] h (fun r h' => wpx d P_Re_coverWith 96 [.ref r0, .ref r1, .int x2, .int x3, .int x4, .int x5, .int x6, .int x7, .long l8, .retAddr 2, v10] (r.toList ++ []) h' Q)) : wpx d P_Re_coverWith 90 [.ref r0, .ref r1, .int x2, .int x3, .int x4, .int x5, .int x6, .int x7, .long l8, .retAddr 2, v10] [] h Q := by
  refine st_aload (pc' := 91) rfl rfl rfl ?_
  refine st_aload (pc' := 92) rfl rfl rfl ?_
  refine st_iload (pc' := 93) rfl rfl rfl ?_
  exact st_call (pc' := 96) (as := [.ref r0, .ref r1, .int x2]) (rest := []) rfl rfl (Nat.le_of_ble_eq_true rfl) rfl rfl (Nat.le_of_ble_eq_true rfl) (kd := 1) (o := 4) rfl rfl (beq_iff_eq.mpr hs0) k
theorem B_Re_coverWith_96 {d : Nat} {h : PH} {Q : PQ} {r0 : Nat} {r1 : Nat} {x2 : Int32} {x3 : Int32} {x4 : Int32} {x5 : Int32} {x6 : Int32} {x7 : Int32} {l8 : Int64} {v10 : Value}  (k : wpx d P_Re_coverWith 100 [.ref r0, .ref r1, .int x2, .int x3, .int x4, .int x5, .int x6, .int x7, .long l8, .retAddr 2, .int x7] [] h Q) : wpx d P_Re_coverWith 96 [.ref r0, .ref r1, .int x2, .int x3, .int x4, .int x5, .int x6, .int x7, .long l8, .retAddr 2, v10] [] h Q := by
  refine st_iload (pc' := 98) rfl rfl rfl ?_
  refine st_istore (pc' := 100) (ls' := [.ref r0, .ref r1, .int x2, .int x3, .int x4, .int x5, .int x6, .int x7, .long l8, .retAddr 2, .int x7]) rfl rfl (Nat.le_of_ble_eq_true rfl) rfl ?_
  exact k
theorem B_Re_coverWith_100 {d : Nat} {h : PH} {Q : PQ} {r0 : Nat} {r1 : Nat} {x2 : Int32} {x3 : Int32} {x4 : Int32} {x5 : Int32} {x6 : Int32} {x7 : Int32} {l8 : Int64} {x10 : Int32}  (kt : x6 ≤ x10 → wpx d P_Re_coverWith 155 [.ref r0, .ref r1, .int x2, .int x3, .int x4, .int x5, .int x6, .int x7, .long l8, .retAddr 2, .int x10] [] h Q) (kf : ¬ (x6 ≤ x10) → wpx d P_Re_coverWith 107 [.ref r0, .ref r1, .int x2, .int x3, .int x4, .int x5, .int x6, .int x7, .long l8, .retAddr 2, .int x10] [] h Q) : wpx d P_Re_coverWith 100 [.ref r0, .ref r1, .int x2, .int x3, .int x4, .int x5, .int x6, .int x7, .long l8, .retAddr 2, .int x10] [] h Q := by
  refine st_iload (pc' := 102) rfl rfl rfl ?_
  refine st_iload (pc' := 104) rfl rfl rfl ?_
  exact st_icmp_ge (pc' := 107) rfl rfl kt kf
theorem B_Re_coverWith_107 {d : Nat} {h : PH} {Q : PQ} {r0 : Nat} {r1 : Nat} {x2 : Int32} {x3 : Int32} {x4 : Int32} {x5 : Int32} {x6 : Int32} {x7 : Int32} {l8 : Int64} {x10 : Int32} (hs0 : h_sh h r0 = some (0, 4)) (kt : (14 : Int32) ≤ (h_i h r0 3) → wpx d P_Re_coverWith 155 [.ref r0, .ref r1, .int x2, .int x3, .int x4, .int x5, .int x6, .int x7, .long l8, .retAddr 2, .int x10] [] h Q) (kf : ¬ ((14 : Int32) ≤ (h_i h r0 3)) → wpx d P_Re_coverWith 116 [.ref r0, .ref r1, .int x2, .int x3, .int x4, .int x5, .int x6, .int x7, .long l8, .retAddr 2, .int x10] [] h Q) : wpx d P_Re_coverWith 107 [.ref r0, .ref r1, .int x2, .int x3, .int x4, .int x5, .int x6, .int x7, .long l8, .retAddr 2, .int x10] [] h Q := by
  refine st_aload (pc' := 108) rfl rfl rfl ?_
  refine st_getfi (Or.inl rfl) rfl hs0 rfl (pc' := 111) rfl ?_
  refine st_ipush (pc' := 113) (v := 14) rfl rfl (by decide) ?_
  exact st_icmp_ge (pc' := 116) rfl rfl kt kf
theorem B_Re_coverWith_116 {d : Nat} {h : PH} {Q : PQ} {r0 : Nat} {r1 : Nat} {x2 : Int32} {x3 : Int32} {x4 : Int32} {x5 : Int32} {x6 : Int32} {x7 : Int32} {l8 : Int64} {x10 : Int32} {a0 : Nat} {a1 : Nat} {n2 : Nat} (hs0 : h_sh h r0 = some (0, 4)) (hr1 : h_r h r0 2 = some a0) (hs2 : h_sh h r1 = some (0, 3)) (hr3 : h_r h r1 0 = some a1) (hs4 : h_sh h a1 = some (4, n2)) (hb5 : vp_in x3 n2) (k : wpm d 165 [.long (h_l h a1 x3.toNatClampNeg), .int x6, .int x10] h (fun r h' => wpx d P_Re_coverWith 137 [.ref r0, .ref r1, .int x2, .int x3, .int x4, .int x5, .int x6, .int x7, .long l8, .retAddr 2, .int x10] (r.toList ++ [.int (h_i h r0 3), .ref a0]) h' Q)) : wpx d P_Re_coverWith 116 [.ref r0, .ref r1, .int x2, .int x3, .int x4, .int x5, .int x6, .int x7, .long l8, .retAddr 2, .int x10] [] h Q := by
  refine st_aload (pc' := 117) rfl rfl rfl ?_
  refine st_getfr (x := some a0) (Or.inl rfl) rfl hs0 rfl hr1 (pc' := 120) rfl ?_
  refine st_aload (pc' := 121) rfl rfl rfl ?_
  refine st_getfi (Or.inl rfl) rfl hs0 rfl (pc' := 124) rfl ?_
  refine st_aload (pc' := 125) rfl rfl rfl ?_
  refine st_getfr (x := some a1) (Or.inr rfl) rfl hs2 rfl hr3 (pc' := 128) rfl ?_
  refine st_iload (pc' := 129) rfl rfl rfl ?_
  refine st_laload rfl hs4 hb5 (j := x3.toNatClampNeg) rfl (pc' := 130) rfl ?_
  refine st_iload (pc' := 132) rfl rfl rfl ?_
  refine st_iload (pc' := 134) rfl rfl rfl ?_
  exact st_call (pc' := 137) (as := [.long (h_l h a1 x3.toNatClampNeg), .int x6, .int x10]) (rest := [.int (h_i h r0 3), .ref a0]) rfl rfl (Nat.le_of_ble_eq_true rfl) rfl rfl (Nat.le_of_ble_eq_true rfl) (kd := 0) (o := 11) rfl rfl rfl k
theorem B_Re_coverWith_137 {d : Nat} {h : PH} {Q : PQ} {r0 : Nat} {r1 : Nat} {x2 : Int32} {x3 : Int32} {x4 : Int32} {x5 : Int32} {x6 : Int32} {x7 : Int32} {l8 : Int64} {x10 : Int32} {q0 : Nat} {s1 : Int32} {s2 : Int32} {n0 : Nat} (hs0 : h_sh h q0 = some (2, n0)) (hb1 : vp_in s1 n0) (hs2 : h_sh h r0 = some (0, 4)) (k : wpx d P_Re_coverWith 100 [.ref r0, .ref r1, .int x2, .int x3, .int x4, .int x5, .int x6, .int x7, .long l8, .retAddr 2, .int (x10 + 1)] [] (w_i (w_i h q0 s1.toNatClampNeg s2.toInt8.toInt32.toInt8.toInt32) r0 3 ((h_i (w_i h q0 s1.toNatClampNeg s2.toInt8.toInt32.toInt8.toInt32) r0 3) + (1 : Int32))) Q) : wpx d P_Re_coverWith 137 [.ref r0, .ref r1, .int x2, .int x3, .int x4, .int x5, .int x6, .int x7, .long l8, .retAddr 2, .int x10] [.int s2, .int s1, .ref q0] h Q := by
  refine st_i2b (pc' := 138) rfl rfl ?_
  refine st_bastore rfl hs0 hb1 (j := s1.toNatClampNeg) rfl (pc' := 139) rfl ?_
  refine st_aload (pc' := 140) rfl rfl rfl ?_
  refine st_dup (pc' := 141) rfl rfl rfl ?_
  refine st_getfi (Or.inl rfl) rfl hs2 rfl (pc' := 144) rfl ?_
  refine st_ipush (pc' := 145) (v := 1) rfl rfl (by decide) ?_
  refine st_iadd (pc' := 146) rfl rfl ?_
  refine st_putf (h' := w_i (w_i h q0 s1.toNatClampNeg s2.toInt8.toInt32.toInt8.toInt32) r0 3 ((h_i (w_i h q0 s1.toNatClampNeg s2.toInt8.toInt32.toInt8.toInt32) r0 3) + (1 : Int32))) (Or.inl rfl) rfl hs2 rfl rfl rfl (pc' := 149) rfl ?_
  refine st_iinc (pc' := 152) (v := 1) (ls' := [.ref r0, .ref r1, .int x2, .int x3, .int x4, .int x5, .int x6, .int x7, .long l8, .retAddr 2, .int (x10 + 1)]) rfl rfl rfl (by decide) rfl ?_
  exact st_goto rfl k
theorem B_Re_coverWith_155 {d : Nat} {h : PH} {Q : PQ} {r0 : Nat} {r1 : Nat} {x2 : Int32} {x3 : Int32} {x4 : Int32} {x5 : Int32} {x6 : Int32} {x7 : Int32} {l8 : Int64} {x10 : Int32} (hs0 : h_sh h r0 = some (0, 4)) (k : wpm d 58 [.ref r0] h (fun r h' => wpx d P_Re_coverWith 159 [.ref r0, .ref r1, .int x2, .int x3, .int x4, .int x5, .int x6, .int x7, .long l8, .retAddr 2, .int x10] (r.toList ++ []) h' Q)) : wpx d P_Re_coverWith 155 [.ref r0, .ref r1, .int x2, .int x3, .int x4, .int x5, .int x6, .int x7, .long l8, .retAddr 2, .int x10] [] h Q := by
  refine st_aload (pc' := 156) rfl rfl rfl ?_
  exact st_call (pc' := 159) (as := [.ref r0]) (rest := []) rfl rfl (Nat.le_of_ble_eq_true rfl) rfl rfl (Nat.le_of_ble_eq_true rfl) (kd := 1) (o := 4) rfl rfl (beq_iff_eq.mpr hs0) k
theorem B_Re_coverWith_159 {d : Nat} {h : PH} {Q : PQ} {r0 : Nat} {r1 : Nat} {x2 : Int32} {x3 : Int32} {x4 : Int32} {x5 : Int32} {x6 : Int32} {x7 : Int32} {l8 : Int64} {x10 : Int32}  (k : Q none h) : wpx d P_Re_coverWith 159 [.ref r0, .ref r1, .int x2, .int x3, .int x4, .int x5, .int x6, .int x7, .long l8, .retAddr 2, .int x10] [] h Q := by
  exact st_return rfl k
theorem B_Re_keepBetter_0 {d : Nat} {h : PH} {Q : PQ} {r0 : Nat} (hs0 : h_sh h r0 = some (0, 4)) (kt : (h_i h r0 1) = 0 → wpx d P_Re_keepBetter 36 [.ref r0] [] h Q) (kf : ¬ ((h_i h r0 1) = 0) → wpx d P_Re_keepBetter 7 [.ref r0] [] h Q) : wpx d P_Re_keepBetter 0 [.ref r0] [] h Q := by
  refine st_aload (pc' := 1) rfl rfl rfl ?_
  refine st_getfi (Or.inl rfl) rfl hs0 rfl (pc' := 4) rfl ?_
  exact st_if_eq (pc' := 7) rfl rfl kt kf
theorem B_Re_keepBetter_7 {d : Nat} {h : PH} {Q : PQ} {r0 : Nat} (hs0 : h_sh h r0 = some (0, 4)) (kt : (h_i h r0 3) < (h_i h r0 1) → wpx d P_Re_keepBetter 36 [.ref r0] [] h Q) (kf : ¬ ((h_i h r0 3) < (h_i h r0 1)) → wpx d P_Re_keepBetter 18 [.ref r0] [] h Q) : wpx d P_Re_keepBetter 7 [.ref r0] [] h Q := by
  refine st_aload (pc' := 8) rfl rfl rfl ?_
  refine st_getfi (Or.inl rfl) rfl hs0 rfl (pc' := 11) rfl ?_
  refine st_aload (pc' := 12) rfl rfl rfl ?_
  refine st_getfi (Or.inl rfl) rfl hs0 rfl (pc' := 15) rfl ?_
  exact st_icmp_lt (pc' := 18) rfl rfl kt kf
theorem B_Re_keepBetter_18 {d : Nat} {h : PH} {Q : PQ} {r0 : Nat} (hs0 : h_sh h r0 = some (0, 4)) (kt : ¬ ((h_i h r0 3) = (h_i h r0 1)) → wpx d P_Re_keepBetter 61 [.ref r0] [] h Q) (kf : (h_i h r0 3) = (h_i h r0 1) → wpx d P_Re_keepBetter 29 [.ref r0] [] h Q) : wpx d P_Re_keepBetter 18 [.ref r0] [] h Q := by
  refine st_aload (pc' := 19) rfl rfl rfl ?_
  refine st_getfi (Or.inl rfl) rfl hs0 rfl (pc' := 22) rfl ?_
  refine st_aload (pc' := 23) rfl rfl rfl ?_
  refine st_getfi (Or.inl rfl) rfl hs0 rfl (pc' := 26) rfl ?_
  exact st_icmp_ne (pc' := 29) rfl rfl kt kf
theorem B_Re_keepBetter_29 {d : Nat} {h : PH} {Q : PQ} {r0 : Nat} (hs0 : h_sh h r0 = some (0, 4)) (k : wpm d 59 [.ref r0] h (fun r h' => wpx d P_Re_keepBetter 33 [.ref r0] (r.toList ++ []) h' Q)) : wpx d P_Re_keepBetter 29 [.ref r0] [] h Q := by
  refine st_aload (pc' := 30) rfl rfl rfl ?_
  exact st_call (pc' := 33) (as := [.ref r0]) (rest := []) rfl rfl (Nat.le_of_ble_eq_true rfl) rfl rfl (Nat.le_of_ble_eq_true rfl) (kd := 1) (o := 4) rfl rfl (beq_iff_eq.mpr hs0) k
theorem B_Re_keepBetter_33 {d : Nat} {h : PH} {Q : PQ} {r0 : Nat} {s0 : Int32}  (kt : s0 = 0 → wpx d P_Re_keepBetter 61 [.ref r0] [] h Q) (kf : ¬ (s0 = 0) → wpx d P_Re_keepBetter 36 [.ref r0] [] h Q) : wpx d P_Re_keepBetter 33 [.ref r0] [.int s0] h Q := by
  exact st_if_eq (pc' := 36) rfl rfl kt kf
theorem B_Re_keepBetter_36 {d : Nat} {h : PH} {Q : PQ} {r0 : Nat} {a0 : Nat} {a1 : Nat} {n2 : Nat} {n3 : Nat} (hs0 : h_sh h r0 = some (0, 4)) (hr1 : h_r h r0 2 = some a0) (hr2 : h_r h r0 0 = some a1) (hs3 : h_sh h a0 = some (2, n2)) (hs4 : h_sh h a1 = some (2, n3)) (hc5 : (¬ (0 : Int32) < 0) ∧ (¬ (0 : Int32) < 0) ∧ (¬ (h_i h r0 3) < 0) ∧ (0 : Int32).toNatClampNeg + (h_i h r0 3).toNatClampNeg ≤ n2 ∧ (0 : Int32).toNatClampNeg + (h_i h r0 3).toNatClampNeg ≤ n3 ∧ (List.range (h_i h r0 3).toNatClampNeg).all (fun j => fits .byte (.int (h_i h a0 ((0 : Int32).toNatClampNeg + j)))) = true) (k : wpx d P_Re_keepBetter 61 [.ref r0] [] (w_i (w_ri h a1 (va_cpy (h_i h a0) (h_i h a1) 0 0 ((h_i h r0 3).toNatClampNeg))) r0 1 (h_i (w_ri h a1 (va_cpy (h_i h a0) (h_i h a1) 0 0 ((h_i h r0 3).toNatClampNeg))) r0 3)) Q) : wpx d P_Re_keepBetter 36 [.ref r0] [] h Q := by
  refine st_aload (pc' := 37) rfl rfl rfl ?_
  refine st_getfr (x := some a0) (Or.inl rfl) rfl hs0 rfl hr1 (pc' := 40) rfl ?_
  refine st_ipush (pc' := 41) (v := 0) rfl rfl (by decide) ?_
  refine st_aload (pc' := 42) rfl rfl rfl ?_
  refine st_getfr (x := some a1) (Or.inl rfl) rfl hs0 rfl hr2 (pc' := 45) rfl ?_
  refine st_ipush (pc' := 46) (v := 0) rfl rfl (by decide) ?_
  refine st_aload (pc' := 47) rfl rfl rfl ?_
  refine st_getfi (Or.inl rfl) rfl hs0 rfl (pc' := 50) rfl ?_
  refine st_copyB (pc' := 53) rfl rfl (Nat.le_of_ble_eq_true rfl) hs3 hs4 hc5 (js := 0) (jd := 0) (jn := (h_i h r0 3).toNatClampNeg) (by decide) (by decide) rfl ?_
  refine st_aload (pc' := 54) rfl rfl rfl ?_
  refine st_aload (pc' := 55) rfl rfl rfl ?_
  refine st_getfi (Or.inl rfl) rfl hs0 rfl (pc' := 58) rfl ?_
  refine st_putf (h' := w_i (w_ri h a1 (va_cpy (h_i h a0) (h_i h a1) 0 0 ((h_i h r0 3).toNatClampNeg))) r0 1 (h_i (w_ri h a1 (va_cpy (h_i h a0) (h_i h a1) 0 0 ((h_i h r0 3).toNatClampNeg))) r0 3)) (Or.inl rfl) rfl hs0 rfl rfl rfl (pc' := 61) rfl ?_
  exact k
theorem B_Re_keepBetter_61 {d : Nat} {h : PH} {Q : PQ} {r0 : Nat}  (k : Q none h) : wpx d P_Re_keepBetter 61 [.ref r0] [] h Q := by
  exact st_return rfl k
theorem B_Re_trialIsEarlier_0 {d : Nat} {h : PH} {Q : PQ} {r0 : Nat} {v1 : Value}  (k : wpx d P_Re_trialIsEarlier 2 [.ref r0, .int 0] [] h Q) : wpx d P_Re_trialIsEarlier 0 [.ref r0, v1] [] h Q := by
  refine st_ipush (pc' := 1) (v := 0) rfl rfl (by decide) ?_
  refine st_istore (pc' := 2) (ls' := [.ref r0, .int 0]) rfl rfl (Nat.le_of_ble_eq_true rfl) rfl ?_
  exact k
theorem B_Re_trialIsEarlier_2 {d : Nat} {h : PH} {Q : PQ} {r0 : Nat} {x1 : Int32} (hs0 : h_sh h r0 = some (0, 4)) (kt : (h_i h r0 3) ≤ x1 → wpx d P_Re_trialIsEarlier 52 [.ref r0, .int x1] [] h Q) (kf : ¬ ((h_i h r0 3) ≤ x1) → wpx d P_Re_trialIsEarlier 10 [.ref r0, .int x1] [] h Q) : wpx d P_Re_trialIsEarlier 2 [.ref r0, .int x1] [] h Q := by
  refine st_iload (pc' := 3) rfl rfl rfl ?_
  refine st_aload (pc' := 4) rfl rfl rfl ?_
  refine st_getfi (Or.inl rfl) rfl hs0 rfl (pc' := 7) rfl ?_
  exact st_icmp_ge (pc' := 10) rfl rfl kt kf
theorem B_Re_trialIsEarlier_10 {d : Nat} {h : PH} {Q : PQ} {r0 : Nat} {x1 : Int32} {a0 : Nat} {n1 : Nat} {a2 : Nat} {n3 : Nat} (hs0 : h_sh h r0 = some (0, 4)) (hr1 : h_r h r0 2 = some a0) (hs2 : h_sh h a0 = some (2, n1)) (hb3 : vp_in x1 n1) (hr4 : h_r h r0 0 = some a2) (hs5 : h_sh h a2 = some (2, n3)) (hb6 : vp_in x1 n3) (kt : (h_i h a0 x1.toNatClampNeg) = (h_i h a2 x1.toNatClampNeg) → wpx d P_Re_trialIsEarlier 46 [.ref r0, .int x1] [] h Q) (kf : ¬ ((h_i h a0 x1.toNatClampNeg) = (h_i h a2 x1.toNatClampNeg)) → wpx d P_Re_trialIsEarlier 25 [.ref r0, .int x1] [] h Q) : wpx d P_Re_trialIsEarlier 10 [.ref r0, .int x1] [] h Q := by
  refine st_aload (pc' := 11) rfl rfl rfl ?_
  refine st_getfr (x := some a0) (Or.inl rfl) rfl hs0 rfl hr1 (pc' := 14) rfl ?_
  refine st_iload (pc' := 15) rfl rfl rfl ?_
  refine st_baload rfl (Or.inl hs2) hb3 (j := x1.toNatClampNeg) rfl (pc' := 16) rfl ?_
  refine st_aload (pc' := 17) rfl rfl rfl ?_
  refine st_getfr (x := some a2) (Or.inl rfl) rfl hs0 rfl hr4 (pc' := 20) rfl ?_
  refine st_iload (pc' := 21) rfl rfl rfl ?_
  refine st_baload rfl (Or.inl hs5) hb6 (j := x1.toNatClampNeg) rfl (pc' := 22) rfl ?_
  exact st_icmp_eq (pc' := 25) rfl rfl kt kf
theorem B_Re_trialIsEarlier_25 {d : Nat} {h : PH} {Q : PQ} {r0 : Nat} {x1 : Int32} {a0 : Nat} {n1 : Nat} {a2 : Nat} {n3 : Nat} (hs0 : h_sh h r0 = some (0, 4)) (hr1 : h_r h r0 2 = some a0) (hs2 : h_sh h a0 = some (2, n1)) (hb3 : vp_in x1 n1) (hr4 : h_r h r0 0 = some a2) (hs5 : h_sh h a2 = some (2, n3)) (hb6 : vp_in x1 n3) (kt : (h_i h a2 x1.toNatClampNeg) ≤ (h_i h a0 x1.toNatClampNeg) → wpx d P_Re_trialIsEarlier 44 [.ref r0, .int x1] [] h Q) (kf : ¬ ((h_i h a2 x1.toNatClampNeg) ≤ (h_i h a0 x1.toNatClampNeg)) → wpx d P_Re_trialIsEarlier 40 [.ref r0, .int x1] [] h Q) : wpx d P_Re_trialIsEarlier 25 [.ref r0, .int x1] [] h Q := by
  refine st_aload (pc' := 26) rfl rfl rfl ?_
  refine st_getfr (x := some a0) (Or.inl rfl) rfl hs0 rfl hr1 (pc' := 29) rfl ?_
  refine st_iload (pc' := 30) rfl rfl rfl ?_
  refine st_baload rfl (Or.inl hs2) hb3 (j := x1.toNatClampNeg) rfl (pc' := 31) rfl ?_
  refine st_aload (pc' := 32) rfl rfl rfl ?_
  refine st_getfr (x := some a2) (Or.inl rfl) rfl hs0 rfl hr4 (pc' := 35) rfl ?_
  refine st_iload (pc' := 36) rfl rfl rfl ?_
  refine st_baload rfl (Or.inl hs5) hb6 (j := x1.toNatClampNeg) rfl (pc' := 37) rfl ?_
  exact st_icmp_ge (pc' := 40) rfl rfl kt kf
theorem B_Re_trialIsEarlier_40 {d : Nat} {h : PH} {Q : PQ} {r0 : Nat} {x1 : Int32}  (k : wpx d P_Re_trialIsEarlier 45 [.ref r0, .int x1] [.int 1] h Q) : wpx d P_Re_trialIsEarlier 40 [.ref r0, .int x1] [] h Q := by
  refine st_ipush (pc' := 41) (v := 1) rfl rfl (by decide) ?_
  exact st_goto rfl k
theorem B_Re_trialIsEarlier_44 {d : Nat} {h : PH} {Q : PQ} {r0 : Nat} {x1 : Int32}  (k : wpx d P_Re_trialIsEarlier 45 [.ref r0, .int x1] [.int 0] h Q) : wpx d P_Re_trialIsEarlier 44 [.ref r0, .int x1] [] h Q := by
  refine st_ipush (pc' := 45) (v := 0) rfl rfl (by decide) ?_
  exact k
theorem B_Re_trialIsEarlier_45 {d : Nat} {h : PH} {Q : PQ} {r0 : Nat} {x1 : Int32} {s0 : Int32} (hz0 : narrow .boolean (.int s0) = .int s0) (k : Q (some (.int s0)) h) : wpx d P_Re_trialIsEarlier 45 [.ref r0, .int x1] [.int s0] h Q := by
  exact st_ireturn (ty := .boolean) rfl rfl hz0 k
theorem B_Re_trialIsEarlier_46 {d : Nat} {h : PH} {Q : PQ} {r0 : Nat} {x1 : Int32}  (k : wpx d P_Re_trialIsEarlier 2 [.ref r0, .int (x1 + 1)] [] h Q) : wpx d P_Re_trialIsEarlier 46 [.ref r0, .int x1] [] h Q := by
  refine st_iinc (pc' := 49) (v := 1) (ls' := [.ref r0, .int (x1 + 1)]) rfl rfl rfl (by decide) rfl ?_
  exact st_goto rfl k
theorem B_Re_trialIsEarlier_52 {d : Nat} {h : PH} {Q : PQ} {r0 : Nat} {x1 : Int32}  (k : Q (some (.int 0)) h) : wpx d P_Re_trialIsEarlier 52 [.ref r0, .int x1] [] h Q := by
  refine st_ipush (pc' := 53) (v := 0) rfl rfl (by decide) ?_
  exact st_ireturn (ty := .boolean) rfl rfl (by decide) k
theorem B_Re_copyTo_0 {d : Nat} {h : PH} {Q : PQ} {r0 : Nat} {r1 : Nat} {v2 : Value} (hs0 : h_sh h r1 = some (0, 10)) (k : wpm d 106 [.ref r1] h (fun r h' => wpx d P_Re_copyTo 4 [.ref r0, .ref r1, v2] (r.toList ++ []) h' Q)) : wpx d P_Re_copyTo 0 [.ref r0, .ref r1, v2] [] h Q := by
  refine st_aload (pc' := 1) rfl rfl rfl ?_
  exact st_call (pc' := 4) (as := [.ref r1]) (rest := []) rfl rfl (Nat.le_of_ble_eq_true rfl) rfl rfl (Nat.le_of_ble_eq_true rfl) (kd := 1) (o := 10) rfl rfl (beq_iff_eq.mpr hs0) k
theorem B_Re_copyTo_4 {d : Nat} {h : PH} {Q : PQ} {r0 : Nat} {r1 : Nat} {v2 : Value}  (k : wpx d P_Re_copyTo 6 [.ref r0, .ref r1, .int 0] [] h Q) : wpx d P_Re_copyTo 4 [.ref r0, .ref r1, v2] [] h Q := by
  refine st_ipush (pc' := 5) (v := 0) rfl rfl (by decide) ?_
  refine st_istore (pc' := 6) (ls' := [.ref r0, .ref r1, .int 0]) rfl rfl (Nat.le_of_ble_eq_true rfl) rfl ?_
  exact k
theorem B_Re_copyTo_6 {d : Nat} {h : PH} {Q : PQ} {r0 : Nat} {r1 : Nat} {x2 : Int32} (hs0 : h_sh h r0 = some (0, 4)) (kt : (h_i h r0 1) ≤ x2 → wpx d P_Re_copyTo 30 [.ref r0, .ref r1, .int x2] [] h Q) (kf : ¬ ((h_i h r0 1) ≤ x2) → wpx d P_Re_copyTo 14 [.ref r0, .ref r1, .int x2] [] h Q) : wpx d P_Re_copyTo 6 [.ref r0, .ref r1, .int x2] [] h Q := by
  refine st_iload (pc' := 7) rfl rfl rfl ?_
  refine st_aload (pc' := 8) rfl rfl rfl ?_
  refine st_getfi (Or.inl rfl) rfl hs0 rfl (pc' := 11) rfl ?_
  exact st_icmp_ge (pc' := 14) rfl rfl kt kf
theorem B_Re_copyTo_14 {d : Nat} {h : PH} {Q : PQ} {r0 : Nat} {r1 : Nat} {x2 : Int32} {a0 : Nat} {n1 : Nat} (hs0 : h_sh h r0 = some (0, 4)) (hr1 : h_r h r0 0 = some a0) (hs2 : h_sh h a0 = some (2, n1)) (hb3 : vp_in x2 n1) (hs4 : h_sh h r1 = some (0, 10)) (k : wpm d 107 [.ref r1, .int (h_i h a0 x2.toNatClampNeg)] h (fun r h' => wpx d P_Re_copyTo 24 [.ref r0, .ref r1, .int x2] (r.toList ++ []) h' Q)) : wpx d P_Re_copyTo 14 [.ref r0, .ref r1, .int x2] [] h Q := by
  refine st_aload (pc' := 15) rfl rfl rfl ?_
  refine st_aload (pc' := 16) rfl rfl rfl ?_
  refine st_getfr (x := some a0) (Or.inl rfl) rfl hs0 rfl hr1 (pc' := 19) rfl ?_
  refine st_iload (pc' := 20) rfl rfl rfl ?_
  refine st_baload rfl (Or.inl hs2) hb3 (j := x2.toNatClampNeg) rfl (pc' := 21) rfl ?_
  exact st_call (pc' := 24) (as := [.ref r1, .int (h_i h a0 x2.toNatClampNeg)]) (rest := []) rfl rfl (Nat.le_of_ble_eq_true rfl) rfl rfl (Nat.le_of_ble_eq_true rfl) (kd := 1) (o := 10) rfl rfl (beq_iff_eq.mpr hs4) k
theorem B_Re_copyTo_24 {d : Nat} {h : PH} {Q : PQ} {r0 : Nat} {r1 : Nat} {x2 : Int32}  (k : wpx d P_Re_copyTo 6 [.ref r0, .ref r1, .int (x2 + 1)] [] h Q) : wpx d P_Re_copyTo 24 [.ref r0, .ref r1, .int x2] [] h Q := by
  refine st_iinc (pc' := 27) (v := 1) (ls' := [.ref r0, .ref r1, .int (x2 + 1)]) rfl rfl rfl (by decide) rfl ?_
  exact st_goto rfl k
theorem B_Re_copyTo_30 {d : Nat} {h : PH} {Q : PQ} {r0 : Nat} {r1 : Nat} {x2 : Int32}  (k : Q none h) : wpx d P_Re_copyTo 30 [.ref r0, .ref r1, .int x2] [] h Q := by
  exact st_return rfl k
theorem B_Wo_init_0 {d : Nat} {h : PH} {Q : PQ} {r0 : Nat} (hs0 : h_sh (h_new h (2, 800) 800) r0 = some (0, 10)) (hs1 : h_sh (h_new (w_r (h_new h (2, 800) 800) r0 0 (some (h_ct h))) (4, 801) 801) r0 = some (0, 10)) (hs2 : h_sh (h_new (w_r (h_new (w_r (h_new h (2, 800) 800) r0 0 (some (h_ct h))) (4, 801) 801) r0 2 (some (h_ct (w_r (h_new h (2, 800) 800) r0 0 (some (h_ct h)))))) (3, 801) 801) r0 = some (0, 10)) (k : wpx d P_Wo_init 31 [.ref r0] [] (w_r (h_new (w_r (h_new (w_r (h_new h (2, 800) 800) r0 0 (some (h_ct h))) (4, 801) 801) r0 2 (some (h_ct (w_r (h_new h (2, 800) 800) r0 0 (some (h_ct h)))))) (3, 801) 801) r0 3 (some (h_ct (w_r (h_new (w_r (h_new h (2, 800) 800) r0 0 (some (h_ct h))) (4, 801) 801) r0 2 (some (h_ct (w_r (h_new h (2, 800) 800) r0 0 (some (h_ct h))))))))) Q) : wpx d P_Wo_init 0 [.ref r0] [] h Q := by
  refine st_aload (pc' := 1) rfl rfl rfl ?_
  refine st_oinit (pc' := 4) rfl rfl (Nat.le_of_ble_eq_true rfl) ?_
  refine st_aload (pc' := 5) rfl rfl rfl ?_
  refine st_ipush (pc' := 8) (v := 800) rfl rfl (by decide) ?_
  refine st_newB rfl (by decide) (j := 800) (by decide) (pc' := 10) rfl ?_
  refine st_putf (h' := w_r (h_new h (2, 800) 800) r0 0 (some (h_ct h))) (Or.inr (Or.inr rfl)) rfl hs0 rfl rfl rfl (pc' := 13) rfl ?_
  refine st_aload (pc' := 14) rfl rfl rfl ?_
  refine st_ipush (pc' := 17) (v := 801) rfl rfl (by decide) ?_
  refine st_newL rfl (by decide) (j := 801) (by decide) (pc' := 19) rfl ?_
  refine st_putf (h' := w_r (h_new (w_r (h_new h (2, 800) 800) r0 0 (some (h_ct h))) (4, 801) 801) r0 2 (some (h_ct (w_r (h_new h (2, 800) 800) r0 0 (some (h_ct h)))))) (Or.inr (Or.inr rfl)) rfl hs1 rfl rfl rfl (pc' := 22) rfl ?_
  refine st_aload (pc' := 23) rfl rfl rfl ?_
  refine st_ipush (pc' := 26) (v := 801) rfl rfl (by decide) ?_
  refine st_newZ rfl (by decide) (j := 801) (by decide) (pc' := 28) rfl ?_
  refine st_putf (h' := w_r (h_new (w_r (h_new (w_r (h_new h (2, 800) 800) r0 0 (some (h_ct h))) (4, 801) 801) r0 2 (some (h_ct (w_r (h_new h (2, 800) 800) r0 0 (some (h_ct h)))))) (3, 801) 801) r0 3 (some (h_ct (w_r (h_new (w_r (h_new h (2, 800) 800) r0 0 (some (h_ct h))) (4, 801) 801) r0 2 (some (h_ct (w_r (h_new h (2, 800) 800) r0 0 (some (h_ct h))))))))) (Or.inr (Or.inr rfl)) rfl hs2 rfl rfl rfl (pc' := 31) rfl ?_
  exact k
theorem B_Wo_init_31 {d : Nat} {h : PH} {Q : PQ} {r0 : Nat}  (k : Q none h) : wpx d P_Wo_init 31 [.ref r0] [] h Q := by
  exact st_return rfl k
theorem B_Wo_clear_0 {d : Nat} {h : PH} {Q : PQ} {r0 : Nat} (hs0 : h_sh h r0 = some (0, 10)) (k : Q none (w_i h r0 1 0)) : wpx d P_Wo_clear 0 [.ref r0] [] h Q := by
  refine st_aload (pc' := 1) rfl rfl rfl ?_
  refine st_ipush (pc' := 2) (v := 0) rfl rfl (by decide) ?_
  refine st_putf (h' := w_i h r0 1 0) (Or.inl rfl) rfl hs0 rfl rfl rfl (pc' := 5) rfl ?_
  exact st_return rfl k
theorem B_Wo_add_0 {d : Nat} {h : PH} {Q : PQ} {r0 : Nat} {x1 : Int32} (hs0 : h_sh h r0 = some (0, 10)) (kt : (800 : Int32) ≤ (h_i h r0 1) → wpx d P_Wo_add 31 [.ref r0, .int x1] [] h Q) (kf : ¬ ((800 : Int32) ≤ (h_i h r0 1)) → wpx d P_Wo_add 10 [.ref r0, .int x1] [] h Q) : wpx d P_Wo_add 0 [.ref r0, .int x1] [] h Q := by
  refine st_aload (pc' := 1) rfl rfl rfl ?_
  refine st_getfi (Or.inl rfl) rfl hs0 rfl (pc' := 4) rfl ?_
  refine st_ipush (pc' := 7) (v := 800) rfl rfl (by decide) ?_
  exact st_icmp_ge (pc' := 10) rfl rfl kt kf
theorem B_Wo_add_10 {d : Nat} {h : PH} {Q : PQ} {r0 : Nat} {x1 : Int32} {a0 : Nat} {n1 : Nat} (hs0 : h_sh h r0 = some (0, 10)) (hr1 : h_r h r0 0 = some a0) (hs2 : h_sh h a0 = some (2, n1)) (hb3 : vp_in (h_i h r0 1) n1) (k : wpx d P_Wo_add 31 [.ref r0, .int x1] [] (w_i (w_i h a0 ((h_i h r0 1).toNatClampNeg) x1.toInt8.toInt32.toInt8.toInt32) r0 1 ((h_i (w_i h a0 ((h_i h r0 1).toNatClampNeg) x1.toInt8.toInt32.toInt8.toInt32) r0 1) + (1 : Int32))) Q) : wpx d P_Wo_add 10 [.ref r0, .int x1] [] h Q := by
  refine st_aload (pc' := 11) rfl rfl rfl ?_
  refine st_getfr (x := some a0) (Or.inl rfl) rfl hs0 rfl hr1 (pc' := 14) rfl ?_
  refine st_aload (pc' := 15) rfl rfl rfl ?_
  refine st_getfi (Or.inl rfl) rfl hs0 rfl (pc' := 18) rfl ?_
  refine st_iload (pc' := 19) rfl rfl rfl ?_
  refine st_i2b (pc' := 20) rfl rfl ?_
  refine st_bastore rfl hs2 hb3 (j := (h_i h r0 1).toNatClampNeg) rfl (pc' := 21) rfl ?_
  refine st_aload (pc' := 22) rfl rfl rfl ?_
  refine st_dup (pc' := 23) rfl rfl rfl ?_
  refine st_getfi (Or.inl rfl) rfl hs0 rfl (pc' := 26) rfl ?_
  refine st_ipush (pc' := 27) (v := 1) rfl rfl (by decide) ?_
  refine st_iadd (pc' := 28) rfl rfl ?_
  refine st_putf (h' := w_i (w_i h a0 ((h_i h r0 1).toNatClampNeg) x1.toInt8.toInt32.toInt8.toInt32) r0 1 ((h_i (w_i h a0 ((h_i h r0 1).toNatClampNeg) x1.toInt8.toInt32.toInt8.toInt32) r0 1) + (1 : Int32))) (Or.inl rfl) rfl hs0 rfl rfl rfl (pc' := 31) rfl ?_
  exact k
theorem B_Wo_add_31 {d : Nat} {h : PH} {Q : PQ} {r0 : Nat} {x1 : Int32}  (k : Q none h) : wpx d P_Wo_add 31 [.ref r0, .int x1] [] h Q := by
  exact st_return rfl k
theorem B_Wo_addRow_0 {d : Nat} {h : PH} {Q : PQ} {r0 : Nat} {l1 : Int64} {x3 : Int32} {v4 : Value}  (k : wpx d P_Wo_addRow 3 [.ref r0, .long l1, .retAddr 2, .int x3, .int 0] [] h Q) : wpx d P_Wo_addRow 0 [.ref r0, .long l1, .retAddr 2, .int x3, v4] [] h Q := by
  refine st_ipush (pc' := 1) (v := 0) rfl rfl (by decide) ?_
  refine st_istore (pc' := 3) (ls' := [.ref r0, .long l1, .retAddr 2, .int x3, .int 0]) rfl rfl (Nat.le_of_ble_eq_true rfl) rfl ?_
  exact k
theorem B_Wo_addRow_3 {d : Nat} {h : PH} {Q : PQ} {r0 : Nat} {l1 : Int64} {x3 : Int32} {x4 : Int32}  (kt : x3 ≤ x4 → wpx d P_Wo_addRow 26 [.ref r0, .long l1, .retAddr 2, .int x3, .int x4] [] h Q) (kf : ¬ (x3 ≤ x4) → wpx d P_Wo_addRow 9 [.ref r0, .long l1, .retAddr 2, .int x3, .int x4] [] h Q) : wpx d P_Wo_addRow 3 [.ref r0, .long l1, .retAddr 2, .int x3, .int x4] [] h Q := by
  refine st_iload (pc' := 5) rfl rfl rfl ?_
  refine st_iload (pc' := 6) rfl rfl rfl ?_
  exact st_icmp_ge (pc' := 9) rfl rfl kt kf
theorem B_Wo_addRow_9 {d : Nat} {h : PH} {Q : PQ} {r0 : Nat} {l1 : Int64} {x3 : Int32} {x4 : Int32}  (k : wpm d 165 [.long l1, .int x3, .int x4] h (fun r h' => wpx d P_Wo_addRow 17 [.ref r0, .long l1, .retAddr 2, .int x3, .int x4] (r.toList ++ [.ref r0]) h' Q)) : wpx d P_Wo_addRow 9 [.ref r0, .long l1, .retAddr 2, .int x3, .int x4] [] h Q := by
  refine st_aload (pc' := 10) rfl rfl rfl ?_
  refine st_lload (pc' := 11) rfl rfl rfl rfl ?_
  refine st_iload (pc' := 12) rfl rfl rfl ?_
  refine st_iload (pc' := 14) rfl rfl rfl ?_
  exact st_call (pc' := 17) (as := [.long l1, .int x3, .int x4]) (rest := [.ref r0]) rfl rfl (Nat.le_of_ble_eq_true rfl) rfl rfl (Nat.le_of_ble_eq_true rfl) (kd := 0) (o := 11) rfl rfl rfl k
theorem B_Wo_addRow_17 {d : Nat} {h : PH} {Q : PQ} {r0 : Nat} {l1 : Int64} {x3 : Int32} {x4 : Int32} {q0 : Nat} {s1 : Int32} (hs0 : h_sh h q0 = some (0, 10)) (k : wpm d 107 [.ref q0, .int s1] h (fun r h' => wpx d P_Wo_addRow 20 [.ref r0, .long l1, .retAddr 2, .int x3, .int x4] (r.toList ++ []) h' Q)) : wpx d P_Wo_addRow 17 [.ref r0, .long l1, .retAddr 2, .int x3, .int x4] [.int s1, .ref q0] h Q := by
  exact st_call (pc' := 20) (as := [.ref q0, .int s1]) (rest := []) rfl rfl (Nat.le_of_ble_eq_true rfl) rfl rfl (Nat.le_of_ble_eq_true rfl) (kd := 1) (o := 10) rfl rfl (beq_iff_eq.mpr hs0) k
theorem B_Wo_addRow_20 {d : Nat} {h : PH} {Q : PQ} {r0 : Nat} {l1 : Int64} {x3 : Int32} {x4 : Int32}  (k : wpx d P_Wo_addRow 3 [.ref r0, .long l1, .retAddr 2, .int x3, .int (x4 + 1)] [] h Q) : wpx d P_Wo_addRow 20 [.ref r0, .long l1, .retAddr 2, .int x3, .int x4] [] h Q := by
  refine st_iinc (pc' := 23) (v := 1) (ls' := [.ref r0, .long l1, .retAddr 2, .int x3, .int (x4 + 1)]) rfl rfl rfl (by decide) rfl ?_
  exact st_goto rfl k
theorem B_Wo_addRow_26 {d : Nat} {h : PH} {Q : PQ} {r0 : Nat} {l1 : Int64} {x3 : Int32} {x4 : Int32}  (k : Q none h) : wpx d P_Wo_addRow 26 [.ref r0, .long l1, .retAddr 2, .int x3, .int x4] [] h Q := by
  exact st_return rfl k
theorem B_Wo_standing_0 {d : Nat} {h : PH} {Q : PQ} {r0 : Nat} {l1 : Int64} {x3 : Int32} {x4 : Int32} {v5 : Value}  (k : wpx d P_Wo_standing 3 [.ref r0, .long l1, .retAddr 2, .int x3, .int x4, .int 0] [] h Q) : wpx d P_Wo_standing 0 [.ref r0, .long l1, .retAddr 2, .int x3, .int x4, v5] [] h Q := by
  refine st_ipush (pc' := 1) (v := 0) rfl rfl (by decide) ?_
  refine st_istore (pc' := 3) (ls' := [.ref r0, .long l1, .retAddr 2, .int x3, .int x4, .int 0]) rfl rfl (Nat.le_of_ble_eq_true rfl) rfl ?_
  exact k
theorem B_Wo_standing_3 {d : Nat} {h : PH} {Q : PQ} {r0 : Nat} {l1 : Int64} {x3 : Int32} {x4 : Int32} {x5 : Int32}  (kt : x3 ≤ x5 → wpx d P_Wo_standing 47 [.ref r0, .long l1, .retAddr 2, .int x3, .int x4, .int x5] [] h Q) (kf : ¬ (x3 ≤ x5) → wpx d P_Wo_standing 9 [.ref r0, .long l1, .retAddr 2, .int x3, .int x4, .int x5] [] h Q) : wpx d P_Wo_standing 3 [.ref r0, .long l1, .retAddr 2, .int x3, .int x4, .int x5] [] h Q := by
  refine st_iload (pc' := 5) rfl rfl rfl ?_
  refine st_iload (pc' := 6) rfl rfl rfl ?_
  exact st_icmp_ge (pc' := 9) rfl rfl kt kf
theorem B_Wo_standing_9 {d : Nat} {h : PH} {Q : PQ} {r0 : Nat} {l1 : Int64} {x3 : Int32} {x4 : Int32} {x5 : Int32} (hs0 : h_sh h r0 = some (0, 10)) (kt : (h_i h r0 1) ≤ (x4 + x5) → wpx d P_Wo_standing 47 [.ref r0, .long l1, .retAddr 2, .int x3, .int x4, .int x5] [] h Q) (kf : ¬ ((h_i h r0 1) ≤ (x4 + x5)) → wpx d P_Wo_standing 21 [.ref r0, .long l1, .retAddr 2, .int x3, .int x4, .int x5] [] h Q) : wpx d P_Wo_standing 9 [.ref r0, .long l1, .retAddr 2, .int x3, .int x4, .int x5] [] h Q := by
  refine st_iload (pc' := 11) rfl rfl rfl ?_
  refine st_iload (pc' := 13) rfl rfl rfl ?_
  refine st_iadd (pc' := 14) rfl rfl ?_
  refine st_aload (pc' := 15) rfl rfl rfl ?_
  refine st_getfi (Or.inl rfl) rfl hs0 rfl (pc' := 18) rfl ?_
  exact st_icmp_ge (pc' := 21) rfl rfl kt kf
theorem B_Wo_standing_21 {d : Nat} {h : PH} {Q : PQ} {r0 : Nat} {l1 : Int64} {x3 : Int32} {x4 : Int32} {x5 : Int32} {a0 : Nat} {n1 : Nat} (hs0 : h_sh h r0 = some (0, 10)) (hr1 : h_r h r0 0 = some a0) (hs2 : h_sh h a0 = some (2, n1)) (hb3 : vp_in (x4 + x5) n1) (k : wpm d 165 [.long l1, .int x3, .int x5] h (fun r h' => wpx d P_Wo_standing 38 [.ref r0, .long l1, .retAddr 2, .int x3, .int x4, .int x5] (r.toList ++ [.int (h_i h a0 (x4 + x5).toNatClampNeg)]) h' Q)) : wpx d P_Wo_standing 21 [.ref r0, .long l1, .retAddr 2, .int x3, .int x4, .int x5] [] h Q := by
  refine st_aload (pc' := 22) rfl rfl rfl ?_
  refine st_getfr (x := some a0) (Or.inl rfl) rfl hs0 rfl hr1 (pc' := 25) rfl ?_
  refine st_iload (pc' := 27) rfl rfl rfl ?_
  refine st_iload (pc' := 29) rfl rfl rfl ?_
  refine st_iadd (pc' := 30) rfl rfl ?_
  refine st_baload rfl (Or.inl hs2) hb3 (j := (x4 + x5).toNatClampNeg) rfl (pc' := 31) rfl ?_
  refine st_lload (pc' := 32) rfl rfl rfl rfl ?_
  refine st_iload (pc' := 33) rfl rfl rfl ?_
  refine st_iload (pc' := 35) rfl rfl rfl ?_
  exact st_call (pc' := 38) (as := [.long l1, .int x3, .int x5]) (rest := [.int (h_i h a0 (x4 + x5).toNatClampNeg)]) rfl rfl (Nat.le_of_ble_eq_true rfl) rfl rfl (Nat.le_of_ble_eq_true rfl) (kd := 0) (o := 11) rfl rfl rfl k
theorem B_Wo_standing_38 {d : Nat} {h : PH} {Q : PQ} {r0 : Nat} {l1 : Int64} {x3 : Int32} {x4 : Int32} {x5 : Int32} {s0 : Int32} {s1 : Int32}  (kt : ¬ (s0 = s1) → wpx d P_Wo_standing 47 [.ref r0, .long l1, .retAddr 2, .int x3, .int x4, .int x5] [] h Q) (kf : s0 = s1 → wpx d P_Wo_standing 41 [.ref r0, .long l1, .retAddr 2, .int x3, .int x4, .int x5] [] h Q) : wpx d P_Wo_standing 38 [.ref r0, .long l1, .retAddr 2, .int x3, .int x4, .int x5] [.int s1, .int s0] h Q := by
  exact st_icmp_ne (pc' := 41) rfl rfl kt kf
theorem B_Wo_standing_41 {d : Nat} {h : PH} {Q : PQ} {r0 : Nat} {l1 : Int64} {x3 : Int32} {x4 : Int32} {x5 : Int32}  (k : wpx d P_Wo_standing 3 [.ref r0, .long l1, .retAddr 2, .int x3, .int x4, .int (x5 + 1)] [] h Q) : wpx d P_Wo_standing 41 [.ref r0, .long l1, .retAddr 2, .int x3, .int x4, .int x5] [] h Q := by
  refine st_iinc (pc' := 44) (v := 1) (ls' := [.ref r0, .long l1, .retAddr 2, .int x3, .int x4, .int (x5 + 1)]) rfl rfl rfl (by decide) rfl ?_
  exact st_goto rfl k
theorem B_Wo_standing_47 {d : Nat} {h : PH} {Q : PQ} {r0 : Nat} {l1 : Int64} {x3 : Int32} {x4 : Int32} {x5 : Int32}  (k : Q (some (.int x5)) h) : wpx d P_Wo_standing 47 [.ref r0, .long l1, .retAddr 2, .int x3, .int x4, .int x5] [] h Q := by
  refine st_iload (pc' := 49) rfl rfl rfl ?_
  exact st_ireturn (ty := .int) rfl rfl rfl k
theorem B_Wo_fits_0 {d : Nat} {h : PH} {Q : PQ} {r0 : Nat} {r1 : Nat} {x2 : Int32} {x3 : Int32} (hs0 : h_sh h r1 = some (0, 3)) (k : wpm d 35 [.ref r1, .int x2] h (fun r h' => wpx d P_Wo_fits 5 [.ref r0, .ref r1, .int x2, .int x3] (r.toList ++ []) h' Q)) : wpx d P_Wo_fits 0 [.ref r0, .ref r1, .int x2, .int x3] [] h Q := by
  refine st_aload (pc' := 1) rfl rfl rfl ?_
  refine st_iload (pc' := 2) rfl rfl rfl ?_
  exact st_call (pc' := 5) (as := [.ref r1, .int x2]) (rest := []) rfl rfl (Nat.le_of_ble_eq_true rfl) rfl rfl (Nat.le_of_ble_eq_true rfl) (kd := 1) (o := 3) rfl rfl (beq_iff_eq.mpr hs0) k
theorem B_Wo_fits_5 {d : Nat} {h : PH} {Q : PQ} {r0 : Nat} {r1 : Nat} {x2 : Int32} {x3 : Int32} {s0 : Int32}  (kt : s0 = 0 → wpx d P_Wo_fits 38 [.ref r0, .ref r1, .int x2, .int x3] [] h Q) (kf : ¬ (s0 = 0) → wpx d P_Wo_fits 8 [.ref r0, .ref r1, .int x2, .int x3] [] h Q) : wpx d P_Wo_fits 5 [.ref r0, .ref r1, .int x2, .int x3] [.int s0] h Q := by
  exact st_if_eq (pc' := 8) rfl rfl kt kf
theorem B_Wo_fits_8 {d : Nat} {h : PH} {Q : PQ} {r0 : Nat} {r1 : Nat} {x2 : Int32} {x3 : Int32} {a0 : Nat} {n1 : Nat} {a2 : Nat} {n3 : Nat} (hs0 : h_sh h r1 = some (0, 3)) (hr1 : h_r h r1 0 = some a0) (hs2 : h_sh h a0 = some (4, n1)) (hb3 : vp_in x2 n1) (hr4 : h_r h r1 1 = some a2) (hs5 : h_sh h a2 = some (1, n3)) (hb6 : vp_in x2 n3) (hs7 : h_sh h r0 = some (0, 10)) (k : wpm d 109 [.ref r0, .long (h_l h a0 x2.toNatClampNeg), .int (h_i h a2 x2.toNatClampNeg), .int x3] h (fun r h' => wpx d P_Wo_fits 25 [.ref r0, .ref r1, .int x2, .int x3] (r.toList ++ []) h' Q)) : wpx d P_Wo_fits 8 [.ref r0, .ref r1, .int x2, .int x3] [] h Q := by
  refine st_aload (pc' := 9) rfl rfl rfl ?_
  refine st_aload (pc' := 10) rfl rfl rfl ?_
  refine st_getfr (x := some a0) (Or.inr rfl) rfl hs0 rfl hr1 (pc' := 13) rfl ?_
  refine st_iload (pc' := 14) rfl rfl rfl ?_
  refine st_laload rfl hs2 hb3 (j := x2.toNatClampNeg) rfl (pc' := 15) rfl ?_
  refine st_aload (pc' := 16) rfl rfl rfl ?_
  refine st_getfr (x := some a2) (Or.inr rfl) rfl hs0 rfl hr4 (pc' := 19) rfl ?_
  refine st_iload (pc' := 20) rfl rfl rfl ?_
  refine st_iaload rfl hs5 hb6 (j := x2.toNatClampNeg) rfl (pc' := 21) rfl ?_
  refine st_iload (pc' := 22) rfl rfl rfl ?_
  exact st_call (pc' := 25) (as := [.ref r0, .long (h_l h a0 x2.toNatClampNeg), .int (h_i h a2 x2.toNatClampNeg), .int x3]) (rest := []) rfl rfl (Nat.le_of_ble_eq_true rfl) rfl rfl (Nat.le_of_ble_eq_true rfl) (kd := 1) (o := 10) rfl rfl (beq_iff_eq.mpr hs7) k
theorem B_Wo_fits_25 {d : Nat} {h : PH} {Q : PQ} {r0 : Nat} {r1 : Nat} {x2 : Int32} {x3 : Int32} {s0 : Int32} {a0 : Nat} {n1 : Nat} (hs0 : h_sh h r1 = some (0, 3)) (hr1 : h_r h r1 1 = some a0) (hs2 : h_sh h a0 = some (1, n1)) (hb3 : vp_in x2 n1) (kt : ¬ (s0 = (h_i h a0 x2.toNatClampNeg)) → wpx d P_Wo_fits 38 [.ref r0, .ref r1, .int x2, .int x3] [] h Q) (kf : s0 = (h_i h a0 x2.toNatClampNeg) → wpx d P_Wo_fits 34 [.ref r0, .ref r1, .int x2, .int x3] [] h Q) : wpx d P_Wo_fits 25 [.ref r0, .ref r1, .int x2, .int x3] [.int s0] h Q := by
  refine st_aload (pc' := 26) rfl rfl rfl ?_
  refine st_getfr (x := some a0) (Or.inr rfl) rfl hs0 rfl hr1 (pc' := 29) rfl ?_
  refine st_iload (pc' := 30) rfl rfl rfl ?_
  refine st_iaload rfl hs2 hb3 (j := x2.toNatClampNeg) rfl (pc' := 31) rfl ?_
  exact st_icmp_ne (pc' := 34) rfl rfl kt kf
theorem B_Wo_fits_34 {d : Nat} {h : PH} {Q : PQ} {r0 : Nat} {r1 : Nat} {x2 : Int32} {x3 : Int32}  (k : wpx d P_Wo_fits 39 [.ref r0, .ref r1, .int x2, .int x3] [.int 1] h Q) : wpx d P_Wo_fits 34 [.ref r0, .ref r1, .int x2, .int x3] [] h Q := by
  refine st_ipush (pc' := 35) (v := 1) rfl rfl (by decide) ?_
  exact st_goto rfl k
theorem B_Wo_fits_38 {d : Nat} {h : PH} {Q : PQ} {r0 : Nat} {r1 : Nat} {x2 : Int32} {x3 : Int32}  (k : wpx d P_Wo_fits 39 [.ref r0, .ref r1, .int x2, .int x3] [.int 0] h Q) : wpx d P_Wo_fits 38 [.ref r0, .ref r1, .int x2, .int x3] [] h Q := by
  refine st_ipush (pc' := 39) (v := 0) rfl rfl (by decide) ?_
  exact k
theorem B_Wo_fits_39 {d : Nat} {h : PH} {Q : PQ} {r0 : Nat} {r1 : Nat} {x2 : Int32} {x3 : Int32} {s0 : Int32} (hz0 : narrow .boolean (.int s0) = .int s0) (k : Q (some (.int s0)) h) : wpx d P_Wo_fits 39 [.ref r0, .ref r1, .int x2, .int x3] [.int s0] h Q := by
  exact st_ireturn (ty := .boolean) rfl rfl hz0 k
theorem B_Wo_countWays_0 {d : Nat} {h : PH} {Q : PQ} {r0 : Nat} {r1 : Nat} {v2 : Value} {v3 : Value} {v4 : Value} {v5 : Value} {a0 : Nat} {n1 : Nat} (hs0 : h_sh h r0 = some (0, 10)) (hr1 : h_r h r0 2 = some a0) (hs2 : h_sh h a0 = some (4, n1)) (hb3 : vp_in (h_i h r0 1) n1) (k : wpx d P_Wo_countWays 17 [.ref r0, .ref r1, .int ((h_i (w_l h a0 ((h_i h r0 1).toNatClampNeg) 1) r0 1) - (1 : Int32)), v3, v4, v5] [] (w_l h a0 ((h_i h r0 1).toNatClampNeg) 1) Q) : wpx d P_Wo_countWays 0 [.ref r0, .ref r1, v2, v3, v4, v5] [] h Q := by
  refine st_aload (pc' := 1) rfl rfl rfl ?_
  refine st_getfr (x := some a0) (Or.inl rfl) rfl hs0 rfl hr1 (pc' := 4) rfl ?_
  refine st_aload (pc' := 5) rfl rfl rfl ?_
  refine st_getfi (Or.inl rfl) rfl hs0 rfl (pc' := 8) rfl ?_
  refine st_lpush (pc' := 9) (v := 1) rfl rfl (by decide) ?_
  refine st_lastore rfl hs2 hb3 (j := (h_i h r0 1).toNatClampNeg) rfl (pc' := 10) rfl ?_
  refine st_aload (pc' := 11) rfl rfl rfl ?_
  refine st_getfi (Or.inl rfl) rfl hs0 rfl (pc' := 14) rfl ?_
  refine st_ipush (pc' := 15) (v := 1) rfl rfl (by decide) ?_
  refine st_isub (pc' := 16) rfl rfl ?_
  refine st_istore (pc' := 17) (ls' := [.ref r0, .ref r1, .int ((h_i (w_l h a0 ((h_i h r0 1).toNatClampNeg) 1) r0 1) - (1 : Int32)), v3, v4, v5]) rfl rfl (Nat.le_of_ble_eq_true rfl) rfl ?_
  exact k
theorem B_Wo_countWays_17 {d : Nat} {h : PH} {Q : PQ} {r0 : Nat} {r1 : Nat} {x2 : Int32} {v3 : Value} {v4 : Value} {v5 : Value}  (kt : x2 < 0 → wpx d P_Wo_countWays 84 [.ref r0, .ref r1, .int x2, v3, v4, v5] [] h Q) (kf : ¬ (x2 < 0) → wpx d P_Wo_countWays 21 [.ref r0, .ref r1, .int x2, v3, v4, v5] [] h Q) : wpx d P_Wo_countWays 17 [.ref r0, .ref r1, .int x2, v3, v4, v5] [] h Q := by
  refine st_iload (pc' := 18) rfl rfl rfl ?_
  exact st_if_lt (pc' := 21) rfl rfl kt kf
theorem B_Wo_countWays_21 {d : Nat} {h : PH} {Q : PQ} {r0 : Nat} {r1 : Nat} {x2 : Int32} {v3 : Value} {v4 : Value} {v5 : Value}  (k : wpx d P_Wo_countWays 26 [.ref r0, .ref r1, .int x2, .long 0, .retAddr 2, .int 0] [] h Q) : wpx d P_Wo_countWays 21 [.ref r0, .ref r1, .int x2, v3, v4, v5] [] h Q := by
  refine st_lpush (pc' := 22) (v := 0) rfl rfl (by decide) ?_
  refine st_lstore (pc' := 23) (ls' := [.ref r0, .ref r1, .int x2, .long 0, .retAddr 2, v5]) rfl rfl (Nat.le_of_ble_eq_true rfl) rfl ?_
  refine st_ipush (pc' := 24) (v := 0) rfl rfl (by decide) ?_
  refine st_istore (pc' := 26) (ls' := [.ref r0, .ref r1, .int x2, .long 0, .retAddr 2, .int 0]) rfl rfl (Nat.le_of_ble_eq_true rfl) rfl ?_
  exact k
theorem B_Wo_countWays_26 {d : Nat} {h : PH} {Q : PQ} {r0 : Nat} {r1 : Nat} {x2 : Int32} {l3 : Int64} {x5 : Int32} (hs0 : h_sh h r1 = some (0, 3)) (kt : (h_i h r1 3) ≤ x5 → wpx d P_Wo_countWays 71 [.ref r0, .ref r1, .int x2, .long l3, .retAddr 2, .int x5] [] h Q) (kf : ¬ ((h_i h r1 3) ≤ x5) → wpx d P_Wo_countWays 35 [.ref r0, .ref r1, .int x2, .long l3, .retAddr 2, .int x5] [] h Q) : wpx d P_Wo_countWays 26 [.ref r0, .ref r1, .int x2, .long l3, .retAddr 2, .int x5] [] h Q := by
  refine st_iload (pc' := 28) rfl rfl rfl ?_
  refine st_aload (pc' := 29) rfl rfl rfl ?_
  refine st_getfi (Or.inr rfl) rfl hs0 rfl (pc' := 32) rfl ?_
  exact st_icmp_ge (pc' := 35) rfl rfl kt kf
theorem B_Wo_countWays_35 {d : Nat} {h : PH} {Q : PQ} {r0 : Nat} {r1 : Nat} {x2 : Int32} {l3 : Int64} {x5 : Int32} (hs0 : h_sh h r0 = some (0, 10)) (k : wpm d 110 [.ref r0, .ref r1, .int x5, .int x2] h (fun r h' => wpx d P_Wo_countWays 43 [.ref r0, .ref r1, .int x2, .long l3, .retAddr 2, .int x5] (r.toList ++ []) h' Q)) : wpx d P_Wo_countWays 35 [.ref r0, .ref r1, .int x2, .long l3, .retAddr 2, .int x5] [] h Q := by
  refine st_aload (pc' := 36) rfl rfl rfl ?_
  refine st_aload (pc' := 37) rfl rfl rfl ?_
  refine st_iload (pc' := 39) rfl rfl rfl ?_
  refine st_iload (pc' := 40) rfl rfl rfl ?_
  exact st_call (pc' := 43) (as := [.ref r0, .ref r1, .int x5, .int x2]) (rest := []) rfl rfl (Nat.le_of_ble_eq_true rfl) rfl rfl (Nat.le_of_ble_eq_true rfl) (kd := 1) (o := 10) rfl rfl (beq_iff_eq.mpr hs0) k
theorem B_Wo_countWays_43 {d : Nat} {h : PH} {Q : PQ} {r0 : Nat} {r1 : Nat} {x2 : Int32} {l3 : Int64} {x5 : Int32} {s0 : Int32}  (kt : s0 = 0 → wpx d P_Wo_countWays 65 [.ref r0, .ref r1, .int x2, .long l3, .retAddr 2, .int x5] [] h Q) (kf : ¬ (s0 = 0) → wpx d P_Wo_countWays 46 [.ref r0, .ref r1, .int x2, .long l3, .retAddr 2, .int x5] [] h Q) : wpx d P_Wo_countWays 43 [.ref r0, .ref r1, .int x2, .long l3, .retAddr 2, .int x5] [.int s0] h Q := by
  exact st_if_eq (pc' := 46) rfl rfl kt kf
theorem B_Wo_countWays_46 {d : Nat} {h : PH} {Q : PQ} {r0 : Nat} {r1 : Nat} {x2 : Int32} {l3 : Int64} {x5 : Int32} {a0 : Nat} {a1 : Nat} {n2 : Nat} {n3 : Nat} (hs0 : h_sh h r0 = some (0, 10)) (hr1 : h_r h r0 2 = some a0) (hs2 : h_sh h r1 = some (0, 3)) (hr3 : h_r h r1 1 = some a1) (hs4 : h_sh h a1 = some (1, n2)) (hb5 : vp_in x5 n2) (hs6 : h_sh h a0 = some (4, n3)) (hb7 : vp_in (x2 + (h_i h a1 x5.toNatClampNeg)) n3) (k : wpm d 112 [.long l3, .long (h_l h a0 (x2 + (h_i h a1 x5.toNatClampNeg)).toNatClampNeg)] h (fun r h' => wpx d P_Wo_countWays 64 [.ref r0, .ref r1, .int x2, .long l3, .retAddr 2, .int x5] (r.toList ++ []) h' Q)) : wpx d P_Wo_countWays 46 [.ref r0, .ref r1, .int x2, .long l3, .retAddr 2, .int x5] [] h Q := by
  refine st_lload (pc' := 47) rfl rfl rfl rfl ?_
  refine st_aload (pc' := 48) rfl rfl rfl ?_
  refine st_getfr (x := some a0) (Or.inl rfl) rfl hs0 rfl hr1 (pc' := 51) rfl ?_
  refine st_iload (pc' := 52) rfl rfl rfl ?_
  refine st_aload (pc' := 53) rfl rfl rfl ?_
  refine st_getfr (x := some a1) (Or.inr rfl) rfl hs2 rfl hr3 (pc' := 56) rfl ?_
  refine st_iload (pc' := 58) rfl rfl rfl ?_
  refine st_iaload rfl hs4 hb5 (j := x5.toNatClampNeg) rfl (pc' := 59) rfl ?_
  refine st_iadd (pc' := 60) rfl rfl ?_
  refine st_laload rfl hs6 hb7 (j := (x2 + (h_i h a1 x5.toNatClampNeg)).toNatClampNeg) rfl (pc' := 61) rfl ?_
  exact st_call (pc' := 64) (as := [.long l3, .long (h_l h a0 (x2 + (h_i h a1 x5.toNatClampNeg)).toNatClampNeg)]) (rest := []) rfl rfl (Nat.le_of_ble_eq_true rfl) rfl rfl (Nat.le_of_ble_eq_true rfl) (kd := 0) (o := 10) rfl rfl rfl k
theorem B_Wo_countWays_64 {d : Nat} {h : PH} {Q : PQ} {r0 : Nat} {r1 : Nat} {x2 : Int32} {l3 : Int64} {x5 : Int32} {t0 : Int64}  (k : wpx d P_Wo_countWays 65 [.ref r0, .ref r1, .int x2, .long t0, .retAddr 2, .int x5] [] h Q) : wpx d P_Wo_countWays 64 [.ref r0, .ref r1, .int x2, .long l3, .retAddr 2, .int x5] [.long t0] h Q := by
  refine st_lstore (pc' := 65) (ls' := [.ref r0, .ref r1, .int x2, .long t0, .retAddr 2, .int x5]) rfl rfl (Nat.le_of_ble_eq_true rfl) rfl ?_
  exact k
theorem B_Wo_countWays_65 {d : Nat} {h : PH} {Q : PQ} {r0 : Nat} {r1 : Nat} {x2 : Int32} {l3 : Int64} {x5 : Int32}  (k : wpx d P_Wo_countWays 26 [.ref r0, .ref r1, .int x2, .long l3, .retAddr 2, .int (x5 + 1)] [] h Q) : wpx d P_Wo_countWays 65 [.ref r0, .ref r1, .int x2, .long l3, .retAddr 2, .int x5] [] h Q := by
  refine st_iinc (pc' := 68) (v := 1) (ls' := [.ref r0, .ref r1, .int x2, .long l3, .retAddr 2, .int (x5 + 1)]) rfl rfl rfl (by decide) rfl ?_
  exact st_goto rfl k
theorem B_Wo_countWays_71 {d : Nat} {h : PH} {Q : PQ} {r0 : Nat} {r1 : Nat} {x2 : Int32} {l3 : Int64} {x5 : Int32} {a0 : Nat} {n1 : Nat} (hs0 : h_sh h r0 = some (0, 10)) (hr1 : h_r h r0 2 = some a0) (hs2 : h_sh h a0 = some (4, n1)) (hb3 : vp_in x2 n1) (k : wpx d P_Wo_countWays 17 [.ref r0, .ref r1, .int (x2 + (-1)), .long l3, .retAddr 2, .int x5] [] (w_l h a0 x2.toNatClampNeg l3) Q) : wpx d P_Wo_countWays 71 [.ref r0, .ref r1, .int x2, .long l3, .retAddr 2, .int x5] [] h Q := by
  refine st_aload (pc' := 72) rfl rfl rfl ?_
  refine st_getfr (x := some a0) (Or.inl rfl) rfl hs0 rfl hr1 (pc' := 75) rfl ?_
  refine st_iload (pc' := 76) rfl rfl rfl ?_
  refine st_lload (pc' := 77) rfl rfl rfl rfl ?_
  refine st_lastore rfl hs2 hb3 (j := x2.toNatClampNeg) rfl (pc' := 78) rfl ?_
  refine st_iinc (pc' := 81) (v := (-1)) (ls' := [.ref r0, .ref r1, .int (x2 + (-1)), .long l3, .retAddr 2, .int x5]) rfl rfl rfl (by decide) rfl ?_
  exact st_goto rfl k
theorem B_Wo_countWays_84 {d : Nat} {h : PH} {Q : PQ} {r0 : Nat} {r1 : Nat} {x2 : Int32} {v3 : Value} {v4 : Value} {v5 : Value}  (k : Q none h) : wpx d P_Wo_countWays 84 [.ref r0, .ref r1, .int x2, v3, v4, v5] [] h Q := by
  exact st_return rfl k
theorem B_Wo_sumWithoutWrap_0 {d : Nat} {h : PH} {Q : PQ} {l0 : Int64} {l2 : Int64}  (kt : (lg_cmp l0 ((9223372036854775807 : Int64) - l2)) ≤ 0 → wpx d P_Wo_sumWithoutWrap 16 [.long l0, .retAddr 2, .long l2, .retAddr 2] [] h Q) (kf : ¬ ((lg_cmp l0 ((9223372036854775807 : Int64) - l2)) ≤ 0) → wpx d P_Wo_sumWithoutWrap 10 [.long l0, .retAddr 2, .long l2, .retAddr 2] [] h Q) : wpx d P_Wo_sumWithoutWrap 0 [.long l0, .retAddr 2, .long l2, .retAddr 2] [] h Q := by
  refine st_lload (pc' := 1) rfl rfl rfl rfl ?_
  refine st_ldc2 (pc' := 4) (v := 9223372036854775807) rfl rfl (by decide) ?_
  refine st_lload (pc' := 5) rfl rfl rfl rfl ?_
  refine st_lsub (pc' := 6) rfl rfl ?_
  refine st_lcmp (pc' := 7) rfl rfl ?_
  exact st_if_le (pc' := 10) rfl rfl kt kf
theorem B_Wo_sumWithoutWrap_10 {d : Nat} {h : PH} {Q : PQ} {l0 : Int64} {l2 : Int64}  (k : wpx d P_Wo_sumWithoutWrap 19 [.long l0, .retAddr 2, .long l2, .retAddr 2] [.long 9223372036854775807] h Q) : wpx d P_Wo_sumWithoutWrap 10 [.long l0, .retAddr 2, .long l2, .retAddr 2] [] h Q := by
  refine st_ldc2 (pc' := 13) (v := 9223372036854775807) rfl rfl (by decide) ?_
  exact st_goto rfl k
theorem B_Wo_sumWithoutWrap_16 {d : Nat} {h : PH} {Q : PQ} {l0 : Int64} {l2 : Int64}  (k : wpx d P_Wo_sumWithoutWrap 19 [.long l0, .retAddr 2, .long l2, .retAddr 2] [.long (l0 + l2)] h Q) : wpx d P_Wo_sumWithoutWrap 16 [.long l0, .retAddr 2, .long l2, .retAddr 2] [] h Q := by
  refine st_lload (pc' := 17) rfl rfl rfl rfl ?_
  refine st_lload (pc' := 18) rfl rfl rfl rfl ?_
  refine st_ladd (pc' := 19) rfl rfl ?_
  exact k
theorem B_Wo_sumWithoutWrap_19 {d : Nat} {h : PH} {Q : PQ} {l0 : Int64} {l2 : Int64} {t0 : Int64}  (k : Q (some (.long t0)) h) : wpx d P_Wo_sumWithoutWrap 19 [.long l0, .retAddr 2, .long l2, .retAddr 2] [.long t0] h Q := by
  exact st_lreturn rfl k
theorem B_Wo_groupOfReading_0 {d : Nat} {h : PH} {Q : PQ} {r0 : Nat} {r1 : Nat} {x2 : Int32} {x3 : Int32} {v4 : Value} {v5 : Value} {v6 : Value} (hs0 : h_sh h r0 = some (0, 10)) (k : wpm d 111 [.ref r0, .ref r1] h (fun r h' => wpx d P_Wo_groupOfReading 5 [.ref r0, .ref r1, .int x2, .int x3, v4, v5, v6] (r.toList ++ []) h' Q)) : wpx d P_Wo_groupOfReading 0 [.ref r0, .ref r1, .int x2, .int x3, v4, v5, v6] [] h Q := by
  refine st_aload (pc' := 1) rfl rfl rfl ?_
  refine st_aload (pc' := 2) rfl rfl rfl ?_
  exact st_call (pc' := 5) (as := [.ref r0, .ref r1]) (rest := []) rfl rfl (Nat.le_of_ble_eq_true rfl) rfl rfl (Nat.le_of_ble_eq_true rfl) (kd := 1) (o := 10) rfl rfl (beq_iff_eq.mpr hs0) k
theorem B_Wo_groupOfReading_5 {d : Nat} {h : PH} {Q : PQ} {r0 : Nat} {r1 : Nat} {x2 : Int32} {x3 : Int32} {v4 : Value} {v5 : Value} {v6 : Value}  (kt : x2 < 0 → wpx d P_Wo_groupOfReading 25 [.ref r0, .ref r1, .int x2, .int x3, v4, v5, v6] [] h Q) (kf : ¬ (x2 < 0) → wpx d P_Wo_groupOfReading 9 [.ref r0, .ref r1, .int x2, .int x3, v4, v5, v6] [] h Q) : wpx d P_Wo_groupOfReading 5 [.ref r0, .ref r1, .int x2, .int x3, v4, v5, v6] [] h Q := by
  refine st_iload (pc' := 6) rfl rfl rfl ?_
  exact st_if_lt (pc' := 9) rfl rfl kt kf
theorem B_Wo_groupOfReading_9 {d : Nat} {h : PH} {Q : PQ} {r0 : Nat} {r1 : Nat} {x2 : Int32} {x3 : Int32} {v4 : Value} {v5 : Value} {v6 : Value}  (kt : x3 < 0 → wpx d P_Wo_groupOfReading 25 [.ref r0, .ref r1, .int x2, .int x3, v4, v5, v6] [] h Q) (kf : ¬ (x3 < 0) → wpx d P_Wo_groupOfReading 13 [.ref r0, .ref r1, .int x2, .int x3, v4, v5, v6] [] h Q) : wpx d P_Wo_groupOfReading 9 [.ref r0, .ref r1, .int x2, .int x3, v4, v5, v6] [] h Q := by
  refine st_iload (pc' := 10) rfl rfl rfl ?_
  exact st_if_lt (pc' := 13) rfl rfl kt kf
theorem B_Wo_groupOfReading_13 {d : Nat} {h : PH} {Q : PQ} {r0 : Nat} {r1 : Nat} {x2 : Int32} {x3 : Int32} {v4 : Value} {v5 : Value} {v6 : Value} {a0 : Nat} {n1 : Nat} (hs0 : h_sh h r0 = some (0, 10)) (hr1 : h_r h r0 2 = some a0) (hs2 : h_sh h a0 = some (4, n1)) (hb3 : vp_in 0 n1) (kt : (lg_cmp x2.toInt64 (h_l h a0 0)) < 0 → wpx d P_Wo_groupOfReading 27 [.ref r0, .ref r1, .int x2, .int x3, v4, v5, v6] [] h Q) (kf : ¬ ((lg_cmp x2.toInt64 (h_l h a0 0)) < 0) → wpx d P_Wo_groupOfReading 25 [.ref r0, .ref r1, .int x2, .int x3, v4, v5, v6] [] h Q) : wpx d P_Wo_groupOfReading 13 [.ref r0, .ref r1, .int x2, .int x3, v4, v5, v6] [] h Q := by
  refine st_iload (pc' := 14) rfl rfl rfl ?_
  refine st_i2l (pc' := 15) rfl rfl ?_
  refine st_aload (pc' := 16) rfl rfl rfl ?_
  refine st_getfr (x := some a0) (Or.inl rfl) rfl hs0 rfl hr1 (pc' := 19) rfl ?_
  refine st_ipush (pc' := 20) (v := 0) rfl rfl (by decide) ?_
  refine st_laload rfl hs2 hb3 (j := 0) (by decide) (pc' := 21) rfl ?_
  refine st_lcmp (pc' := 22) rfl rfl ?_
  exact st_if_lt (pc' := 25) rfl rfl kt kf
theorem B_Wo_groupOfReading_25 {d : Nat} {h : PH} {Q : PQ} {r0 : Nat} {r1 : Nat} {x2 : Int32} {x3 : Int32} {v4 : Value} {v5 : Value} {v6 : Value}  (k : Q (some (.int (-1))) h) : wpx d P_Wo_groupOfReading 25 [.ref r0, .ref r1, .int x2, .int x3, v4, v5, v6] [] h Q := by
  refine st_ipush (pc' := 26) (v := (-1)) rfl rfl (by decide) ?_
  exact st_ireturn (ty := .int) rfl rfl rfl k
theorem B_Wo_groupOfReading_27 {d : Nat} {h : PH} {Q : PQ} {r0 : Nat} {r1 : Nat} {x2 : Int32} {x3 : Int32} {v4 : Value} {v5 : Value} {v6 : Value} (hs0 : h_sh h r0 = some (0, 10)) (k : wpx d P_Wo_groupOfReading 39 [.ref r0, .ref r1, .int x2, .int x3, .int 0, .int 0, v6] [] (w_l h r0 4 x2.toInt64) Q) : wpx d P_Wo_groupOfReading 27 [.ref r0, .ref r1, .int x2, .int x3, v4, v5, v6] [] h Q := by
  refine st_aload (pc' := 28) rfl rfl rfl ?_
  refine st_iload (pc' := 29) rfl rfl rfl ?_
  refine st_i2l (pc' := 30) rfl rfl ?_
  refine st_putf (h' := w_l h r0 4 x2.toInt64) (Or.inl rfl) rfl hs0 rfl rfl rfl (pc' := 33) rfl ?_
  refine st_ipush (pc' := 34) (v := 0) rfl rfl (by decide) ?_
  refine st_istore (pc' := 36) (ls' := [.ref r0, .ref r1, .int x2, .int x3, .int 0, v5, v6]) rfl rfl (Nat.le_of_ble_eq_true rfl) rfl ?_
  refine st_ipush (pc' := 37) (v := 0) rfl rfl (by decide) ?_
  refine st_istore (pc' := 39) (ls' := [.ref r0, .ref r1, .int x2, .int x3, .int 0, .int 0, v6]) rfl rfl (Nat.le_of_ble_eq_true rfl) rfl ?_
  exact k
theorem B_Wo_groupOfReading_39 {d : Nat} {h : PH} {Q : PQ} {r0 : Nat} {r1 : Nat} {x2 : Int32} {x3 : Int32} {x4 : Int32} {x5 : Int32} {v6 : Value}  (kt : x3 < x5 → wpx d P_Wo_groupOfReading 96 [.ref r0, .ref r1, .int x2, .int x3, .int x4, .int x5, v6] [] h Q) (kf : ¬ (x3 < x5) → wpx d P_Wo_groupOfReading 45 [.ref r0, .ref r1, .int x2, .int x3, .int x4, .int x5, v6] [] h Q) : wpx d P_Wo_groupOfReading 39 [.ref r0, .ref r1, .int x2, .int x3, .int x4, .int x5, v6] [] h Q := by
  refine st_iload (pc' := 41) rfl rfl rfl ?_
  refine st_iload (pc' := 42) rfl rfl rfl ?_
  exact st_icmp_gt (pc' := 45) rfl rfl kt kf
theorem B_Wo_groupOfReading_45 {d : Nat} {h : PH} {Q : PQ} {r0 : Nat} {r1 : Nat} {x2 : Int32} {x3 : Int32} {x4 : Int32} {x5 : Int32} {v6 : Value} (hs0 : h_sh h r0 = some (0, 10)) (kt : (h_i h r0 1) ≤ x4 → wpx d P_Wo_groupOfReading 96 [.ref r0, .ref r1, .int x2, .int x3, .int x4, .int x5, v6] [] h Q) (kf : ¬ ((h_i h r0 1) ≤ x4) → wpx d P_Wo_groupOfReading 54 [.ref r0, .ref r1, .int x2, .int x3, .int x4, .int x5, v6] [] h Q) : wpx d P_Wo_groupOfReading 45 [.ref r0, .ref r1, .int x2, .int x3, .int x4, .int x5, v6] [] h Q := by
  refine st_iload (pc' := 47) rfl rfl rfl ?_
  refine st_aload (pc' := 48) rfl rfl rfl ?_
  refine st_getfi (Or.inl rfl) rfl hs0 rfl (pc' := 51) rfl ?_
  exact st_icmp_ge (pc' := 54) rfl rfl kt kf
theorem B_Wo_groupOfReading_54 {d : Nat} {h : PH} {Q : PQ} {r0 : Nat} {r1 : Nat} {x2 : Int32} {x3 : Int32} {x4 : Int32} {x5 : Int32} {v6 : Value} (hs0 : h_sh h r0 = some (0, 10)) (k : wpm d 114 [.ref r0, .ref r1, .int x4] h (fun r h' => wpx d P_Wo_groupOfReading 61 [.ref r0, .ref r1, .int x2, .int x3, .int x4, .int x5, v6] (r.toList ++ []) h' Q)) : wpx d P_Wo_groupOfReading 54 [.ref r0, .ref r1, .int x2, .int x3, .int x4, .int x5, v6] [] h Q := by
  refine st_aload (pc' := 55) rfl rfl rfl ?_
  refine st_aload (pc' := 56) rfl rfl rfl ?_
  refine st_iload (pc' := 58) rfl rfl rfl ?_
  exact st_call (pc' := 61) (as := [.ref r0, .ref r1, .int x4]) (rest := []) rfl rfl (Nat.le_of_ble_eq_true rfl) rfl rfl (Nat.le_of_ble_eq_true rfl) (kd := 1) (o := 10) rfl rfl (beq_iff_eq.mpr hs0) k
theorem B_Wo_groupOfReading_61 {d : Nat} {h : PH} {Q : PQ} {r0 : Nat} {r1 : Nat} {x2 : Int32} {x3 : Int32} {x4 : Int32} {x5 : Int32} {v6 : Value} {s0 : Int32}  (kt : s0 = ((-1) : Int32) → wpx d P_Wo_groupOfReading 75 [.ref r0, .ref r1, .int x2, .int x3, .int x4, .int x5, .int s0] [] h Q) (kf : ¬ (s0 = ((-1) : Int32)) → wpx d P_Wo_groupOfReading 69 [.ref r0, .ref r1, .int x2, .int x3, .int x4, .int x5, .int s0] [] h Q) : wpx d P_Wo_groupOfReading 61 [.ref r0, .ref r1, .int x2, .int x3, .int x4, .int x5, v6] [.int s0] h Q := by
  refine st_istore (pc' := 63) (ls' := [.ref r0, .ref r1, .int x2, .int x3, .int x4, .int x5, .int s0]) rfl rfl (Nat.le_of_ble_eq_true rfl) rfl ?_
  refine st_iload (pc' := 65) rfl rfl rfl ?_
  refine st_ipush (pc' := 66) (v := (-1)) rfl rfl (by decide) ?_
  exact st_icmp_eq (pc' := 69) rfl rfl kt kf
theorem B_Wo_groupOfReading_69 {d : Nat} {h : PH} {Q : PQ} {r0 : Nat} {r1 : Nat} {x2 : Int32} {x3 : Int32} {x4 : Int32} {x5 : Int32} {x6 : Int32}  (kt : ¬ (x5 = x3) → wpx d P_Wo_groupOfReading 78 [.ref r0, .ref r1, .int x2, .int x3, .int x4, .int x5, .int x6] [] h Q) (kf : x5 = x3 → wpx d P_Wo_groupOfReading 75 [.ref r0, .ref r1, .int x2, .int x3, .int x4, .int x5, .int x6] [] h Q) : wpx d P_Wo_groupOfReading 69 [.ref r0, .ref r1, .int x2, .int x3, .int x4, .int x5, .int x6] [] h Q := by
  refine st_iload (pc' := 71) rfl rfl rfl ?_
  refine st_iload (pc' := 72) rfl rfl rfl ?_
  exact st_icmp_ne (pc' := 75) rfl rfl kt kf
theorem B_Wo_groupOfReading_75 {d : Nat} {h : PH} {Q : PQ} {r0 : Nat} {r1 : Nat} {x2 : Int32} {x3 : Int32} {x4 : Int32} {x5 : Int32} {x6 : Int32}  (k : Q (some (.int x6)) h) : wpx d P_Wo_groupOfReading 75 [.ref r0, .ref r1, .int x2, .int x3, .int x4, .int x5, .int x6] [] h Q := by
  refine st_iload (pc' := 77) rfl rfl rfl ?_
  exact st_ireturn (ty := .int) rfl rfl rfl k
theorem B_Wo_groupOfReading_78 {d : Nat} {h : PH} {Q : PQ} {r0 : Nat} {r1 : Nat} {x2 : Int32} {x3 : Int32} {x4 : Int32} {x5 : Int32} {x6 : Int32} {a0 : Nat} {n1 : Nat} (hs0 : h_sh h r1 = some (0, 3)) (hr1 : h_r h r1 1 = some a0) (hs2 : h_sh h a0 = some (1, n1)) (hb3 : vp_in x6 n1) (k : wpx d P_Wo_groupOfReading 39 [.ref r0, .ref r1, .int x2, .int x3, .int (x4 + (h_i h a0 x6.toNatClampNeg)), .int (x5 + 1), .int x6] [] h Q) : wpx d P_Wo_groupOfReading 78 [.ref r0, .ref r1, .int x2, .int x3, .int x4, .int x5, .int x6] [] h Q := by
  refine st_iload (pc' := 80) rfl rfl rfl ?_
  refine st_aload (pc' := 81) rfl rfl rfl ?_
  refine st_getfr (x := some a0) (Or.inr rfl) rfl hs0 rfl hr1 (pc' := 84) rfl ?_
  refine st_iload (pc' := 86) rfl rfl rfl ?_
  refine st_iaload rfl hs2 hb3 (j := x6.toNatClampNeg) rfl (pc' := 87) rfl ?_
  refine st_iadd (pc' := 88) rfl rfl ?_
  refine st_istore (pc' := 90) (ls' := [.ref r0, .ref r1, .int x2, .int x3, .int (x4 + (h_i h a0 x6.toNatClampNeg)), .int x5, .int x6]) rfl rfl (Nat.le_of_ble_eq_true rfl) rfl ?_
  refine st_iinc (pc' := 93) (v := 1) (ls' := [.ref r0, .ref r1, .int x2, .int x3, .int (x4 + (h_i h a0 x6.toNatClampNeg)), .int (x5 + 1), .int x6]) rfl rfl rfl (by decide) rfl ?_
  exact st_goto rfl k
theorem B_Wo_groupOfReading_96 {d : Nat} {h : PH} {Q : PQ} {r0 : Nat} {r1 : Nat} {x2 : Int32} {x3 : Int32} {x4 : Int32} {x5 : Int32} {v6 : Value}  (k : Q (some (.int (-1))) h) : wpx d P_Wo_groupOfReading 96 [.ref r0, .ref r1, .int x2, .int x3, .int x4, .int x5, v6] [] h Q := by
  refine st_ipush (pc' := 97) (v := (-1)) rfl rfl (by decide) ?_
  exact st_ireturn (ty := .int) rfl rfl rfl k
theorem B_Wo_groupToward_0 {d : Nat} {h : PH} {Q : PQ} {r0 : Nat} {r1 : Nat} {x2 : Int32} {v3 : Value} {v4 : Value} {v5 : Value}  (k : wpx d P_Wo_groupToward 2 [.ref r0, .ref r1, .int x2, .int 0, v4, v5] [] h Q) : wpx d P_Wo_groupToward 0 [.ref r0, .ref r1, .int x2, v3, v4, v5] [] h Q := by
  refine st_ipush (pc' := 1) (v := 0) rfl rfl (by decide) ?_
  refine st_istore (pc' := 2) (ls' := [.ref r0, .ref r1, .int x2, .int 0, v4, v5]) rfl rfl (Nat.le_of_ble_eq_true rfl) rfl ?_
  exact k
theorem B_Wo_groupToward_2 {d : Nat} {h : PH} {Q : PQ} {r0 : Nat} {r1 : Nat} {x2 : Int32} {x3 : Int32} {v4 : Value} {v5 : Value} (hs0 : h_sh h r1 = some (0, 3)) (kt : (h_i h r1 3) ≤ x3 → wpx d P_Wo_groupToward 64 [.ref r0, .ref r1, .int x2, .int x3, v4, v5] [] h Q) (kf : ¬ ((h_i h r1 3) ≤ x3) → wpx d P_Wo_groupToward 10 [.ref r0, .ref r1, .int x2, .int x3, v4, v5] [] h Q) : wpx d P_Wo_groupToward 2 [.ref r0, .ref r1, .int x2, .int x3, v4, v5] [] h Q := by
  refine st_iload (pc' := 3) rfl rfl rfl ?_
  refine st_aload (pc' := 4) rfl rfl rfl ?_
  refine st_getfi (Or.inr rfl) rfl hs0 rfl (pc' := 7) rfl ?_
  exact st_icmp_ge (pc' := 10) rfl rfl kt kf
theorem B_Wo_groupToward_10 {d : Nat} {h : PH} {Q : PQ} {r0 : Nat} {r1 : Nat} {x2 : Int32} {x3 : Int32} {v4 : Value} {v5 : Value} (hs0 : h_sh h r0 = some (0, 10)) (k : wpm d 110 [.ref r0, .ref r1, .int x3, .int x2] h (fun r h' => wpx d P_Wo_groupToward 17 [.ref r0, .ref r1, .int x2, .int x3, v4, v5] (r.toList ++ []) h' Q)) : wpx d P_Wo_groupToward 10 [.ref r0, .ref r1, .int x2, .int x3, v4, v5] [] h Q := by
  refine st_aload (pc' := 11) rfl rfl rfl ?_
  refine st_aload (pc' := 12) rfl rfl rfl ?_
  refine st_iload (pc' := 13) rfl rfl rfl ?_
  refine st_iload (pc' := 14) rfl rfl rfl ?_
  exact st_call (pc' := 17) (as := [.ref r0, .ref r1, .int x3, .int x2]) (rest := []) rfl rfl (Nat.le_of_ble_eq_true rfl) rfl rfl (Nat.le_of_ble_eq_true rfl) (kd := 1) (o := 10) rfl rfl (beq_iff_eq.mpr hs0) k
theorem B_Wo_groupToward_17 {d : Nat} {h : PH} {Q : PQ} {r0 : Nat} {r1 : Nat} {x2 : Int32} {x3 : Int32} {v4 : Value} {v5 : Value} {s0 : Int32}  (kt : s0 = 0 → wpx d P_Wo_groupToward 58 [.ref r0, .ref r1, .int x2, .int x3, v4, v5] [] h Q) (kf : ¬ (s0 = 0) → wpx d P_Wo_groupToward 20 [.ref r0, .ref r1, .int x2, .int x3, v4, v5] [] h Q) : wpx d P_Wo_groupToward 17 [.ref r0, .ref r1, .int x2, .int x3, v4, v5] [.int s0] h Q := by
  exact st_if_eq (pc' := 20) rfl rfl kt kf
theorem B_Wo_groupToward_20 {d : Nat} {h : PH} {Q : PQ} {r0 : Nat} {r1 : Nat} {x2 : Int32} {x3 : Int32} {v4 : Value} {v5 : Value} {a0 : Nat} {a1 : Nat} {n2 : Nat} {n3 : Nat} (hs0 : h_sh h r0 = some (0, 10)) (hr1 : h_r h r0 2 = some a0) (hs2 : h_sh h r1 = some (0, 3)) (hr3 : h_r h r1 1 = some a1) (hs4 : h_sh h a1 = some (1, n2)) (hb5 : vp_in x3 n2) (hs6 : h_sh h a0 = some (4, n3)) (hb7 : vp_in (x2 + (h_i h a1 x3.toNatClampNeg)) n3) (kt : 0 ≤ (lg_cmp (h_l h r0 4) (h_l h a0 (x2 + (h_i h a1 x3.toNatClampNeg)).toNatClampNeg)) → wpx d P_Wo_groupToward 47 [.ref r0, .ref r1, .int x2, .int x3, .long (h_l h a0 (x2 + (h_i h a1 x3.toNatClampNeg)).toNatClampNeg), .retAddr 2] [] h Q) (kf : ¬ (0 ≤ (lg_cmp (h_l h r0 4) (h_l h a0 (x2 + (h_i h a1 x3.toNatClampNeg)).toNatClampNeg))) → wpx d P_Wo_groupToward 45 [.ref r0, .ref r1, .int x2, .int x3, .long (h_l h a0 (x2 + (h_i h a1 x3.toNatClampNeg)).toNatClampNeg), .retAddr 2] [] h Q) : wpx d P_Wo_groupToward 20 [.ref r0, .ref r1, .int x2, .int x3, v4, v5] [] h Q := by
  refine st_aload (pc' := 21) rfl rfl rfl ?_
  refine st_getfr (x := some a0) (Or.inl rfl) rfl hs0 rfl hr1 (pc' := 24) rfl ?_
  refine st_iload (pc' := 25) rfl rfl rfl ?_
  refine st_aload (pc' := 26) rfl rfl rfl ?_
  refine st_getfr (x := some a1) (Or.inr rfl) rfl hs2 rfl hr3 (pc' := 29) rfl ?_
  refine st_iload (pc' := 30) rfl rfl rfl ?_
  refine st_iaload rfl hs4 hb5 (j := x3.toNatClampNeg) rfl (pc' := 31) rfl ?_
  refine st_iadd (pc' := 32) rfl rfl ?_
  refine st_laload rfl hs6 hb7 (j := (x2 + (h_i h a1 x3.toNatClampNeg)).toNatClampNeg) rfl (pc' := 33) rfl ?_
  refine st_lstore (pc' := 35) (ls' := [.ref r0, .ref r1, .int x2, .int x3, .long (h_l h a0 (x2 + (h_i h a1 x3.toNatClampNeg)).toNatClampNeg), .retAddr 2]) rfl rfl (Nat.le_of_ble_eq_true rfl) rfl ?_
  refine st_aload (pc' := 36) rfl rfl rfl ?_
  refine st_getfl (Or.inl rfl) rfl hs0 rfl (pc' := 39) rfl ?_
  refine st_lload (pc' := 41) rfl rfl rfl rfl ?_
  refine st_lcmp (pc' := 42) rfl rfl ?_
  exact st_if_ge (pc' := 45) rfl rfl kt kf
theorem B_Wo_groupToward_45 {d : Nat} {h : PH} {Q : PQ} {r0 : Nat} {r1 : Nat} {x2 : Int32} {x3 : Int32} {l4 : Int64}  (k : Q (some (.int x3)) h) : wpx d P_Wo_groupToward 45 [.ref r0, .ref r1, .int x2, .int x3, .long l4, .retAddr 2] [] h Q := by
  refine st_iload (pc' := 46) rfl rfl rfl ?_
  exact st_ireturn (ty := .int) rfl rfl rfl k
theorem B_Wo_groupToward_47 {d : Nat} {h : PH} {Q : PQ} {r0 : Nat} {r1 : Nat} {x2 : Int32} {x3 : Int32} {l4 : Int64} (hs0 : h_sh h r0 = some (0, 10)) (k : wpx d P_Wo_groupToward 58 [.ref r0, .ref r1, .int x2, .int x3, .long l4, .retAddr 2] [] (w_l h r0 4 ((h_l h r0 4) - l4)) Q) : wpx d P_Wo_groupToward 47 [.ref r0, .ref r1, .int x2, .int x3, .long l4, .retAddr 2] [] h Q := by
  refine st_aload (pc' := 48) rfl rfl rfl ?_
  refine st_dup (pc' := 49) rfl rfl rfl ?_
  refine st_getfl (Or.inl rfl) rfl hs0 rfl (pc' := 52) rfl ?_
  refine st_lload (pc' := 54) rfl rfl rfl rfl ?_
  refine st_lsub (pc' := 55) rfl rfl ?_
  refine st_putf (h' := w_l h r0 4 ((h_l h r0 4) - l4)) (Or.inl rfl) rfl hs0 rfl rfl rfl (pc' := 58) rfl ?_
  exact k
theorem B_Wo_groupToward_58 {d : Nat} {h : PH} {Q : PQ} {r0 : Nat} {r1 : Nat} {x2 : Int32} {x3 : Int32} {v4 : Value} {v5 : Value}  (k : wpx d P_Wo_groupToward 2 [.ref r0, .ref r1, .int x2, .int (x3 + 1), v4, v5] [] h Q) : wpx d P_Wo_groupToward 58 [.ref r0, .ref r1, .int x2, .int x3, v4, v5] [] h Q := by
  refine st_iinc (pc' := 61) (v := 1) (ls' := [.ref r0, .ref r1, .int x2, .int (x3 + 1), v4, v5]) rfl rfl rfl (by decide) rfl ?_
  exact st_goto rfl k
theorem B_Wo_groupToward_64 {d : Nat} {h : PH} {Q : PQ} {r0 : Nat} {r1 : Nat} {x2 : Int32} {x3 : Int32} {v4 : Value} {v5 : Value}  (k : Q (some (.int (-1))) h) : wpx d P_Wo_groupToward 64 [.ref r0, .ref r1, .int x2, .int x3, v4, v5] [] h Q := by
  refine st_ipush (pc' := 65) (v := (-1)) rfl rfl (by decide) ?_
  exact st_ireturn (ty := .int) rfl rfl rfl k
theorem B_Wo_unlikeSoundRows_0 {d : Nat} {h : PH} {Q : PQ} {r0 : Nat} {r1 : Nat} {v2 : Value} {v3 : Value} {v4 : Value} {v5 : Value} {v6 : Value} {v7 : Value} {v8 : Value} (hs0 : h_sh h r0 = some (0, 10)) (k : wpm d 111 [.ref r0, .ref r1] h (fun r h' => wpx d P_Wo_unlikeSoundRows 5 [.ref r0, .ref r1, v2, v3, v4, v5, v6, v7, v8] (r.toList ++ []) h' Q)) : wpx d P_Wo_unlikeSoundRows 0 [.ref r0, .ref r1, v2, v3, v4, v5, v6, v7, v8] [] h Q := by
  refine st_aload (pc' := 1) rfl rfl rfl ?_
  refine st_aload (pc' := 2) rfl rfl rfl ?_
  exact st_call (pc' := 5) (as := [.ref r0, .ref r1]) (rest := []) rfl rfl (Nat.le_of_ble_eq_true rfl) rfl rfl (Nat.le_of_ble_eq_true rfl) (kd := 1) (o := 10) rfl rfl (beq_iff_eq.mpr hs0) k
theorem B_Wo_unlikeSoundRows_5 {d : Nat} {h : PH} {Q : PQ} {r0 : Nat} {r1 : Nat} {v2 : Value} {v3 : Value} {v4 : Value} {v5 : Value} {v6 : Value} {v7 : Value} {v8 : Value} {a0 : Nat} {n1 : Nat} (hs0 : h_sh h r0 = some (0, 10)) (hr1 : h_r h r0 2 = some a0) (hs2 : h_sh h a0 = some (4, n1)) (hb3 : vp_in 0 n1) (kt : 0 ≤ (lg_cmp (h_l h a0 0) (2 : Int64)) → wpx d P_Wo_unlikeSoundRows 26 [.ref r0, .ref r1, v2, v3, v4, v5, v6, v7, v8] [] h Q) (kf : ¬ (0 ≤ (lg_cmp (h_l h a0 0) (2 : Int64))) → wpx d P_Wo_unlikeSoundRows 18 [.ref r0, .ref r1, v2, v3, v4, v5, v6, v7, v8] [] h Q) : wpx d P_Wo_unlikeSoundRows 5 [.ref r0, .ref r1, v2, v3, v4, v5, v6, v7, v8] [] h Q := by
  refine st_aload (pc' := 6) rfl rfl rfl ?_
  refine st_getfr (x := some a0) (Or.inl rfl) rfl hs0 rfl hr1 (pc' := 9) rfl ?_
  refine st_ipush (pc' := 10) (v := 0) rfl rfl (by decide) ?_
  refine st_laload rfl hs2 hb3 (j := 0) (by decide) (pc' := 11) rfl ?_
  refine st_ldc2 (pc' := 14) (v := 2) rfl rfl (by decide) ?_
  refine st_lcmp (pc' := 15) rfl rfl ?_
  exact st_if_ge (pc' := 18) rfl rfl kt kf
theorem B_Wo_unlikeSoundRows_18 {d : Nat} {h : PH} {Q : PQ} {r0 : Nat} {r1 : Nat} {v2 : Value} {v3 : Value} {v4 : Value} {v5 : Value} {v6 : Value} {v7 : Value} {v8 : Value} {a0 : Nat} {n1 : Nat} (hs0 : h_sh h r0 = some (0, 10)) (hr1 : h_r h r0 2 = some a0) (hs2 : h_sh h a0 = some (4, n1)) (hb3 : vp_in 0 n1) (k : Q (some (.int ((h_l h a0 0).toInt32))) h) : wpx d P_Wo_unlikeSoundRows 18 [.ref r0, .ref r1, v2, v3, v4, v5, v6, v7, v8] [] h Q := by
  refine st_aload (pc' := 19) rfl rfl rfl ?_
  refine st_getfr (x := some a0) (Or.inl rfl) rfl hs0 rfl hr1 (pc' := 22) rfl ?_
  refine st_ipush (pc' := 23) (v := 0) rfl rfl (by decide) ?_
  refine st_laload rfl hs2 hb3 (j := 0) (by decide) (pc' := 24) rfl ?_
  refine st_l2i (pc' := 25) rfl rfl ?_
  exact st_ireturn (ty := .int) rfl rfl rfl k
theorem B_Wo_unlikeSoundRows_26 {d : Nat} {h : PH} {Q : PQ} {r0 : Nat} {r1 : Nat} {v2 : Value} {v3 : Value} {v4 : Value} {v5 : Value} {v6 : Value} {v7 : Value} {v8 : Value}  (k : wpx d P_Wo_unlikeSoundRows 36 [.ref r0, .ref r1, .int 0, .int 0, .long 1, .retAddr 2, .int 0, v7, v8] [] h Q) : wpx d P_Wo_unlikeSoundRows 26 [.ref r0, .ref r1, v2, v3, v4, v5, v6, v7, v8] [] h Q := by
  refine st_ipush (pc' := 27) (v := 0) rfl rfl (by decide) ?_
  refine st_istore (pc' := 28) (ls' := [.ref r0, .ref r1, .int 0, v3, v4, v5, v6, v7, v8]) rfl rfl (Nat.le_of_ble_eq_true rfl) rfl ?_
  refine st_ipush (pc' := 29) (v := 0) rfl rfl (by decide) ?_
  refine st_istore (pc' := 30) (ls' := [.ref r0, .ref r1, .int 0, .int 0, v4, v5, v6, v7, v8]) rfl rfl (Nat.le_of_ble_eq_true rfl) rfl ?_
  refine st_lpush (pc' := 31) (v := 1) rfl rfl (by decide) ?_
  refine st_lstore (pc' := 33) (ls' := [.ref r0, .ref r1, .int 0, .int 0, .long 1, .retAddr 2, v6, v7, v8]) rfl rfl (Nat.le_of_ble_eq_true rfl) rfl ?_
  refine st_ipush (pc' := 34) (v := 0) rfl rfl (by decide) ?_
  refine st_istore (pc' := 36) (ls' := [.ref r0, .ref r1, .int 0, .int 0, .long 1, .retAddr 2, .int 0, v7, v8]) rfl rfl (Nat.le_of_ble_eq_true rfl) rfl ?_
  exact k
theorem B_Wo_unlikeSoundRows_36 {d : Nat} {h : PH} {Q : PQ} {r0 : Nat} {r1 : Nat} {x2 : Int32} {x3 : Int32} {l4 : Int64} {x6 : Int32} {v7 : Value} {v8 : Value} (hs0 : h_sh h r0 = some (0, 10)) (kt : (h_i h r0 1) ≤ x6 → wpx d P_Wo_unlikeSoundRows 151 [.ref r0, .ref r1, .int x2, .int x3, .long l4, .retAddr 2, .int x6, v7, v8] [] h Q) (kf : ¬ ((h_i h r0 1) ≤ x6) → wpx d P_Wo_unlikeSoundRows 45 [.ref r0, .ref r1, .int x2, .int x3, .long l4, .retAddr 2, .int x6, v7, v8] [] h Q) : wpx d P_Wo_unlikeSoundRows 36 [.ref r0, .ref r1, .int x2, .int x3, .long l4, .retAddr 2, .int x6, v7, v8] [] h Q := by
  refine st_iload (pc' := 38) rfl rfl rfl ?_
  refine st_aload (pc' := 39) rfl rfl rfl ?_
  refine st_getfi (Or.inl rfl) rfl hs0 rfl (pc' := 42) rfl ?_
  exact st_icmp_ge (pc' := 45) rfl rfl kt kf
theorem B_Wo_unlikeSoundRows_45 {d : Nat} {h : PH} {Q : PQ} {r0 : Nat} {r1 : Nat} {x2 : Int32} {x3 : Int32} {l4 : Int64} {x6 : Int32} {v7 : Value} {v8 : Value} (hs0 : h_sh h r0 = some (0, 10)) (kt : (h_i h r0 1) ≤ x2 → wpx d P_Wo_unlikeSoundRows 151 [.ref r0, .ref r1, .int x2, .int x3, .long l4, .retAddr 2, .int x6, v7, v8] [] h Q) (kf : ¬ ((h_i h r0 1) ≤ x2) → wpx d P_Wo_unlikeSoundRows 53 [.ref r0, .ref r1, .int x2, .int x3, .long l4, .retAddr 2, .int x6, v7, v8] [] h Q) : wpx d P_Wo_unlikeSoundRows 45 [.ref r0, .ref r1, .int x2, .int x3, .long l4, .retAddr 2, .int x6, v7, v8] [] h Q := by
  refine st_iload (pc' := 46) rfl rfl rfl ?_
  refine st_aload (pc' := 47) rfl rfl rfl ?_
  refine st_getfi (Or.inl rfl) rfl hs0 rfl (pc' := 50) rfl ?_
  exact st_icmp_ge (pc' := 53) rfl rfl kt kf
theorem B_Wo_unlikeSoundRows_53 {d : Nat} {h : PH} {Q : PQ} {r0 : Nat} {r1 : Nat} {x2 : Int32} {x3 : Int32} {l4 : Int64} {x6 : Int32} {v7 : Value} {v8 : Value} (hs0 : h_sh h r0 = some (0, 10)) (kt : (h_i h r0 1) ≤ x3 → wpx d P_Wo_unlikeSoundRows 151 [.ref r0, .ref r1, .int x2, .int x3, .long l4, .retAddr 2, .int x6, v7, v8] [] h Q) (kf : ¬ ((h_i h r0 1) ≤ x3) → wpx d P_Wo_unlikeSoundRows 61 [.ref r0, .ref r1, .int x2, .int x3, .long l4, .retAddr 2, .int x6, v7, v8] [] h Q) : wpx d P_Wo_unlikeSoundRows 53 [.ref r0, .ref r1, .int x2, .int x3, .long l4, .retAddr 2, .int x6, v7, v8] [] h Q := by
  refine st_iload (pc' := 54) rfl rfl rfl ?_
  refine st_aload (pc' := 55) rfl rfl rfl ?_
  refine st_getfi (Or.inl rfl) rfl hs0 rfl (pc' := 58) rfl ?_
  exact st_icmp_ge (pc' := 61) rfl rfl kt kf
theorem B_Wo_unlikeSoundRows_61 {d : Nat} {h : PH} {Q : PQ} {r0 : Nat} {r1 : Nat} {x2 : Int32} {x3 : Int32} {l4 : Int64} {x6 : Int32} {v7 : Value} {v8 : Value} (hs0 : h_sh h r0 = some (0, 10)) (k : wpm d 114 [.ref r0, .ref r1, .int x2] (w_l h r0 4 0) (fun r h' => wpx d P_Wo_unlikeSoundRows 72 [.ref r0, .ref r1, .int x2, .int x3, .long l4, .retAddr 2, .int x6, v7, v8] (r.toList ++ []) h' Q)) : wpx d P_Wo_unlikeSoundRows 61 [.ref r0, .ref r1, .int x2, .int x3, .long l4, .retAddr 2, .int x6, v7, v8] [] h Q := by
  refine st_aload (pc' := 62) rfl rfl rfl ?_
  refine st_lpush (pc' := 63) (v := 0) rfl rfl (by decide) ?_
  refine st_putf (h' := w_l h r0 4 0) (Or.inl rfl) rfl hs0 rfl rfl rfl (pc' := 66) rfl ?_
  refine st_aload (pc' := 67) rfl rfl rfl ?_
  refine st_aload (pc' := 68) rfl rfl rfl ?_
  refine st_iload (pc' := 69) rfl rfl rfl ?_
  exact st_call (pc' := 72) (as := [.ref r0, .ref r1, .int x2]) (rest := []) rfl rfl (Nat.le_of_ble_eq_true rfl) rfl rfl (Nat.le_of_ble_eq_true rfl) (kd := 1) (o := 10) rfl rfl (beq_iff_eq.mpr hs0) k
theorem B_Wo_unlikeSoundRows_72 {d : Nat} {h : PH} {Q : PQ} {r0 : Nat} {r1 : Nat} {x2 : Int32} {x3 : Int32} {l4 : Int64} {x6 : Int32} {v7 : Value} {v8 : Value} {s0 : Int32} (hs0 : h_sh h r0 = some (0, 10)) (k : wpm d 114 [.ref r0, .ref r1, .int x3] (w_l h r0 4 l4) (fun r h' => wpx d P_Wo_unlikeSoundRows 86 [.ref r0, .ref r1, .int x2, .int x3, .long l4, .retAddr 2, .int x6, .int s0, v8] (r.toList ++ []) h' Q)) : wpx d P_Wo_unlikeSoundRows 72 [.ref r0, .ref r1, .int x2, .int x3, .long l4, .retAddr 2, .int x6, v7, v8] [.int s0] h Q := by
  refine st_istore (pc' := 74) (ls' := [.ref r0, .ref r1, .int x2, .int x3, .long l4, .retAddr 2, .int x6, .int s0, v8]) rfl rfl (Nat.le_of_ble_eq_true rfl) rfl ?_
  refine st_aload (pc' := 75) rfl rfl rfl ?_
  refine st_lload (pc' := 77) rfl rfl rfl rfl ?_
  refine st_putf (h' := w_l h r0 4 l4) (Or.inl rfl) rfl hs0 rfl rfl rfl (pc' := 80) rfl ?_
  refine st_aload (pc' := 81) rfl rfl rfl ?_
  refine st_aload (pc' := 82) rfl rfl rfl ?_
  refine st_iload (pc' := 83) rfl rfl rfl ?_
  exact st_call (pc' := 86) (as := [.ref r0, .ref r1, .int x3]) (rest := []) rfl rfl (Nat.le_of_ble_eq_true rfl) rfl rfl (Nat.le_of_ble_eq_true rfl) (kd := 1) (o := 10) rfl rfl (beq_iff_eq.mpr hs0) k
theorem B_Wo_unlikeSoundRows_86 {d : Nat} {h : PH} {Q : PQ} {r0 : Nat} {r1 : Nat} {x2 : Int32} {x3 : Int32} {l4 : Int64} {x6 : Int32} {x7 : Int32} {v8 : Value} {s0 : Int32} (hs0 : h_sh h r0 = some (0, 10)) (kt : x7 = ((-1) : Int32) → wpx d P_Wo_unlikeSoundRows 123 [.ref r0, .ref r1, .int x2, .int x3, .long (h_l h r0 4), .retAddr 2, .int x6, .int x7, .int s0] [] h Q) (kf : ¬ (x7 = ((-1) : Int32)) → wpx d P_Wo_unlikeSoundRows 100 [.ref r0, .ref r1, .int x2, .int x3, .long (h_l h r0 4), .retAddr 2, .int x6, .int x7, .int s0] [] h Q) : wpx d P_Wo_unlikeSoundRows 86 [.ref r0, .ref r1, .int x2, .int x3, .long l4, .retAddr 2, .int x6, .int x7, v8] [.int s0] h Q := by
  refine st_istore (pc' := 88) (ls' := [.ref r0, .ref r1, .int x2, .int x3, .long l4, .retAddr 2, .int x6, .int x7, .int s0]) rfl rfl (Nat.le_of_ble_eq_true rfl) rfl ?_
  refine st_aload (pc' := 89) rfl rfl rfl ?_
  refine st_getfl (Or.inl rfl) rfl hs0 rfl (pc' := 92) rfl ?_
  refine st_lstore (pc' := 94) (ls' := [.ref r0, .ref r1, .int x2, .int x3, .long (h_l h r0 4), .retAddr 2, .int x6, .int x7, .int s0]) rfl rfl (Nat.le_of_ble_eq_true rfl) rfl ?_
  refine st_iload (pc' := 96) rfl rfl rfl ?_
  refine st_ipush (pc' := 97) (v := (-1)) rfl rfl (by decide) ?_
  exact st_icmp_eq (pc' := 100) rfl rfl kt kf
theorem B_Wo_unlikeSoundRows_100 {d : Nat} {h : PH} {Q : PQ} {r0 : Nat} {r1 : Nat} {x2 : Int32} {x3 : Int32} {l4 : Int64} {x6 : Int32} {x7 : Int32} {x8 : Int32}  (kt : x8 = ((-1) : Int32) → wpx d P_Wo_unlikeSoundRows 123 [.ref r0, .ref r1, .int x2, .int x3, .long l4, .retAddr 2, .int x6, .int x7, .int x8] [] h Q) (kf : ¬ (x8 = ((-1) : Int32)) → wpx d P_Wo_unlikeSoundRows 106 [.ref r0, .ref r1, .int x2, .int x3, .long l4, .retAddr 2, .int x6, .int x7, .int x8] [] h Q) : wpx d P_Wo_unlikeSoundRows 100 [.ref r0, .ref r1, .int x2, .int x3, .long l4, .retAddr 2, .int x6, .int x7, .int x8] [] h Q := by
  refine st_iload (pc' := 102) rfl rfl rfl ?_
  refine st_ipush (pc' := 103) (v := (-1)) rfl rfl (by decide) ?_
  exact st_icmp_eq (pc' := 106) rfl rfl kt kf
theorem B_Wo_unlikeSoundRows_106 {d : Nat} {h : PH} {Q : PQ} {r0 : Nat} {r1 : Nat} {x2 : Int32} {x3 : Int32} {l4 : Int64} {x6 : Int32} {x7 : Int32} {x8 : Int32} {a0 : Nat} {n1 : Nat} (hs0 : h_sh h r1 = some (0, 3)) (hr1 : h_r h r1 2 = some a0) (hs2 : h_sh h a0 = some (1, n1)) (hb3 : vp_in x7 n1) (hb4 : vp_in x8 n1) (kt : (h_i h a0 x7.toNatClampNeg) = (h_i h a0 x8.toNatClampNeg) → wpx d P_Wo_unlikeSoundRows 125 [.ref r0, .ref r1, .int x2, .int x3, .long l4, .retAddr 2, .int x6, .int x7, .int x8] [] h Q) (kf : ¬ ((h_i h a0 x7.toNatClampNeg) = (h_i h a0 x8.toNatClampNeg)) → wpx d P_Wo_unlikeSoundRows 123 [.ref r0, .ref r1, .int x2, .int x3, .long l4, .retAddr 2, .int x6, .int x7, .int x8] [] h Q) : wpx d P_Wo_unlikeSoundRows 106 [.ref r0, .ref r1, .int x2, .int x3, .long l4, .retAddr 2, .int x6, .int x7, .int x8] [] h Q := by
  refine st_aload (pc' := 107) rfl rfl rfl ?_
  refine st_getfr (x := some a0) (Or.inr rfl) rfl hs0 rfl hr1 (pc' := 110) rfl ?_
  refine st_iload (pc' := 112) rfl rfl rfl ?_
  refine st_iaload rfl hs2 hb3 (j := x7.toNatClampNeg) rfl (pc' := 113) rfl ?_
  refine st_aload (pc' := 114) rfl rfl rfl ?_
  refine st_getfr (x := some a0) (Or.inr rfl) rfl hs0 rfl hr1 (pc' := 117) rfl ?_
  refine st_iload (pc' := 119) rfl rfl rfl ?_
  refine st_iaload rfl hs2 hb4 (j := x8.toNatClampNeg) rfl (pc' := 120) rfl ?_
  exact st_icmp_eq (pc' := 123) rfl rfl kt kf
theorem B_Wo_unlikeSoundRows_123 {d : Nat} {h : PH} {Q : PQ} {r0 : Nat} {r1 : Nat} {x2 : Int32} {x3 : Int32} {l4 : Int64} {x6 : Int32} {x7 : Int32} {x8 : Int32}  (k : Q (some (.int 2)) h) : wpx d P_Wo_unlikeSoundRows 123 [.ref r0, .ref r1, .int x2, .int x3, .long l4, .retAddr 2, .int x6, .int x7, .int x8] [] h Q := by
  refine st_ipush (pc' := 124) (v := 2) rfl rfl (by decide) ?_
  exact st_ireturn (ty := .int) rfl rfl rfl k
theorem B_Wo_unlikeSoundRows_125 {d : Nat} {h : PH} {Q : PQ} {r0 : Nat} {r1 : Nat} {x2 : Int32} {x3 : Int32} {l4 : Int64} {x6 : Int32} {x7 : Int32} {x8 : Int32} {a0 : Nat} {n1 : Nat} (hs0 : h_sh h r1 = some (0, 3)) (hr1 : h_r h r1 1 = some a0) (hs2 : h_sh h a0 = some (1, n1)) (hb3 : vp_in x7 n1) (hb4 : vp_in x8 n1) (k : wpx d P_Wo_unlikeSoundRows 36 [.ref r0, .ref r1, .int (x2 + (h_i h a0 x7.toNatClampNeg)), .int (x3 + (h_i h a0 x8.toNatClampNeg)), .long l4, .retAddr 2, .int (x6 + 1), .int x7, .int x8] [] h Q) : wpx d P_Wo_unlikeSoundRows 125 [.ref r0, .ref r1, .int x2, .int x3, .long l4, .retAddr 2, .int x6, .int x7, .int x8] [] h Q := by
  refine st_iload (pc' := 126) rfl rfl rfl ?_
  refine st_aload (pc' := 127) rfl rfl rfl ?_
  refine st_getfr (x := some a0) (Or.inr rfl) rfl hs0 rfl hr1 (pc' := 130) rfl ?_
  refine st_iload (pc' := 132) rfl rfl rfl ?_
  refine st_iaload rfl hs2 hb3 (j := x7.toNatClampNeg) rfl (pc' := 133) rfl ?_
  refine st_iadd (pc' := 134) rfl rfl ?_
  refine st_istore (pc' := 135) (ls' := [.ref r0, .ref r1, .int (x2 + (h_i h a0 x7.toNatClampNeg)), .int x3, .long l4, .retAddr 2, .int x6, .int x7, .int x8]) rfl rfl (Nat.le_of_ble_eq_true rfl) rfl ?_
  refine st_iload (pc' := 136) rfl rfl rfl ?_
  refine st_aload (pc' := 137) rfl rfl rfl ?_
  refine st_getfr (x := some a0) (Or.inr rfl) rfl hs0 rfl hr1 (pc' := 140) rfl ?_
  refine st_iload (pc' := 142) rfl rfl rfl ?_
  refine st_iaload rfl hs2 hb4 (j := x8.toNatClampNeg) rfl (pc' := 143) rfl ?_
  refine st_iadd (pc' := 144) rfl rfl ?_
  refine st_istore (pc' := 145) (ls' := [.ref r0, .ref r1, .int (x2 + (h_i h a0 x7.toNatClampNeg)), .int (x3 + (h_i h a0 x8.toNatClampNeg)), .long l4, .retAddr 2, .int x6, .int x7, .int x8]) rfl rfl (Nat.le_of_ble_eq_true rfl) rfl ?_
  refine st_iinc (pc' := 148) (v := 1) (ls' := [.ref r0, .ref r1, .int (x2 + (h_i h a0 x7.toNatClampNeg)), .int (x3 + (h_i h a0 x8.toNatClampNeg)), .long l4, .retAddr 2, .int (x6 + 1), .int x7, .int x8]) rfl rfl rfl (by decide) rfl ?_
  exact st_goto rfl k
theorem B_Wo_unlikeSoundRows_151 {d : Nat} {h : PH} {Q : PQ} {r0 : Nat} {r1 : Nat} {x2 : Int32} {x3 : Int32} {l4 : Int64} {x6 : Int32} {v7 : Value} {v8 : Value}  (kt : ¬ (x2 = x3) → wpx d P_Wo_unlikeSoundRows 160 [.ref r0, .ref r1, .int x2, .int x3, .long l4, .retAddr 2, .int x6, v7, v8] [] h Q) (kf : x2 = x3 → wpx d P_Wo_unlikeSoundRows 156 [.ref r0, .ref r1, .int x2, .int x3, .long l4, .retAddr 2, .int x6, v7, v8] [] h Q) : wpx d P_Wo_unlikeSoundRows 151 [.ref r0, .ref r1, .int x2, .int x3, .long l4, .retAddr 2, .int x6, v7, v8] [] h Q := by
  refine st_iload (pc' := 152) rfl rfl rfl ?_
  refine st_iload (pc' := 153) rfl rfl rfl ?_
  exact st_icmp_ne (pc' := 156) rfl rfl kt kf
theorem B_Wo_unlikeSoundRows_156 {d : Nat} {h : PH} {Q : PQ} {r0 : Nat} {r1 : Nat} {x2 : Int32} {x3 : Int32} {l4 : Int64} {x6 : Int32} {v7 : Value} {v8 : Value}  (k : wpx d P_Wo_unlikeSoundRows 161 [.ref r0, .ref r1, .int x2, .int x3, .long l4, .retAddr 2, .int x6, v7, v8] [.int 1] h Q) : wpx d P_Wo_unlikeSoundRows 156 [.ref r0, .ref r1, .int x2, .int x3, .long l4, .retAddr 2, .int x6, v7, v8] [] h Q := by
  refine st_ipush (pc' := 157) (v := 1) rfl rfl (by decide) ?_
  exact st_goto rfl k
theorem B_Wo_unlikeSoundRows_160 {d : Nat} {h : PH} {Q : PQ} {r0 : Nat} {r1 : Nat} {x2 : Int32} {x3 : Int32} {l4 : Int64} {x6 : Int32} {v7 : Value} {v8 : Value}  (k : wpx d P_Wo_unlikeSoundRows 161 [.ref r0, .ref r1, .int x2, .int x3, .long l4, .retAddr 2, .int x6, v7, v8] [.int 2] h Q) : wpx d P_Wo_unlikeSoundRows 160 [.ref r0, .ref r1, .int x2, .int x3, .long l4, .retAddr 2, .int x6, v7, v8] [] h Q := by
  refine st_ipush (pc' := 161) (v := 2) rfl rfl (by decide) ?_
  exact k
theorem B_Wo_unlikeSoundRows_161 {d : Nat} {h : PH} {Q : PQ} {r0 : Nat} {r1 : Nat} {x2 : Int32} {x3 : Int32} {l4 : Int64} {x6 : Int32} {v7 : Value} {v8 : Value} {s0 : Int32}  (k : Q (some (.int s0)) h) : wpx d P_Wo_unlikeSoundRows 161 [.ref r0, .ref r1, .int x2, .int x3, .long l4, .retAddr 2, .int x6, v7, v8] [.int s0] h Q := by
  exact st_ireturn (ty := .int) rfl rfl rfl k
theorem B_Wo_longestBeginning_0 {d : Nat} {h : PH} {Q : PQ} {r0 : Nat} {r1 : Nat} {v2 : Value} {v3 : Value} {v4 : Value} {v5 : Value} {a0 : Nat} (hs0 : h_sh h r0 = some (0, 10)) (hr1 : h_r h r0 3 = some a0) (k : wpm d 161 [.ref a0, .int ((h_i h r0 1) + (1 : Int32))] h (fun r h' => wpx d P_Wo_longestBeginning 13 [.ref r0, .ref r1, v2, v3, v4, v5] (r.toList ++ []) h' Q)) : wpx d P_Wo_longestBeginning 0 [.ref r0, .ref r1, v2, v3, v4, v5] [] h Q := by
  refine st_aload (pc' := 1) rfl rfl rfl ?_
  refine st_getfr (x := some a0) (Or.inl rfl) rfl hs0 rfl hr1 (pc' := 4) rfl ?_
  refine st_aload (pc' := 5) rfl rfl rfl ?_
  refine st_getfi (Or.inl rfl) rfl hs0 rfl (pc' := 8) rfl ?_
  refine st_ipush (pc' := 9) (v := 1) rfl rfl (by decide) ?_
  refine st_iadd (pc' := 10) rfl rfl ?_
  exact st_call (pc' := 13) (as := [.ref a0, .int ((h_i h r0 1) + (1 : Int32))]) (rest := []) rfl rfl (Nat.le_of_ble_eq_true rfl) rfl rfl (Nat.le_of_ble_eq_true rfl) (kd := 0) (o := 11) rfl rfl rfl k
theorem B_Wo_longestBeginning_13 {d : Nat} {h : PH} {Q : PQ} {r0 : Nat} {r1 : Nat} {v2 : Value} {v3 : Value} {v4 : Value} {v5 : Value} {a0 : Nat} {n1 : Nat} (hs0 : h_sh h r0 = some (0, 10)) (hr1 : h_r h r0 3 = some a0) (hs2 : h_sh h a0 = some (3, n1)) (hb3 : vp_in 0 n1) (k : wpx d P_Wo_longestBeginning 24 [.ref r0, .ref r1, .int 0, .int 0, v4, v5] [] (w_i h a0 0 ((1 : Int32) &&& 1)) Q) : wpx d P_Wo_longestBeginning 13 [.ref r0, .ref r1, v2, v3, v4, v5] [] h Q := by
  refine st_aload (pc' := 14) rfl rfl rfl ?_
  refine st_getfr (x := some a0) (Or.inl rfl) rfl hs0 rfl hr1 (pc' := 17) rfl ?_
  refine st_ipush (pc' := 18) (v := 0) rfl rfl (by decide) ?_
  refine st_ipush (pc' := 19) (v := 1) rfl rfl (by decide) ?_
  refine st_zastore rfl hs2 hb3 (j := 0) (by decide) (pc' := 20) rfl ?_
  refine st_ipush (pc' := 21) (v := 0) rfl rfl (by decide) ?_
  refine st_istore (pc' := 22) (ls' := [.ref r0, .ref r1, .int 0, v3, v4, v5]) rfl rfl (Nat.le_of_ble_eq_true rfl) rfl ?_
  refine st_ipush (pc' := 23) (v := 0) rfl rfl (by decide) ?_
  refine st_istore (pc' := 24) (ls' := [.ref r0, .ref r1, .int 0, .int 0, v4, v5]) rfl rfl (Nat.le_of_ble_eq_true rfl) rfl ?_
  exact k
theorem B_Wo_longestBeginning_24 {d : Nat} {h : PH} {Q : PQ} {r0 : Nat} {r1 : Nat} {x2 : Int32} {x3 : Int32} {v4 : Value} {v5 : Value} (hs0 : h_sh h r0 = some (0, 10)) (kt : (h_i h r0 1) ≤ x3 → wpx d P_Wo_longestBeginning 126 [.ref r0, .ref r1, .int x2, .int x3, v4, v5] [] h Q) (kf : ¬ ((h_i h r0 1) ≤ x3) → wpx d P_Wo_longestBeginning 32 [.ref r0, .ref r1, .int x2, .int x3, v4, v5] [] h Q) : wpx d P_Wo_longestBeginning 24 [.ref r0, .ref r1, .int x2, .int x3, v4, v5] [] h Q := by
  refine st_iload (pc' := 25) rfl rfl rfl ?_
  refine st_aload (pc' := 26) rfl rfl rfl ?_
  refine st_getfi (Or.inl rfl) rfl hs0 rfl (pc' := 29) rfl ?_
  exact st_icmp_ge (pc' := 32) rfl rfl kt kf
theorem B_Wo_longestBeginning_32 {d : Nat} {h : PH} {Q : PQ} {r0 : Nat} {r1 : Nat} {x2 : Int32} {x3 : Int32} {v4 : Value} {v5 : Value}  (k : wpx d P_Wo_longestBeginning 35 [.ref r0, .ref r1, .int x2, .int x3, .int 0, v5] [] h Q) : wpx d P_Wo_longestBeginning 32 [.ref r0, .ref r1, .int x2, .int x3, v4, v5] [] h Q := by
  refine st_ipush (pc' := 33) (v := 0) rfl rfl (by decide) ?_
  refine st_istore (pc' := 35) (ls' := [.ref r0, .ref r1, .int x2, .int x3, .int 0, v5]) rfl rfl (Nat.le_of_ble_eq_true rfl) rfl ?_
  exact k
theorem B_Wo_longestBeginning_35 {d : Nat} {h : PH} {Q : PQ} {r0 : Nat} {r1 : Nat} {x2 : Int32} {x3 : Int32} {x4 : Int32} {v5 : Value} (hs0 : h_sh h r1 = some (0, 3)) (kt : (h_i h r1 3) ≤ x4 → wpx d P_Wo_longestBeginning 120 [.ref r0, .ref r1, .int x2, .int x3, .int x4, v5] [] h Q) (kf : ¬ ((h_i h r1 3) ≤ x4) → wpx d P_Wo_longestBeginning 44 [.ref r0, .ref r1, .int x2, .int x3, .int x4, v5] [] h Q) : wpx d P_Wo_longestBeginning 35 [.ref r0, .ref r1, .int x2, .int x3, .int x4, v5] [] h Q := by
  refine st_iload (pc' := 37) rfl rfl rfl ?_
  refine st_aload (pc' := 38) rfl rfl rfl ?_
  refine st_getfi (Or.inr rfl) rfl hs0 rfl (pc' := 41) rfl ?_
  exact st_icmp_ge (pc' := 44) rfl rfl kt kf
theorem B_Wo_longestBeginning_44 {d : Nat} {h : PH} {Q : PQ} {r0 : Nat} {r1 : Nat} {x2 : Int32} {x3 : Int32} {x4 : Int32} {v5 : Value} {a0 : Nat} {n1 : Nat} (hs0 : h_sh h r0 = some (0, 10)) (hr1 : h_r h r0 3 = some a0) (hs2 : h_sh h a0 = some (3, n1)) (hb3 : vp_in x3 n1) (kt : (h_i h a0 x3.toNatClampNeg) = 0 → wpx d P_Wo_longestBeginning 120 [.ref r0, .ref r1, .int x2, .int x3, .int x4, v5] [] h Q) (kf : ¬ ((h_i h a0 x3.toNatClampNeg) = 0) → wpx d P_Wo_longestBeginning 53 [.ref r0, .ref r1, .int x2, .int x3, .int x4, v5] [] h Q) : wpx d P_Wo_longestBeginning 44 [.ref r0, .ref r1, .int x2, .int x3, .int x4, v5] [] h Q := by
  refine st_aload (pc' := 45) rfl rfl rfl ?_
  refine st_getfr (x := some a0) (Or.inl rfl) rfl hs0 rfl hr1 (pc' := 48) rfl ?_
  refine st_iload (pc' := 49) rfl rfl rfl ?_
  refine st_baload rfl (Or.inr hs2) hb3 (j := x3.toNatClampNeg) rfl (pc' := 50) rfl ?_
  exact st_if_eq (pc' := 53) rfl rfl kt kf
theorem B_Wo_longestBeginning_53 {d : Nat} {h : PH} {Q : PQ} {r0 : Nat} {r1 : Nat} {x2 : Int32} {x3 : Int32} {x4 : Int32} {v5 : Value} (hs0 : h_sh h r1 = some (0, 3)) (k : wpm d 35 [.ref r1, .int x4] h (fun r h' => wpx d P_Wo_longestBeginning 59 [.ref r0, .ref r1, .int x2, .int x3, .int x4, v5] (r.toList ++ []) h' Q)) : wpx d P_Wo_longestBeginning 53 [.ref r0, .ref r1, .int x2, .int x3, .int x4, v5] [] h Q := by
  refine st_aload (pc' := 54) rfl rfl rfl ?_
  refine st_iload (pc' := 56) rfl rfl rfl ?_
  exact st_call (pc' := 59) (as := [.ref r1, .int x4]) (rest := []) rfl rfl (Nat.le_of_ble_eq_true rfl) rfl rfl (Nat.le_of_ble_eq_true rfl) (kd := 1) (o := 3) rfl rfl (beq_iff_eq.mpr hs0) k
theorem B_Wo_longestBeginning_59 {d : Nat} {h : PH} {Q : PQ} {r0 : Nat} {r1 : Nat} {x2 : Int32} {x3 : Int32} {x4 : Int32} {v5 : Value} {s0 : Int32}  (kt : s0 = 0 → wpx d P_Wo_longestBeginning 114 [.ref r0, .ref r1, .int x2, .int x3, .int x4, v5] [] h Q) (kf : ¬ (s0 = 0) → wpx d P_Wo_longestBeginning 62 [.ref r0, .ref r1, .int x2, .int x3, .int x4, v5] [] h Q) : wpx d P_Wo_longestBeginning 59 [.ref r0, .ref r1, .int x2, .int x3, .int x4, v5] [.int s0] h Q := by
  exact st_if_eq (pc' := 62) rfl rfl kt kf
theorem B_Wo_longestBeginning_62 {d : Nat} {h : PH} {Q : PQ} {r0 : Nat} {r1 : Nat} {x2 : Int32} {x3 : Int32} {x4 : Int32} {v5 : Value} {a0 : Nat} {n1 : Nat} {a2 : Nat} {n3 : Nat} (hs0 : h_sh h r1 = some (0, 3)) (hr1 : h_r h r1 0 = some a0) (hs2 : h_sh h a0 = some (4, n1)) (hb3 : vp_in x4 n1) (hr4 : h_r h r1 1 = some a2) (hs5 : h_sh h a2 = some (1, n3)) (hb6 : vp_in x4 n3) (hs7 : h_sh h r0 = some (0, 10)) (k : wpm d 109 [.ref r0, .long (h_l h a0 x4.toNatClampNeg), .int (h_i h a2 x4.toNatClampNeg), .int x3] h (fun r h' => wpx d P_Wo_longestBeginning 81 [.ref r0, .ref r1, .int x2, .int x3, .int x4, v5] (r.toList ++ []) h' Q)) : wpx d P_Wo_longestBeginning 62 [.ref r0, .ref r1, .int x2, .int x3, .int x4, v5] [] h Q := by
  refine st_aload (pc' := 63) rfl rfl rfl ?_
  refine st_aload (pc' := 64) rfl rfl rfl ?_
  refine st_getfr (x := some a0) (Or.inr rfl) rfl hs0 rfl hr1 (pc' := 67) rfl ?_
  refine st_iload (pc' := 69) rfl rfl rfl ?_
  refine st_laload rfl hs2 hb3 (j := x4.toNatClampNeg) rfl (pc' := 70) rfl ?_
  refine st_aload (pc' := 71) rfl rfl rfl ?_
  refine st_getfr (x := some a2) (Or.inr rfl) rfl hs0 rfl hr4 (pc' := 74) rfl ?_
  refine st_iload (pc' := 76) rfl rfl rfl ?_
  refine st_iaload rfl hs5 hb6 (j := x4.toNatClampNeg) rfl (pc' := 77) rfl ?_
  refine st_iload (pc' := 78) rfl rfl rfl ?_
  exact st_call (pc' := 81) (as := [.ref r0, .long (h_l h a0 x4.toNatClampNeg), .int (h_i h a2 x4.toNatClampNeg), .int x3]) (rest := []) rfl rfl (Nat.le_of_ble_eq_true rfl) rfl rfl (Nat.le_of_ble_eq_true rfl) (kd := 1) (o := 10) rfl rfl (beq_iff_eq.mpr hs7) k
theorem B_Wo_longestBeginning_81 {d : Nat} {h : PH} {Q : PQ} {r0 : Nat} {r1 : Nat} {x2 : Int32} {x3 : Int32} {x4 : Int32} {v5 : Value} {s0 : Int32} {a0 : Nat} {n1 : Nat} (hs0 : h_sh h r1 = some (0, 3)) (hr1 : h_r h r1 1 = some a0) (hs2 : h_sh h a0 = some (1, n1)) (hb3 : vp_in x4 n1) (kt : ¬ (s0 = (h_i h a0 x4.toNatClampNeg)) → wpx d P_Wo_longestBeginning 114 [.ref r0, .ref r1, .int (if x2 < (x3 + s0) then (x3 + s0) else x2), .int x3, .int x4, .int s0] [] h Q) (kf : s0 = (h_i h a0 x4.toNatClampNeg) → wpx d P_Wo_longestBeginning 104 [.ref r0, .ref r1, .int (if x2 < (x3 + s0) then (x3 + s0) else x2), .int x3, .int x4, .int s0] [] h Q) : wpx d P_Wo_longestBeginning 81 [.ref r0, .ref r1, .int x2, .int x3, .int x4, v5] [.int s0] h Q := by
  refine st_istore (pc' := 83) (ls' := [.ref r0, .ref r1, .int x2, .int x3, .int x4, .int s0]) rfl rfl (Nat.le_of_ble_eq_true rfl) rfl ?_
  refine st_iload (pc' := 84) rfl rfl rfl ?_
  refine st_iload (pc' := 85) rfl rfl rfl ?_
  refine st_iload (pc' := 87) rfl rfl rfl ?_
  refine st_iadd (pc' := 88) rfl rfl ?_
  refine st_mmax (pc' := 91) rfl rfl (Nat.le_of_ble_eq_true rfl) ?_
  refine st_istore (pc' := 92) (ls' := [.ref r0, .ref r1, .int (if x2 < (x3 + s0) then (x3 + s0) else x2), .int x3, .int x4, .int s0]) rfl rfl (Nat.le_of_ble_eq_true rfl) rfl ?_
  refine st_iload (pc' := 94) rfl rfl rfl ?_
  refine st_aload (pc' := 95) rfl rfl rfl ?_
  refine st_getfr (x := some a0) (Or.inr rfl) rfl hs0 rfl hr1 (pc' := 98) rfl ?_
  refine st_iload (pc' := 100) rfl rfl rfl ?_
  refine st_iaload rfl hs2 hb3 (j := x4.toNatClampNeg) rfl (pc' := 101) rfl ?_
  exact st_icmp_ne (pc' := 104) rfl rfl kt kf
theorem B_Wo_longestBeginning_104 {d : Nat} {h : PH} {Q : PQ} {r0 : Nat} {r1 : Nat} {x2 : Int32} {x3 : Int32} {x4 : Int32} {x5 : Int32} {a0 : Nat} {n1 : Nat} (hs0 : h_sh h r0 = some (0, 10)) (hr1 : h_r h r0 3 = some a0) (hs2 : h_sh h a0 = some (3, n1)) (hb3 : vp_in (x3 + x5) n1) (k : wpx d P_Wo_longestBeginning 114 [.ref r0, .ref r1, .int x2, .int x3, .int x4, .int x5] [] (w_i h a0 ((x3 + x5).toNatClampNeg) ((1 : Int32) &&& 1)) Q) : wpx d P_Wo_longestBeginning 104 [.ref r0, .ref r1, .int x2, .int x3, .int x4, .int x5] [] h Q := by
  refine st_aload (pc' := 105) rfl rfl rfl ?_
  refine st_getfr (x := some a0) (Or.inl rfl) rfl hs0 rfl hr1 (pc' := 108) rfl ?_
  refine st_iload (pc' := 109) rfl rfl rfl ?_
  refine st_iload (pc' := 111) rfl rfl rfl ?_
  refine st_iadd (pc' := 112) rfl rfl ?_
  refine st_ipush (pc' := 113) (v := 1) rfl rfl (by decide) ?_
  refine st_zastore rfl hs2 hb3 (j := (x3 + x5).toNatClampNeg) rfl (pc' := 114) rfl ?_
  exact k
theorem B_Wo_longestBeginning_114 {d : Nat} {h : PH} {Q : PQ} {r0 : Nat} {r1 : Nat} {x2 : Int32} {x3 : Int32} {x4 : Int32} {v5 : Value}  (k : wpx d P_Wo_longestBeginning 35 [.ref r0, .ref r1, .int x2, .int x3, .int (x4 + 1), v5] [] h Q) : wpx d P_Wo_longestBeginning 114 [.ref r0, .ref r1, .int x2, .int x3, .int x4, v5] [] h Q := by
  refine st_iinc (pc' := 117) (v := 1) (ls' := [.ref r0, .ref r1, .int x2, .int x3, .int (x4 + 1), v5]) rfl rfl rfl (by decide) rfl ?_
  exact st_goto rfl k
theorem B_Wo_longestBeginning_120 {d : Nat} {h : PH} {Q : PQ} {r0 : Nat} {r1 : Nat} {x2 : Int32} {x3 : Int32} {x4 : Int32} {v5 : Value}  (k : wpx d P_Wo_longestBeginning 24 [.ref r0, .ref r1, .int x2, .int (x3 + 1), .int x4, v5] [] h Q) : wpx d P_Wo_longestBeginning 120 [.ref r0, .ref r1, .int x2, .int x3, .int x4, v5] [] h Q := by
  refine st_iinc (pc' := 123) (v := 1) (ls' := [.ref r0, .ref r1, .int x2, .int (x3 + 1), .int x4, v5]) rfl rfl rfl (by decide) rfl ?_
  exact st_goto rfl k
theorem B_Wo_longestBeginning_126 {d : Nat} {h : PH} {Q : PQ} {r0 : Nat} {r1 : Nat} {x2 : Int32} {x3 : Int32} {v4 : Value} {v5 : Value}  (k : Q (some (.int x2)) h) : wpx d P_Wo_longestBeginning 126 [.ref r0, .ref r1, .int x2, .int x3, v4, v5] [] h Q := by
  refine st_iload (pc' := 127) rfl rfl rfl ?_
  exact st_ireturn (ty := .int) rfl rfl rfl k
theorem B_Ow_init_0 {d : Nat} {h : PH} {Q : PQ} {r0 : Nat} (hs0 : h_sh (h_new h (2, 600) 600) r0 = some (0, 11)) (k : wpm d 33 [.ref (h_ct (w_r (h_new h (2, 600) 600) r0 0 (some (h_ct h))))] (h_new (w_r (h_new h (2, 600) 600) r0 0 (some (h_ct h))) (0, 3) (fN 3)) (fun r h' => wpx d P_Ow_init 21 [.ref r0] (r.toList ++ [.ref (h_ct (w_r (h_new h (2, 600) 600) r0 0 (some (h_ct h)))), .ref r0]) h' Q)) : wpx d P_Ow_init 0 [.ref r0] [] h Q := by
  refine st_aload (pc' := 1) rfl rfl rfl ?_
  refine st_oinit (pc' := 4) rfl rfl (Nat.le_of_ble_eq_true rfl) ?_
  refine st_aload (pc' := 5) rfl rfl rfl ?_
  refine st_ipush (pc' := 8) (v := 600) rfl rfl (by decide) ?_
  refine st_newB rfl (by decide) (j := 600) (by decide) (pc' := 10) rfl ?_
  refine st_putf (h' := w_r (h_new h (2, 600) 600) r0 0 (some (h_ct h))) (Or.inr (Or.inr rfl)) rfl hs0 rfl rfl rfl (pc' := 13) rfl ?_
  refine st_aload (pc' := 14) rfl rfl rfl ?_
  refine st_new rfl (pc' := 17) rfl ?_
  refine st_dup (pc' := 18) rfl rfl rfl ?_
  exact st_call (pc' := 21) (as := [.ref (h_ct (w_r (h_new h (2, 600) 600) r0 0 (some (h_ct h))))]) (rest := [.ref (h_ct (w_r (h_new h (2, 600) 600) r0 0 (some (h_ct h)))), .ref r0]) rfl rfl (Nat.le_of_ble_eq_true rfl) rfl rfl (Nat.le_of_ble_eq_true rfl) (kd := 2) (o := 3) rfl rfl rfl k
theorem B_Ow_init_21 {d : Nat} {h : PH} {Q : PQ} {r0 : Nat} {q0 : Nat} {q1 : Nat} (hs0 : h_sh h q0 = some (0, 11)) (k : wpm d 82 [.ref (h_ct (w_r h q0 2 (some q1)))] (h_new (w_r h q0 2 (some q1)) (0, 7) (fN 7)) (fun r h' => wpx d P_Ow_init 32 [.ref r0] (r.toList ++ [.ref (h_ct (w_r h q0 2 (some q1))), .ref r0]) h' Q)) : wpx d P_Ow_init 21 [.ref r0] [.ref q1, .ref q0] h Q := by
  refine st_putf (h' := w_r h q0 2 (some q1)) (Or.inr (Or.inr rfl)) rfl hs0 rfl rfl rfl (pc' := 24) rfl ?_
  refine st_aload (pc' := 25) rfl rfl rfl ?_
  refine st_new rfl (pc' := 28) rfl ?_
  refine st_dup (pc' := 29) rfl rfl rfl ?_
  exact st_call (pc' := 32) (as := [.ref (h_ct (w_r h q0 2 (some q1)))]) (rest := [.ref (h_ct (w_r h q0 2 (some q1))), .ref r0]) rfl rfl (Nat.le_of_ble_eq_true rfl) rfl rfl (Nat.le_of_ble_eq_true rfl) (kd := 2) (o := 7) rfl rfl rfl k
theorem B_Ow_init_32 {d : Nat} {h : PH} {Q : PQ} {r0 : Nat} {q0 : Nat} {q1 : Nat} (hs0 : h_sh h q0 = some (0, 11)) (k : wpm d 105 [.ref (h_ct (w_r h q0 3 (some q1)))] (h_new (w_r h q0 3 (some q1)) (0, 10) (fN 10)) (fun r h' => wpx d P_Ow_init 43 [.ref r0] (r.toList ++ [.ref (h_ct (w_r h q0 3 (some q1))), .ref r0]) h' Q)) : wpx d P_Ow_init 32 [.ref r0] [.ref q1, .ref q0] h Q := by
  refine st_putf (h' := w_r h q0 3 (some q1)) (Or.inr (Or.inr rfl)) rfl hs0 rfl rfl rfl (pc' := 35) rfl ?_
  refine st_aload (pc' := 36) rfl rfl rfl ?_
  refine st_new rfl (pc' := 39) rfl ?_
  refine st_dup (pc' := 40) rfl rfl rfl ?_
  exact st_call (pc' := 43) (as := [.ref (h_ct (w_r h q0 3 (some q1)))]) (rest := [.ref (h_ct (w_r h q0 3 (some q1))), .ref r0]) rfl rfl (Nat.le_of_ble_eq_true rfl) rfl rfl (Nat.le_of_ble_eq_true rfl) (kd := 2) (o := 10) rfl rfl rfl k
theorem B_Ow_init_43 {d : Nat} {h : PH} {Q : PQ} {r0 : Nat} {q0 : Nat} {q1 : Nat} (hs0 : h_sh h q0 = some (0, 11)) (k : Q none (w_r h q0 4 (some q1))) : wpx d P_Ow_init 43 [.ref r0] [.ref q1, .ref q0] h Q := by
  refine st_putf (h' := w_r h q0 4 (some q1)) (Or.inr (Or.inr rfl)) rfl hs0 rfl rfl rfl (pc' := 46) rfl ?_
  exact st_return rfl k
theorem B_Ow_feed_0 {d : Nat} {h : PH} {Q : PQ} {r0 : Nat} {x1 : Int32} {x2 : Int32} {x3 : Int32} {x4 : Int32} {x5 : Int32} (hs0 : h_sh h r0 = some (0, 11)) (kt : ((h_i h r0 1) + (20 : Int32)) ≤ (600 : Int32) → wpx d P_Ow_feed 15 [.ref r0, .int x1, .int x2, .int x3, .int x4, .int x5] [] h Q) (kf : ¬ (((h_i h r0 1) + (20 : Int32)) ≤ (600 : Int32)) → wpx d P_Ow_feed 13 [.ref r0, .int x1, .int x2, .int x3, .int x4, .int x5] [] h Q) : wpx d P_Ow_feed 0 [.ref r0, .int x1, .int x2, .int x3, .int x4, .int x5] [] h Q := by
  refine st_aload (pc' := 1) rfl rfl rfl ?_
  refine st_getfi (Or.inl rfl) rfl hs0 rfl (pc' := 4) rfl ?_
  refine st_ipush (pc' := 6) (v := 20) rfl rfl (by decide) ?_
  refine st_iadd (pc' := 7) rfl rfl ?_
  refine st_ipush (pc' := 10) (v := 600) rfl rfl (by decide) ?_
  exact st_icmp_le (pc' := 13) rfl rfl kt kf
theorem B_Ow_feed_13 {d : Nat} {h : PH} {Q : PQ} {r0 : Nat} {x1 : Int32} {x2 : Int32} {x3 : Int32} {x4 : Int32} {x5 : Int32}  (k : Q (some (.int (-1))) h) : wpx d P_Ow_feed 13 [.ref r0, .int x1, .int x2, .int x3, .int x4, .int x5] [] h Q := by
  refine st_ipush (pc' := 14) (v := (-1)) rfl rfl (by decide) ?_
  exact st_ireturn (ty := .int) rfl rfl rfl k
theorem B_Ow_feed_15 {d : Nat} {h : PH} {Q : PQ} {r0 : Nat} {x1 : Int32} {x2 : Int32} {x3 : Int32} {x4 : Int32} {x5 : Int32} (hs0 : h_sh h r0 = some (0, 11)) (k : wpm d 158 [.ref r0, .int x1] h (fun r h' => wpx d P_Ow_feed 20 [.ref r0, .int x1, .int x2, .int x3, .int x4, .int x5] (r.toList ++ []) h' Q)) : wpx d P_Ow_feed 15 [.ref r0, .int x1, .int x2, .int x3, .int x4, .int x5] [] h Q := by
  refine st_aload (pc' := 16) rfl rfl rfl ?_
  refine st_iload (pc' := 17) rfl rfl rfl ?_
  exact st_call (pc' := 20) (as := [.ref r0, .int x1]) (rest := []) rfl rfl (Nat.le_of_ble_eq_true rfl) rfl rfl (Nat.le_of_ble_eq_true rfl) (kd := 1) (o := 11) rfl rfl (beq_iff_eq.mpr hs0) k
theorem B_Ow_feed_20 {d : Nat} {h : PH} {Q : PQ} {r0 : Nat} {x1 : Int32} {x2 : Int32} {x3 : Int32} {x4 : Int32} {x5 : Int32} (hs0 : h_sh h r0 = some (0, 11)) (k : wpm d 158 [.ref r0, .int x2] h (fun r h' => wpx d P_Ow_feed 25 [.ref r0, .int x1, .int x2, .int x3, .int x4, .int x5] (r.toList ++ []) h' Q)) : wpx d P_Ow_feed 20 [.ref r0, .int x1, .int x2, .int x3, .int x4, .int x5] [] h Q := by
  refine st_aload (pc' := 21) rfl rfl rfl ?_
  refine st_iload (pc' := 22) rfl rfl rfl ?_
  exact st_call (pc' := 25) (as := [.ref r0, .int x2]) (rest := []) rfl rfl (Nat.le_of_ble_eq_true rfl) rfl rfl (Nat.le_of_ble_eq_true rfl) (kd := 1) (o := 11) rfl rfl (beq_iff_eq.mpr hs0) k
theorem B_Ow_feed_25 {d : Nat} {h : PH} {Q : PQ} {r0 : Nat} {x1 : Int32} {x2 : Int32} {x3 : Int32} {x4 : Int32} {x5 : Int32} (hs0 : h_sh h r0 = some (0, 11)) (k : wpm d 158 [.ref r0, .int x3] h (fun r h' => wpx d P_Ow_feed 30 [.ref r0, .int x1, .int x2, .int x3, .int x4, .int x5] (r.toList ++ []) h' Q)) : wpx d P_Ow_feed 25 [.ref r0, .int x1, .int x2, .int x3, .int x4, .int x5] [] h Q := by
  refine st_aload (pc' := 26) rfl rfl rfl ?_
  refine st_iload (pc' := 27) rfl rfl rfl ?_
  exact st_call (pc' := 30) (as := [.ref r0, .int x3]) (rest := []) rfl rfl (Nat.le_of_ble_eq_true rfl) rfl rfl (Nat.le_of_ble_eq_true rfl) (kd := 1) (o := 11) rfl rfl (beq_iff_eq.mpr hs0) k
theorem B_Ow_feed_30 {d : Nat} {h : PH} {Q : PQ} {r0 : Nat} {x1 : Int32} {x2 : Int32} {x3 : Int32} {x4 : Int32} {x5 : Int32} (hs0 : h_sh h r0 = some (0, 11)) (k : wpm d 158 [.ref r0, .int x4] h (fun r h' => wpx d P_Ow_feed 36 [.ref r0, .int x1, .int x2, .int x3, .int x4, .int x5] (r.toList ++ []) h' Q)) : wpx d P_Ow_feed 30 [.ref r0, .int x1, .int x2, .int x3, .int x4, .int x5] [] h Q := by
  refine st_aload (pc' := 31) rfl rfl rfl ?_
  refine st_iload (pc' := 33) rfl rfl rfl ?_
  exact st_call (pc' := 36) (as := [.ref r0, .int x4]) (rest := []) rfl rfl (Nat.le_of_ble_eq_true rfl) rfl rfl (Nat.le_of_ble_eq_true rfl) (kd := 1) (o := 11) rfl rfl (beq_iff_eq.mpr hs0) k
theorem B_Ow_feed_36 {d : Nat} {h : PH} {Q : PQ} {r0 : Nat} {x1 : Int32} {x2 : Int32} {x3 : Int32} {x4 : Int32} {x5 : Int32} (hs0 : h_sh h r0 = some (0, 11)) (k : wpm d 158 [.ref r0, .int x5] h (fun r h' => wpx d P_Ow_feed 42 [.ref r0, .int x1, .int x2, .int x3, .int x4, .int x5] (r.toList ++ []) h' Q)) : wpx d P_Ow_feed 36 [.ref r0, .int x1, .int x2, .int x3, .int x4, .int x5] [] h Q := by
  refine st_aload (pc' := 37) rfl rfl rfl ?_
  refine st_iload (pc' := 39) rfl rfl rfl ?_
  exact st_call (pc' := 42) (as := [.ref r0, .int x5]) (rest := []) rfl rfl (Nat.le_of_ble_eq_true rfl) rfl rfl (Nat.le_of_ble_eq_true rfl) (kd := 1) (o := 11) rfl rfl (beq_iff_eq.mpr hs0) k
theorem B_Ow_feed_42 {d : Nat} {h : PH} {Q : PQ} {r0 : Nat} {x1 : Int32} {x2 : Int32} {x3 : Int32} {x4 : Int32} {x5 : Int32} (hs0 : h_sh h r0 = some (0, 11)) (k : Q (some (.int (h_i h r0 1))) h) : wpx d P_Ow_feed 42 [.ref r0, .int x1, .int x2, .int x3, .int x4, .int x5] [] h Q := by
  refine st_aload (pc' := 43) rfl rfl rfl ?_
  refine st_getfi (Or.inl rfl) rfl hs0 rfl (pc' := 46) rfl ?_
  exact st_ireturn (ty := .int) rfl rfl rfl k
theorem B_Ow_end_0 {d : Nat} {h : PH} {Q : PQ} {r0 : Nat} {x1 : Int32}  (kt : x1 < 0 → wpx d P_Ow_end 12 [.ref r0, .int x1] [] h Q) (kf : ¬ (x1 < 0) → wpx d P_Ow_end 4 [.ref r0, .int x1] [] h Q) : wpx d P_Ow_end 0 [.ref r0, .int x1] [] h Q := by
  refine st_iload (pc' := 1) rfl rfl rfl ?_
  exact st_if_lt (pc' := 4) rfl rfl kt kf
theorem B_Ow_end_4 {d : Nat} {h : PH} {Q : PQ} {r0 : Nat} {x1 : Int32} (hs0 : h_sh h r0 = some (0, 11)) (kt : x1 ≤ (h_i h r0 1) → wpx d P_Ow_end 14 [.ref r0, .int x1] [] h Q) (kf : ¬ (x1 ≤ (h_i h r0 1)) → wpx d P_Ow_end 12 [.ref r0, .int x1] [] h Q) : wpx d P_Ow_end 4 [.ref r0, .int x1] [] h Q := by
  refine st_iload (pc' := 5) rfl rfl rfl ?_
  refine st_aload (pc' := 6) rfl rfl rfl ?_
  refine st_getfi (Or.inl rfl) rfl hs0 rfl (pc' := 9) rfl ?_
  exact st_icmp_le (pc' := 12) rfl rfl kt kf
theorem B_Ow_end_12 {d : Nat} {h : PH} {Q : PQ} {r0 : Nat} {x1 : Int32}  (k : Q (some (.int (-1))) h) : wpx d P_Ow_end 12 [.ref r0, .int x1] [] h Q := by
  refine st_ipush (pc' := 13) (v := (-1)) rfl rfl (by decide) ?_
  exact st_ireturn (ty := .int) rfl rfl rfl k
theorem B_Ow_end_14 {d : Nat} {h : PH} {Q : PQ} {r0 : Nat} {x1 : Int32} (hs0 : h_sh h r0 = some (0, 11)) (k : Q (some (.int x1)) (w_i h r0 1 x1)) : wpx d P_Ow_end 14 [.ref r0, .int x1] [] h Q := by
  refine st_aload (pc' := 15) rfl rfl rfl ?_
  refine st_iload (pc' := 16) rfl rfl rfl ?_
  refine st_putf (h' := w_i h r0 1 x1) (Or.inl rfl) rfl hs0 rfl rfl rfl (pc' := 19) rfl ?_
  refine st_iload (pc' := 20) rfl rfl rfl ?_
  exact st_ireturn (ty := .int) rfl rfl rfl k
theorem B_Ow_table_0 {d : Nat} {h : PH} {Q : PQ} {r0 : Nat} {a0 : Nat} {a1 : Nat} (hs0 : h_sh h r0 = some (0, 11)) (hr1 : h_r h r0 3 = some a0) (hr2 : h_r h r0 0 = some a1) (hs3 : h_sh h a0 = some (0, 7)) (k : wpm d 83 [.ref a0, .ref a1, .int (h_i h r0 1)] h (fun r h' => wpx d P_Ow_table 15 [.ref r0] (r.toList ++ []) h' Q)) : wpx d P_Ow_table 0 [.ref r0] [] h Q := by
  refine st_aload (pc' := 1) rfl rfl rfl ?_
  refine st_getfr (x := some a0) (Or.inl rfl) rfl hs0 rfl hr1 (pc' := 4) rfl ?_
  refine st_aload (pc' := 5) rfl rfl rfl ?_
  refine st_getfr (x := some a1) (Or.inl rfl) rfl hs0 rfl hr2 (pc' := 8) rfl ?_
  refine st_aload (pc' := 9) rfl rfl rfl ?_
  refine st_getfi (Or.inl rfl) rfl hs0 rfl (pc' := 12) rfl ?_
  exact st_call (pc' := 15) (as := [.ref a0, .ref a1, .int (h_i h r0 1)]) (rest := []) rfl rfl (Nat.le_of_ble_eq_true rfl) rfl rfl (Nat.le_of_ble_eq_true rfl) (kd := 1) (o := 7) rfl rfl (beq_iff_eq.mpr hs3) k
theorem B_Ow_table_15 {d : Nat} {h : PH} {Q : PQ} {r0 : Nat} {a0 : Nat} (hs0 : h_sh h r0 = some (0, 11)) (hr1 : h_r h r0 3 = some a0) (hs2 : h_sh h a0 = some (0, 7)) (kt : (h_i (w_i h r0 1 0) a0 7) = 0 → wpx d P_Ow_table 32 [.ref r0] [] (w_i h r0 1 0) Q) (kf : ¬ ((h_i (w_i h r0 1 0) a0 7) = 0) → wpx d P_Ow_table 30 [.ref r0] [] (w_i h r0 1 0) Q) : wpx d P_Ow_table 15 [.ref r0] [] h Q := by
  refine st_aload (pc' := 16) rfl rfl rfl ?_
  refine st_ipush (pc' := 17) (v := 0) rfl rfl (by decide) ?_
  refine st_putf (h' := w_i h r0 1 0) (Or.inl rfl) rfl hs0 rfl rfl rfl (pc' := 20) rfl ?_
  refine st_aload (pc' := 21) rfl rfl rfl ?_
  refine st_getfr (x := some a0) (Or.inl rfl) rfl hs0 rfl hr1 (pc' := 24) rfl ?_
  refine st_getfi (Or.inr rfl) rfl hs2 rfl (pc' := 27) rfl ?_
  exact st_if_eq (pc' := 30) rfl rfl kt kf
theorem B_Ow_table_30 {d : Nat} {h : PH} {Q : PQ} {r0 : Nat}  (k : Q (some (.int (-1))) h) : wpx d P_Ow_table 30 [.ref r0] [] h Q := by
  refine st_ipush (pc' := 31) (v := (-1)) rfl rfl (by decide) ?_
  exact st_ireturn (ty := .int) rfl rfl rfl k
theorem B_Ow_table_32 {d : Nat} {h : PH} {Q : PQ} {r0 : Nat} {a0 : Nat} {a1 : Nat} (hs0 : h_sh h r0 = some (0, 11)) (hr1 : h_r h r0 2 = some a0) (hr2 : h_r h r0 3 = some a1) (hs3 : h_sh h a0 = some (0, 3)) (k : wpm d 36 [.ref a0, .ref a1] h (fun r h' => wpx d P_Ow_table 43 [.ref r0] (r.toList ++ []) h' Q)) : wpx d P_Ow_table 32 [.ref r0] [] h Q := by
  refine st_aload (pc' := 33) rfl rfl rfl ?_
  refine st_getfr (x := some a0) (Or.inl rfl) rfl hs0 rfl hr1 (pc' := 36) rfl ?_
  refine st_aload (pc' := 37) rfl rfl rfl ?_
  refine st_getfr (x := some a1) (Or.inl rfl) rfl hs0 rfl hr2 (pc' := 40) rfl ?_
  exact st_call (pc' := 43) (as := [.ref a0, .ref a1]) (rest := []) rfl rfl (Nat.le_of_ble_eq_true rfl) rfl rfl (Nat.le_of_ble_eq_true rfl) (kd := 1) (o := 3) rfl rfl (beq_iff_eq.mpr hs3) k
theorem B_Ow_table_43 {d : Nat} {h : PH} {Q : PQ} {r0 : Nat} {a0 : Nat} (hs0 : h_sh h r0 = some (0, 11)) (hr1 : h_r h r0 4 = some a0) (hs2 : h_sh h a0 = some (0, 10)) (k : wpm d 106 [.ref a0] h (fun r h' => wpx d P_Ow_table 50 [.ref r0] (r.toList ++ []) h' Q)) : wpx d P_Ow_table 43 [.ref r0] [] h Q := by
  refine st_aload (pc' := 44) rfl rfl rfl ?_
  refine st_getfr (x := some a0) (Or.inl rfl) rfl hs0 rfl hr1 (pc' := 47) rfl ?_
  exact st_call (pc' := 50) (as := [.ref a0]) (rest := []) rfl rfl (Nat.le_of_ble_eq_true rfl) rfl rfl (Nat.le_of_ble_eq_true rfl) (kd := 1) (o := 10) rfl rfl (beq_iff_eq.mpr hs2) k
theorem B_Ow_table_50 {d : Nat} {h : PH} {Q : PQ} {r0 : Nat} {a0 : Nat} (hs0 : h_sh h r0 = some (0, 11)) (hr1 : h_r h r0 2 = some a0) (hs2 : h_sh h a0 = some (0, 3)) (k : Q (some (.int (h_i h a0 3))) h) : wpx d P_Ow_table 50 [.ref r0] [] h Q := by
  refine st_aload (pc' := 51) rfl rfl rfl ?_
  refine st_getfr (x := some a0) (Or.inl rfl) rfl hs0 rfl hr1 (pc' := 54) rfl ?_
  refine st_getfi (Or.inr rfl) rfl hs2 rfl (pc' := 57) rfl ?_
  exact st_ireturn (ty := .int) rfl rfl rfl k
theorem B_Ow_fault_0 {d : Nat} {h : PH} {Q : PQ} {r0 : Nat} {x1 : Int32}  (kt : ¬ (x1 = 0) → wpx d P_Ow_fault 12 [.ref r0, .int x1] [] h Q) (kf : x1 = 0 → wpx d P_Ow_fault 4 [.ref r0, .int x1] [] h Q) : wpx d P_Ow_fault 0 [.ref r0, .int x1] [] h Q := by
  refine st_iload (pc' := 1) rfl rfl rfl ?_
  exact st_if_ne (pc' := 4) rfl rfl kt kf
theorem B_Ow_fault_4 {d : Nat} {h : PH} {Q : PQ} {r0 : Nat} {x1 : Int32} {a0 : Nat} (hs0 : h_sh h r0 = some (0, 11)) (hr1 : h_r h r0 3 = some a0) (hs2 : h_sh h a0 = some (0, 7)) (k : Q (some (.int (h_i h a0 7))) h) : wpx d P_Ow_fault 4 [.ref r0, .int x1] [] h Q := by
  refine st_aload (pc' := 5) rfl rfl rfl ?_
  refine st_getfr (x := some a0) (Or.inl rfl) rfl hs0 rfl hr1 (pc' := 8) rfl ?_
  refine st_getfi (Or.inr rfl) rfl hs2 rfl (pc' := 11) rfl ?_
  exact st_ireturn (ty := .int) rfl rfl rfl k
theorem B_Ow_fault_12 {d : Nat} {h : PH} {Q : PQ} {r0 : Nat} {x1 : Int32}  (kt : ¬ (x1 = (1 : Int32)) → wpx d P_Ow_fault 27 [.ref r0, .int x1] [] h Q) (kf : x1 = (1 : Int32) → wpx d P_Ow_fault 17 [.ref r0, .int x1] [] h Q) : wpx d P_Ow_fault 12 [.ref r0, .int x1] [] h Q := by
  refine st_iload (pc' := 13) rfl rfl rfl ?_
  refine st_ipush (pc' := 14) (v := 1) rfl rfl (by decide) ?_
  exact st_icmp_ne (pc' := 17) rfl rfl kt kf
theorem B_Ow_fault_17 {d : Nat} {h : PH} {Q : PQ} {r0 : Nat} {x1 : Int32} {a0 : Nat} (hs0 : h_sh h r0 = some (0, 11)) (hr1 : h_r h r0 3 = some a0) (hs2 : h_sh h a0 = some (0, 7)) (k : wpx d P_Ow_fault 28 [.ref r0, .int x1] [.int (h_i h a0 8)] h Q) : wpx d P_Ow_fault 17 [.ref r0, .int x1] [] h Q := by
  refine st_aload (pc' := 18) rfl rfl rfl ?_
  refine st_getfr (x := some a0) (Or.inl rfl) rfl hs0 rfl hr1 (pc' := 21) rfl ?_
  refine st_getfi (Or.inr rfl) rfl hs2 rfl (pc' := 24) rfl ?_
  exact st_goto rfl k
theorem B_Ow_fault_27 {d : Nat} {h : PH} {Q : PQ} {r0 : Nat} {x1 : Int32}  (k : wpx d P_Ow_fault 28 [.ref r0, .int x1] [.int (-1)] h Q) : wpx d P_Ow_fault 27 [.ref r0, .int x1] [] h Q := by
  refine st_ipush (pc' := 28) (v := (-1)) rfl rfl (by decide) ?_
  exact k
theorem B_Ow_fault_28 {d : Nat} {h : PH} {Q : PQ} {r0 : Nat} {x1 : Int32} {s0 : Int32}  (k : Q (some (.int s0)) h) : wpx d P_Ow_fault 28 [.ref r0, .int x1] [.int s0] h Q := by
  exact st_ireturn (ty := .int) rfl rfl rfl k
theorem B_Ow_group_0 {d : Nat} {h : PH} {Q : PQ} {r0 : Nat} {x1 : Int32} {x2 : Int32} {a0 : Nat} (hs0 : h_sh h r0 = some (0, 11)) (hr1 : h_r h r0 2 = some a0) (hs2 : h_sh h a0 = some (0, 3)) (k : wpm d 34 [.ref a0, .int x1] h (fun r h' => wpx d P_Ow_group 8 [.ref r0, .int x1, .int x2] (r.toList ++ []) h' Q)) : wpx d P_Ow_group 0 [.ref r0, .int x1, .int x2] [] h Q := by
  refine st_aload (pc' := 1) rfl rfl rfl ?_
  refine st_getfr (x := some a0) (Or.inl rfl) rfl hs0 rfl hr1 (pc' := 4) rfl ?_
  refine st_iload (pc' := 5) rfl rfl rfl ?_
  exact st_call (pc' := 8) (as := [.ref a0, .int x1]) (rest := []) rfl rfl (Nat.le_of_ble_eq_true rfl) rfl rfl (Nat.le_of_ble_eq_true rfl) (kd := 1) (o := 3) rfl rfl (beq_iff_eq.mpr hs2) k
theorem B_Ow_group_8 {d : Nat} {h : PH} {Q : PQ} {r0 : Nat} {x1 : Int32} {x2 : Int32} {s0 : Int32}  (kt : ¬ (s0 = 0) → wpx d P_Ow_group 13 [.ref r0, .int x1, .int x2] [] h Q) (kf : s0 = 0 → wpx d P_Ow_group 11 [.ref r0, .int x1, .int x2] [] h Q) : wpx d P_Ow_group 8 [.ref r0, .int x1, .int x2] [.int s0] h Q := by
  exact st_if_ne (pc' := 11) rfl rfl kt kf
theorem B_Ow_group_11 {d : Nat} {h : PH} {Q : PQ} {r0 : Nat} {x1 : Int32} {x2 : Int32}  (k : Q (some (.int (-1))) h) : wpx d P_Ow_group 11 [.ref r0, .int x1, .int x2] [] h Q := by
  refine st_ipush (pc' := 12) (v := (-1)) rfl rfl (by decide) ?_
  exact st_ireturn (ty := .int) rfl rfl rfl k
theorem B_Ow_group_13 {d : Nat} {h : PH} {Q : PQ} {r0 : Nat} {x1 : Int32} {x2 : Int32} {lo : Int} {tg : List Nat} {df : Nat} (hw : swT[0]? = some (lo, tg, df)) (kd : x2.toInt < lo ∨ lo + (tg.length : Int) ≤ x2.toInt → wpx d P_Ow_group df [.ref r0, .int x1, .int x2] [] h Q) (k : ∀ t, ¬ (x2.toInt < lo ∨ lo + (tg.length : Int) ≤ x2.toInt) → tg[(x2.toInt - lo).toNat]? = some t → wpx d P_Ow_group t [.ref r0, .int x1, .int x2] [] h Q) : wpx d P_Ow_group 13 [.ref r0, .int x1, .int x2] [] h Q := by
  refine st_iload (pc' := 14) rfl rfl rfl ?_
  exact st_switch rfl hw kd k
theorem B_Ow_group_40 {d : Nat} {h : PH} {Q : PQ} {r0 : Nat} {x1 : Int32} {x2 : Int32} {a0 : Nat} {a1 : Nat} {n2 : Nat} (hs0 : h_sh h r0 = some (0, 11)) (hr1 : h_r h r0 2 = some a0) (hs2 : h_sh h a0 = some (0, 3)) (hr3 : h_r h a0 2 = some a1) (hs4 : h_sh h a1 = some (1, n2)) (hb5 : vp_in x1 n2) (k : Q (some (.int (h_i h a1 x1.toNatClampNeg))) h) : wpx d P_Ow_group 40 [.ref r0, .int x1, .int x2] [] h Q := by
  refine st_aload (pc' := 41) rfl rfl rfl ?_
  refine st_getfr (x := some a0) (Or.inl rfl) rfl hs0 rfl hr1 (pc' := 44) rfl ?_
  refine st_getfr (x := some a1) (Or.inr rfl) rfl hs2 rfl hr3 (pc' := 47) rfl ?_
  refine st_iload (pc' := 48) rfl rfl rfl ?_
  refine st_iaload rfl hs4 hb5 (j := x1.toNatClampNeg) rfl (pc' := 49) rfl ?_
  exact st_ireturn (ty := .int) rfl rfl rfl k
theorem B_Ow_group_50 {d : Nat} {h : PH} {Q : PQ} {r0 : Nat} {x1 : Int32} {x2 : Int32} {a0 : Nat} {a1 : Nat} {n2 : Nat} (hs0 : h_sh h r0 = some (0, 11)) (hr1 : h_r h r0 2 = some a0) (hs2 : h_sh h a0 = some (0, 3)) (hr3 : h_r h a0 1 = some a1) (hs4 : h_sh h a1 = some (1, n2)) (hb5 : vp_in x1 n2) (k : Q (some (.int (h_i h a1 x1.toNatClampNeg))) h) : wpx d P_Ow_group 50 [.ref r0, .int x1, .int x2] [] h Q := by
  refine st_aload (pc' := 51) rfl rfl rfl ?_
  refine st_getfr (x := some a0) (Or.inl rfl) rfl hs0 rfl hr1 (pc' := 54) rfl ?_
  refine st_getfr (x := some a1) (Or.inr rfl) rfl hs2 rfl hr3 (pc' := 57) rfl ?_
  refine st_iload (pc' := 58) rfl rfl rfl ?_
  refine st_iaload rfl hs4 hb5 (j := x1.toNatClampNeg) rfl (pc' := 59) rfl ?_
  exact st_ireturn (ty := .int) rfl rfl rfl k
theorem B_Ow_group_60 {d : Nat} {h : PH} {Q : PQ} {r0 : Nat} {x1 : Int32} {x2 : Int32} {a0 : Nat} (hs0 : h_sh h r0 = some (0, 11)) (hr1 : h_r h r0 2 = some a0) (hs2 : h_sh h a0 = some (0, 3)) (k : wpm d 35 [.ref a0, .int x1] h (fun r h' => wpx d P_Ow_group 68 [.ref r0, .int x1, .int x2] (r.toList ++ []) h' Q)) : wpx d P_Ow_group 60 [.ref r0, .int x1, .int x2] [] h Q := by
  refine st_aload (pc' := 61) rfl rfl rfl ?_
  refine st_getfr (x := some a0) (Or.inl rfl) rfl hs0 rfl hr1 (pc' := 64) rfl ?_
  refine st_iload (pc' := 65) rfl rfl rfl ?_
  exact st_call (pc' := 68) (as := [.ref a0, .int x1]) (rest := []) rfl rfl (Nat.le_of_ble_eq_true rfl) rfl rfl (Nat.le_of_ble_eq_true rfl) (kd := 1) (o := 3) rfl rfl (beq_iff_eq.mpr hs2) k
theorem B_Ow_group_68 {d : Nat} {h : PH} {Q : PQ} {r0 : Nat} {x1 : Int32} {x2 : Int32} {s0 : Int32}  (kt : s0 = 0 → wpx d P_Ow_group 75 [.ref r0, .int x1, .int x2] [] h Q) (kf : ¬ (s0 = 0) → wpx d P_Ow_group 71 [.ref r0, .int x1, .int x2] [] h Q) : wpx d P_Ow_group 68 [.ref r0, .int x1, .int x2] [.int s0] h Q := by
  exact st_if_eq (pc' := 71) rfl rfl kt kf
theorem B_Ow_group_71 {d : Nat} {h : PH} {Q : PQ} {r0 : Nat} {x1 : Int32} {x2 : Int32}  (k : wpx d P_Ow_group 76 [.ref r0, .int x1, .int x2] [.int 0] h Q) : wpx d P_Ow_group 71 [.ref r0, .int x1, .int x2] [] h Q := by
  refine st_ipush (pc' := 72) (v := 0) rfl rfl (by decide) ?_
  exact st_goto rfl k
theorem B_Ow_group_75 {d : Nat} {h : PH} {Q : PQ} {r0 : Nat} {x1 : Int32} {x2 : Int32}  (k : wpx d P_Ow_group 76 [.ref r0, .int x1, .int x2] [.int 1] h Q) : wpx d P_Ow_group 75 [.ref r0, .int x1, .int x2] [] h Q := by
  refine st_ipush (pc' := 76) (v := 1) rfl rfl (by decide) ?_
  exact k
theorem B_Ow_group_76 {d : Nat} {h : PH} {Q : PQ} {r0 : Nat} {x1 : Int32} {x2 : Int32} {s0 : Int32}  (k : Q (some (.int s0)) h) : wpx d P_Ow_group 76 [.ref r0, .int x1, .int x2] [.int s0] h Q := by
  exact st_ireturn (ty := .int) rfl rfl rfl k
theorem B_Ow_group_77 {d : Nat} {h : PH} {Q : PQ} {r0 : Nat} {x1 : Int32} {x2 : Int32}  (kt : (10 : Int32) ≤ x2 → wpx d P_Ow_group 87 [.ref r0, .int x1, .int x2] [] h Q) (kf : ¬ ((10 : Int32) ≤ x2) → wpx d P_Ow_group 83 [.ref r0, .int x1, .int x2] [] h Q) : wpx d P_Ow_group 77 [.ref r0, .int x1, .int x2] [] h Q := by
  refine st_iload (pc' := 78) rfl rfl rfl ?_
  refine st_ipush (pc' := 80) (v := 10) rfl rfl (by decide) ?_
  exact st_icmp_ge (pc' := 83) rfl rfl kt kf
theorem B_Ow_group_83 {d : Nat} {h : PH} {Q : PQ} {r0 : Nat} {x1 : Int32} {x2 : Int32}  (k : wpx d P_Ow_group 112 [.ref r0, .int x1, .int x2] [.int (-1)] h Q) : wpx d P_Ow_group 83 [.ref r0, .int x1, .int x2] [] h Q := by
  refine st_ipush (pc' := 84) (v := (-1)) rfl rfl (by decide) ?_
  exact st_goto rfl k
theorem B_Ow_group_87 {d : Nat} {h : PH} {Q : PQ} {r0 : Nat} {x1 : Int32} {x2 : Int32} {a0 : Nat} {a1 : Nat} {n2 : Nat} {a3 : Nat} {n4 : Nat} (hs0 : h_sh h r0 = some (0, 11)) (hr1 : h_r h r0 2 = some a0) (hs2 : h_sh h a0 = some (0, 3)) (hr3 : h_r h a0 0 = some a1) (hs4 : h_sh h a1 = some (4, n2)) (hb5 : vp_in x1 n2) (hr6 : h_r h a0 1 = some a3) (hs7 : h_sh h a3 = some (1, n4)) (hb8 : vp_in x1 n4) (k : wpm d 166 [.long (h_l h a1 x1.toNatClampNeg), .int (h_i h a3 x1.toNatClampNeg), .int (x2 - (10 : Int32))] h (fun r h' => wpx d P_Ow_group 112 [.ref r0, .int x1, .int x2] (r.toList ++ []) h' Q)) : wpx d P_Ow_group 87 [.ref r0, .int x1, .int x2] [] h Q := by
  refine st_aload (pc' := 88) rfl rfl rfl ?_
  refine st_getfr (x := some a0) (Or.inl rfl) rfl hs0 rfl hr1 (pc' := 91) rfl ?_
  refine st_getfr (x := some a1) (Or.inr rfl) rfl hs2 rfl hr3 (pc' := 94) rfl ?_
  refine st_iload (pc' := 95) rfl rfl rfl ?_
  refine st_laload rfl hs4 hb5 (j := x1.toNatClampNeg) rfl (pc' := 96) rfl ?_
  refine st_aload (pc' := 97) rfl rfl rfl ?_
  refine st_getfr (x := some a0) (Or.inl rfl) rfl hs0 rfl hr1 (pc' := 100) rfl ?_
  refine st_getfr (x := some a3) (Or.inr rfl) rfl hs2 rfl hr6 (pc' := 103) rfl ?_
  refine st_iload (pc' := 104) rfl rfl rfl ?_
  refine st_iaload rfl hs7 hb8 (j := x1.toNatClampNeg) rfl (pc' := 105) rfl ?_
  refine st_iload (pc' := 106) rfl rfl rfl ?_
  refine st_ipush (pc' := 108) (v := 10) rfl rfl (by decide) ?_
  refine st_isub (pc' := 109) rfl rfl ?_
  exact st_call (pc' := 112) (as := [.long (h_l h a1 x1.toNatClampNeg), .int (h_i h a3 x1.toNatClampNeg), .int (x2 - (10 : Int32))]) (rest := []) rfl rfl (Nat.le_of_ble_eq_true rfl) rfl rfl (Nat.le_of_ble_eq_true rfl) (kd := 0) (o := 11) rfl rfl rfl k
theorem B_Ow_group_112 {d : Nat} {h : PH} {Q : PQ} {r0 : Nat} {x1 : Int32} {x2 : Int32} {s0 : Int32}  (k : Q (some (.int s0)) h) : wpx d P_Ow_group 112 [.ref r0, .int x1, .int x2] [.int s0] h Q := by
  exact st_ireturn (ty := .int) rfl rfl rfl k
theorem B_Ow_about_0 {d : Nat} {h : PH} {Q : PQ} {r0 : Nat} {x1 : Int32} {lo : Int} {tg : List Nat} {df : Nat} (hw : swT[1]? = some (lo, tg, df)) (kd : x1.toInt < lo ∨ lo + (tg.length : Int) ≤ x1.toInt → wpx d P_Ow_about df [.ref r0, .int x1] [] h Q) (k : ∀ t, ¬ (x1.toInt < lo ∨ lo + (tg.length : Int) ≤ x1.toInt) → tg[(x1.toInt - lo).toNat]? = some t → wpx d P_Ow_about t [.ref r0, .int x1] [] h Q) : wpx d P_Ow_about 0 [.ref r0, .int x1] [] h Q := by
  refine st_iload (pc' := 1) rfl rfl rfl ?_
  exact st_switch rfl hw kd k
theorem B_Ow_about_52 {d : Nat} {h : PH} {Q : PQ} {r0 : Nat} {x1 : Int32} {a0 : Nat} (hs0 : h_sh h r0 = some (0, 11)) (hr1 : h_r h r0 2 = some a0) (hs2 : h_sh h a0 = some (0, 3)) (k : Q (some (.int (h_i h a0 4))) h) : wpx d P_Ow_about 52 [.ref r0, .int x1] [] h Q := by
  refine st_aload (pc' := 53) rfl rfl rfl ?_
  refine st_getfr (x := some a0) (Or.inl rfl) rfl hs0 rfl hr1 (pc' := 56) rfl ?_
  refine st_getfi (Or.inr rfl) rfl hs2 rfl (pc' := 59) rfl ?_
  exact st_ireturn (ty := .int) rfl rfl rfl k
theorem B_Ow_about_60 {d : Nat} {h : PH} {Q : PQ} {r0 : Nat} {x1 : Int32} {a0 : Nat} (hs0 : h_sh h r0 = some (0, 11)) (hr1 : h_r h r0 2 = some a0) (hs2 : h_sh h a0 = some (0, 3)) (k : Q (some (.int (h_i h a0 3))) h) : wpx d P_Ow_about 60 [.ref r0, .int x1] [] h Q := by
  refine st_aload (pc' := 61) rfl rfl rfl ?_
  refine st_getfr (x := some a0) (Or.inl rfl) rfl hs0 rfl hr1 (pc' := 64) rfl ?_
  refine st_getfi (Or.inr rfl) rfl hs2 rfl (pc' := 67) rfl ?_
  exact st_ireturn (ty := .int) rfl rfl rfl k
theorem B_Ow_about_68 {d : Nat} {h : PH} {Q : PQ} {r0 : Nat} {x1 : Int32} {a0 : Nat} (hs0 : h_sh h r0 = some (0, 11)) (hr1 : h_r h r0 2 = some a0) (hs2 : h_sh h a0 = some (0, 3)) (k : Q (some (.int (h_i h a0 5))) h) : wpx d P_Ow_about 68 [.ref r0, .int x1] [] h Q := by
  refine st_aload (pc' := 69) rfl rfl rfl ?_
  refine st_getfr (x := some a0) (Or.inl rfl) rfl hs0 rfl hr1 (pc' := 72) rfl ?_
  refine st_getfi (Or.inr rfl) rfl hs2 rfl (pc' := 75) rfl ?_
  exact st_ireturn (ty := .int) rfl rfl rfl k
theorem B_Ow_about_76 {d : Nat} {h : PH} {Q : PQ} {r0 : Nat} {x1 : Int32} {a0 : Nat} (hs0 : h_sh h r0 = some (0, 11)) (hr1 : h_r h r0 2 = some a0) (hs2 : h_sh h a0 = some (0, 3)) (k : wpm d 42 [.ref a0] h (fun r h' => wpx d P_Ow_about 83 [.ref r0, .int x1] (r.toList ++ []) h' Q)) : wpx d P_Ow_about 76 [.ref r0, .int x1] [] h Q := by
  refine st_aload (pc' := 77) rfl rfl rfl ?_
  refine st_getfr (x := some a0) (Or.inl rfl) rfl hs0 rfl hr1 (pc' := 80) rfl ?_
  exact st_call (pc' := 83) (as := [.ref a0]) (rest := []) rfl rfl (Nat.le_of_ble_eq_true rfl) rfl rfl (Nat.le_of_ble_eq_true rfl) (kd := 1) (o := 3) rfl rfl (beq_iff_eq.mpr hs2) k
theorem B_Ow_about_83 {d : Nat} {h : PH} {Q : PQ} {r0 : Nat} {x1 : Int32} {s0 : Int32}  (k : Q (some (.int s0)) h) : wpx d P_Ow_about 83 [.ref r0, .int x1] [.int s0] h Q := by
  exact st_ireturn (ty := .int) rfl rfl rfl k
theorem B_Ow_about_84 {d : Nat} {h : PH} {Q : PQ} {r0 : Nat} {x1 : Int32} {a0 : Nat} (hs0 : h_sh h r0 = some (0, 11)) (hr1 : h_r h r0 4 = some a0) (hs2 : h_sh h a0 = some (0, 10)) (k : Q (some (.int (h_i h a0 1))) h) : wpx d P_Ow_about 84 [.ref r0, .int x1] [] h Q := by
  refine st_aload (pc' := 85) rfl rfl rfl ?_
  refine st_getfr (x := some a0) (Or.inl rfl) rfl hs0 rfl hr1 (pc' := 88) rfl ?_
  refine st_getfi (Or.inr rfl) rfl hs2 rfl (pc' := 91) rfl ?_
  exact st_ireturn (ty := .int) rfl rfl rfl k
theorem B_Ow_about_92 {d : Nat} {h : PH} {Q : PQ} {r0 : Nat} {x1 : Int32} {a0 : Nat} (hs0 : h_sh h r0 = some (0, 11)) (hr1 : h_r h r0 2 = some a0) (hs2 : h_sh h a0 = some (0, 3)) (k : Q (some (.int (h_i h a0 9))) h) : wpx d P_Ow_about 92 [.ref r0, .int x1] [] h Q := by
  refine st_aload (pc' := 93) rfl rfl rfl ?_
  refine st_getfr (x := some a0) (Or.inl rfl) rfl hs0 rfl hr1 (pc' := 96) rfl ?_
  refine st_getfi (Or.inr rfl) rfl hs2 rfl (pc' := 99) rfl ?_
  exact st_ireturn (ty := .int) rfl rfl rfl k
theorem B_Ow_about_100 {d : Nat} {h : PH} {Q : PQ} {r0 : Nat} {x1 : Int32} (hs0 : h_sh h r0 = some (0, 11)) (k : Q (some (.int (h_i h r0 1))) h) : wpx d P_Ow_about 100 [.ref r0, .int x1] [] h Q := by
  refine st_aload (pc' := 101) rfl rfl rfl ?_
  refine st_getfi (Or.inl rfl) rfl hs0 rfl (pc' := 104) rfl ?_
  exact st_ireturn (ty := .int) rfl rfl rfl k
theorem B_Ow_about_105 {d : Nat} {h : PH} {Q : PQ} {r0 : Nat} {x1 : Int32} {a0 : Nat} (hs0 : h_sh h r0 = some (0, 11)) (hr1 : h_r h r0 2 = some a0) (hs2 : h_sh h a0 = some (0, 3)) (k : wpm d 44 [.ref a0] h (fun r h' => wpx d P_Ow_about 112 [.ref r0, .int x1] (r.toList ++ []) h' Q)) : wpx d P_Ow_about 105 [.ref r0, .int x1] [] h Q := by
  refine st_aload (pc' := 106) rfl rfl rfl ?_
  refine st_getfr (x := some a0) (Or.inl rfl) rfl hs0 rfl hr1 (pc' := 109) rfl ?_
  exact st_call (pc' := 112) (as := [.ref a0]) (rest := []) rfl rfl (Nat.le_of_ble_eq_true rfl) rfl rfl (Nat.le_of_ble_eq_true rfl) (kd := 1) (o := 3) rfl rfl (beq_iff_eq.mpr hs2) k
theorem B_Ow_about_112 {d : Nat} {h : PH} {Q : PQ} {r0 : Nat} {x1 : Int32} {s0 : Int32}  (kt : s0 = 0 → wpx d P_Ow_about 119 [.ref r0, .int x1] [] h Q) (kf : ¬ (s0 = 0) → wpx d P_Ow_about 115 [.ref r0, .int x1] [] h Q) : wpx d P_Ow_about 112 [.ref r0, .int x1] [.int s0] h Q := by
  exact st_if_eq (pc' := 115) rfl rfl kt kf
theorem B_Ow_about_115 {d : Nat} {h : PH} {Q : PQ} {r0 : Nat} {x1 : Int32}  (k : wpx d P_Ow_about 120 [.ref r0, .int x1] [.int 1] h Q) : wpx d P_Ow_about 115 [.ref r0, .int x1] [] h Q := by
  refine st_ipush (pc' := 116) (v := 1) rfl rfl (by decide) ?_
  exact st_goto rfl k
theorem B_Ow_about_119 {d : Nat} {h : PH} {Q : PQ} {r0 : Nat} {x1 : Int32}  (k : wpx d P_Ow_about 120 [.ref r0, .int x1] [.int 0] h Q) : wpx d P_Ow_about 119 [.ref r0, .int x1] [] h Q := by
  refine st_ipush (pc' := 120) (v := 0) rfl rfl (by decide) ?_
  exact k
theorem B_Ow_about_120 {d : Nat} {h : PH} {Q : PQ} {r0 : Nat} {x1 : Int32} {s0 : Int32}  (k : Q (some (.int s0)) h) : wpx d P_Ow_about 120 [.ref r0, .int x1] [.int s0] h Q := by
  exact st_ireturn (ty := .int) rfl rfl rfl k
theorem B_Ow_about_121 {d : Nat} {h : PH} {Q : PQ} {r0 : Nat} {x1 : Int32} {a0 : Nat} (hs0 : h_sh h r0 = some (0, 11)) (hr1 : h_r h r0 2 = some a0) (hs2 : h_sh h a0 = some (0, 3)) (k : wpm d 45 [.ref a0] h (fun r h' => wpx d P_Ow_about 128 [.ref r0, .int x1] (r.toList ++ []) h' Q)) : wpx d P_Ow_about 121 [.ref r0, .int x1] [] h Q := by
  refine st_aload (pc' := 122) rfl rfl rfl ?_
  refine st_getfr (x := some a0) (Or.inl rfl) rfl hs0 rfl hr1 (pc' := 125) rfl ?_
  exact st_call (pc' := 128) (as := [.ref a0]) (rest := []) rfl rfl (Nat.le_of_ble_eq_true rfl) rfl rfl (Nat.le_of_ble_eq_true rfl) (kd := 1) (o := 3) rfl rfl (beq_iff_eq.mpr hs2) k
theorem B_Ow_about_128 {d : Nat} {h : PH} {Q : PQ} {r0 : Nat} {x1 : Int32} {s0 : Int32}  (kt : s0 = 0 → wpx d P_Ow_about 135 [.ref r0, .int x1] [] h Q) (kf : ¬ (s0 = 0) → wpx d P_Ow_about 131 [.ref r0, .int x1] [] h Q) : wpx d P_Ow_about 128 [.ref r0, .int x1] [.int s0] h Q := by
  exact st_if_eq (pc' := 131) rfl rfl kt kf
theorem B_Ow_about_131 {d : Nat} {h : PH} {Q : PQ} {r0 : Nat} {x1 : Int32}  (k : wpx d P_Ow_about 136 [.ref r0, .int x1] [.int 1] h Q) : wpx d P_Ow_about 131 [.ref r0, .int x1] [] h Q := by
  refine st_ipush (pc' := 132) (v := 1) rfl rfl (by decide) ?_
  exact st_goto rfl k
theorem B_Ow_about_135 {d : Nat} {h : PH} {Q : PQ} {r0 : Nat} {x1 : Int32}  (k : wpx d P_Ow_about 136 [.ref r0, .int x1] [.int 0] h Q) : wpx d P_Ow_about 135 [.ref r0, .int x1] [] h Q := by
  refine st_ipush (pc' := 136) (v := 0) rfl rfl (by decide) ?_
  exact k
theorem B_Ow_about_136 {d : Nat} {h : PH} {Q : PQ} {r0 : Nat} {x1 : Int32} {s0 : Int32}  (k : Q (some (.int s0)) h) : wpx d P_Ow_about 136 [.ref r0, .int x1] [.int s0] h Q := by
  exact st_ireturn (ty := .int) rfl rfl rfl k
theorem B_Ow_about_137 {d : Nat} {h : PH} {Q : PQ} {r0 : Nat} {x1 : Int32}  (k : Q (some (.int (-1))) h) : wpx d P_Ow_about 137 [.ref r0, .int x1] [] h Q := by
  refine st_ipush (pc' := 138) (v := (-1)) rfl rfl (by decide) ?_
  exact st_ireturn (ty := .int) rfl rfl rfl k
theorem B_Ow_meets_0 {d : Nat} {h : PH} {Q : PQ} {r0 : Nat} {x1 : Int32} {x2 : Int32} {a0 : Nat} (hs0 : h_sh h r0 = some (0, 11)) (hr1 : h_r h r0 2 = some a0) (hs2 : h_sh h a0 = some (0, 3)) (k : wpm d 34 [.ref a0, .int x1] h (fun r h' => wpx d P_Ow_meets 8 [.ref r0, .int x1, .int x2] (r.toList ++ []) h' Q)) : wpx d P_Ow_meets 0 [.ref r0, .int x1, .int x2] [] h Q := by
  refine st_aload (pc' := 1) rfl rfl rfl ?_
  refine st_getfr (x := some a0) (Or.inl rfl) rfl hs0 rfl hr1 (pc' := 4) rfl ?_
  refine st_iload (pc' := 5) rfl rfl rfl ?_
  exact st_call (pc' := 8) (as := [.ref a0, .int x1]) (rest := []) rfl rfl (Nat.le_of_ble_eq_true rfl) rfl rfl (Nat.le_of_ble_eq_true rfl) (kd := 1) (o := 3) rfl rfl (beq_iff_eq.mpr hs2) k
theorem B_Ow_meets_8 {d : Nat} {h : PH} {Q : PQ} {r0 : Nat} {x1 : Int32} {x2 : Int32} {s0 : Int32}  (kt : s0 = 0 → wpx d P_Ow_meets 34 [.ref r0, .int x1, .int x2] [] h Q) (kf : ¬ (s0 = 0) → wpx d P_Ow_meets 11 [.ref r0, .int x1, .int x2] [] h Q) : wpx d P_Ow_meets 8 [.ref r0, .int x1, .int x2] [.int s0] h Q := by
  exact st_if_eq (pc' := 11) rfl rfl kt kf
theorem B_Ow_meets_11 {d : Nat} {h : PH} {Q : PQ} {r0 : Nat} {x1 : Int32} {x2 : Int32} {a0 : Nat} (hs0 : h_sh h r0 = some (0, 11)) (hr1 : h_r h r0 2 = some a0) (hs2 : h_sh h a0 = some (0, 3)) (k : wpm d 34 [.ref a0, .int x2] h (fun r h' => wpx d P_Ow_meets 19 [.ref r0, .int x1, .int x2] (r.toList ++ []) h' Q)) : wpx d P_Ow_meets 11 [.ref r0, .int x1, .int x2] [] h Q := by
  refine st_aload (pc' := 12) rfl rfl rfl ?_
  refine st_getfr (x := some a0) (Or.inl rfl) rfl hs0 rfl hr1 (pc' := 15) rfl ?_
  refine st_iload (pc' := 16) rfl rfl rfl ?_
  exact st_call (pc' := 19) (as := [.ref a0, .int x2]) (rest := []) rfl rfl (Nat.le_of_ble_eq_true rfl) rfl rfl (Nat.le_of_ble_eq_true rfl) (kd := 1) (o := 3) rfl rfl (beq_iff_eq.mpr hs2) k
theorem B_Ow_meets_19 {d : Nat} {h : PH} {Q : PQ} {r0 : Nat} {x1 : Int32} {x2 : Int32} {s0 : Int32}  (kt : s0 = 0 → wpx d P_Ow_meets 34 [.ref r0, .int x1, .int x2] [] h Q) (kf : ¬ (s0 = 0) → wpx d P_Ow_meets 22 [.ref r0, .int x1, .int x2] [] h Q) : wpx d P_Ow_meets 19 [.ref r0, .int x1, .int x2] [.int s0] h Q := by
  exact st_if_eq (pc' := 22) rfl rfl kt kf
theorem B_Ow_meets_22 {d : Nat} {h : PH} {Q : PQ} {r0 : Nat} {x1 : Int32} {x2 : Int32} {a0 : Nat} (hs0 : h_sh h r0 = some (0, 11)) (hr1 : h_r h r0 2 = some a0) (hs2 : h_sh h a0 = some (0, 3)) (k : wpm d 46 [.ref a0, .int x1, .int x2] h (fun r h' => wpx d P_Ow_meets 31 [.ref r0, .int x1, .int x2] (r.toList ++ []) h' Q)) : wpx d P_Ow_meets 22 [.ref r0, .int x1, .int x2] [] h Q := by
  refine st_aload (pc' := 23) rfl rfl rfl ?_
  refine st_getfr (x := some a0) (Or.inl rfl) rfl hs0 rfl hr1 (pc' := 26) rfl ?_
  refine st_iload (pc' := 27) rfl rfl rfl ?_
  refine st_iload (pc' := 28) rfl rfl rfl ?_
  exact st_call (pc' := 31) (as := [.ref a0, .int x1, .int x2]) (rest := []) rfl rfl (Nat.le_of_ble_eq_true rfl) rfl rfl (Nat.le_of_ble_eq_true rfl) (kd := 1) (o := 3) rfl rfl (beq_iff_eq.mpr hs2) k
theorem B_Ow_meets_31 {d : Nat} {h : PH} {Q : PQ} {r0 : Nat} {x1 : Int32} {x2 : Int32} {s0 : Int32}  (k : wpx d P_Ow_meets 35 [.ref r0, .int x1, .int x2] [.int s0] h Q) : wpx d P_Ow_meets 31 [.ref r0, .int x1, .int x2] [.int s0] h Q := by
  exact st_goto rfl k
theorem B_Ow_meets_34 {d : Nat} {h : PH} {Q : PQ} {r0 : Nat} {x1 : Int32} {x2 : Int32}  (k : wpx d P_Ow_meets 35 [.ref r0, .int x1, .int x2] [.int (-1)] h Q) : wpx d P_Ow_meets 34 [.ref r0, .int x1, .int x2] [] h Q := by
  refine st_ipush (pc' := 35) (v := (-1)) rfl rfl (by decide) ?_
  exact k
theorem B_Ow_meets_35 {d : Nat} {h : PH} {Q : PQ} {r0 : Nat} {x1 : Int32} {x2 : Int32} {s0 : Int32}  (k : Q (some (.int s0)) h) : wpx d P_Ow_meets 35 [.ref r0, .int x1, .int x2] [.int s0] h Q := by
  exact st_ireturn (ty := .int) rfl rfl rfl k
theorem B_Ow_parts_0 {d : Nat} {h : PH} {Q : PQ} {r0 : Nat} (hs0 : h_sh h r0 = some (0, 11)) (k : wpm d 153 [.ref r0] h (fun r h' => wpx d P_Ow_parts 4 [.ref r0] (r.toList ++ []) h' Q)) : wpx d P_Ow_parts 0 [.ref r0] [] h Q := by
  refine st_aload (pc' := 1) rfl rfl rfl ?_
  exact st_call (pc' := 4) (as := [.ref r0]) (rest := []) rfl rfl (Nat.le_of_ble_eq_true rfl) rfl rfl (Nat.le_of_ble_eq_true rfl) (kd := 1) (o := 11) rfl rfl (beq_iff_eq.mpr hs0) k
theorem B_Ow_parts_4 {d : Nat} {h : PH} {Q : PQ} {r0 : Nat} {q0 : Nat} (hs0 : h_sh h q0 = some (0, 6)) (kt : ¬ ((h_i h q0 6) = ((-1) : Int32)) → wpx d P_Ow_parts 15 [.ref r0] [] h Q) (kf : (h_i h q0 6) = ((-1) : Int32) → wpx d P_Ow_parts 11 [.ref r0] [] h Q) : wpx d P_Ow_parts 4 [.ref r0] [.ref q0] h Q := by
  refine st_getfi (Or.inr rfl) rfl hs0 rfl (pc' := 7) rfl ?_
  refine st_ipush (pc' := 8) (v := (-1)) rfl rfl (by decide) ?_
  exact st_icmp_ne (pc' := 11) rfl rfl kt kf
theorem B_Ow_parts_11 {d : Nat} {h : PH} {Q : PQ} {r0 : Nat}  (k : wpx d P_Ow_parts 16 [.ref r0] [.int 1] h Q) : wpx d P_Ow_parts 11 [.ref r0] [] h Q := by
  refine st_ipush (pc' := 12) (v := 1) rfl rfl (by decide) ?_
  exact st_goto rfl k
theorem B_Ow_parts_15 {d : Nat} {h : PH} {Q : PQ} {r0 : Nat}  (k : wpx d P_Ow_parts 16 [.ref r0] [.int 0] h Q) : wpx d P_Ow_parts 15 [.ref r0] [] h Q := by
  refine st_ipush (pc' := 16) (v := 0) rfl rfl (by decide) ?_
  exact k
theorem B_Ow_parts_16 {d : Nat} {h : PH} {Q : PQ} {r0 : Nat} {s0 : Int32}  (k : Q (some (.int s0)) h) : wpx d P_Ow_parts 16 [.ref r0] [.int s0] h Q := by
  exact st_ireturn (ty := .int) rfl rfl rfl k
theorem B_Ow_tails_0 {d : Nat} {h : PH} {Q : PQ} {r0 : Nat} {x1 : Int32} {v2 : Value} (hs0 : h_sh h r0 = some (0, 11)) (k : wpm d 153 [.ref r0] h (fun r h' => wpx d P_Ow_tails 4 [.ref r0, .int x1, v2] (r.toList ++ []) h' Q)) : wpx d P_Ow_tails 0 [.ref r0, .int x1, v2] [] h Q := by
  refine st_aload (pc' := 1) rfl rfl rfl ?_
  exact st_call (pc' := 4) (as := [.ref r0]) (rest := []) rfl rfl (Nat.le_of_ble_eq_true rfl) rfl rfl (Nat.le_of_ble_eq_true rfl) (kd := 1) (o := 11) rfl rfl (beq_iff_eq.mpr hs0) k
theorem B_Ow_tails_4 {d : Nat} {h : PH} {Q : PQ} {r0 : Nat} {x1 : Int32} {v2 : Value} {q0 : Nat}  (kt : ¬ (x1 = ((-1) : Int32)) → wpx d P_Ow_tails 17 [.ref r0, .int x1, .ref q0] [] h Q) (kf : x1 = ((-1) : Int32) → wpx d P_Ow_tails 10 [.ref r0, .int x1, .ref q0] [] h Q) : wpx d P_Ow_tails 4 [.ref r0, .int x1, v2] [.ref q0] h Q := by
  refine st_astore (pc' := 5) (ls' := [.ref r0, .int x1, .ref q0]) rfl rfl (Nat.le_of_ble_eq_true rfl) rfl ?_
  refine st_iload (pc' := 6) rfl rfl rfl ?_
  refine st_ipush (pc' := 7) (v := (-1)) rfl rfl (by decide) ?_
  exact st_icmp_ne (pc' := 10) rfl rfl kt kf
theorem B_Ow_tails_10 {d : Nat} {h : PH} {Q : PQ} {r0 : Nat} {x1 : Int32} {r2 : Nat} (hs0 : h_sh h r2 = some (0, 6)) (k : wpx d P_Ow_tails 22 [.ref r0, .int x1, .ref r2] [.int (h_i h r2 5)] h Q) : wpx d P_Ow_tails 10 [.ref r0, .int x1, .ref r2] [] h Q := by
  refine st_aload (pc' := 11) rfl rfl rfl ?_
  refine st_getfi (Or.inr rfl) rfl hs0 rfl (pc' := 14) rfl ?_
  exact st_goto rfl k
theorem B_Ow_tails_17 {d : Nat} {h : PH} {Q : PQ} {r0 : Nat} {x1 : Int32} {r2 : Nat} (hs0 : h_sh h r2 = some (0, 6)) (k : wpm d 76 [.ref r2, .int x1] h (fun r h' => wpx d P_Ow_tails 22 [.ref r0, .int x1, .ref r2] (r.toList ++ []) h' Q)) : wpx d P_Ow_tails 17 [.ref r0, .int x1, .ref r2] [] h Q := by
  refine st_aload (pc' := 18) rfl rfl rfl ?_
  refine st_iload (pc' := 19) rfl rfl rfl ?_
  exact st_call (pc' := 22) (as := [.ref r2, .int x1]) (rest := []) rfl rfl (Nat.le_of_ble_eq_true rfl) rfl rfl (Nat.le_of_ble_eq_true rfl) (kd := 1) (o := 6) rfl rfl (beq_iff_eq.mpr hs0) k
theorem B_Ow_tails_22 {d : Nat} {h : PH} {Q : PQ} {r0 : Nat} {x1 : Int32} {r2 : Nat} {s0 : Int32}  (k : Q (some (.int s0)) h) : wpx d P_Ow_tails 22 [.ref r0, .int x1, .ref r2] [.int s0] h Q := by
  exact st_ireturn (ty := .int) rfl rfl rfl k
theorem B_Ow_tail_0 {d : Nat} {h : PH} {Q : PQ} {r0 : Nat} {x1 : Int32} {x2 : Int32} {x3 : Int32} {v4 : Value} {v5 : Value} (hs0 : h_sh h r0 = some (0, 11)) (k : wpm d 153 [.ref r0] h (fun r h' => wpx d P_Ow_tail 4 [.ref r0, .int x1, .int x2, .int x3, v4, v5] (r.toList ++ []) h' Q)) : wpx d P_Ow_tail 0 [.ref r0, .int x1, .int x2, .int x3, v4, v5] [] h Q := by
  refine st_aload (pc' := 1) rfl rfl rfl ?_
  exact st_call (pc' := 4) (as := [.ref r0]) (rest := []) rfl rfl (Nat.le_of_ble_eq_true rfl) rfl rfl (Nat.le_of_ble_eq_true rfl) (kd := 1) (o := 11) rfl rfl (beq_iff_eq.mpr hs0) k
theorem B_Ow_tail_4 {d : Nat} {h : PH} {Q : PQ} {r0 : Nat} {x1 : Int32} {x2 : Int32} {x3 : Int32} {v4 : Value} {v5 : Value} {q0 : Nat} (hs0 : h_sh h q0 = some (0, 6)) (k : wpm d 77 [.ref q0, .int x1, .int x2] h (fun r h' => wpx d P_Ow_tail 13 [.ref r0, .int x1, .int x2, .int x3, .ref q0, v5] (r.toList ++ []) h' Q)) : wpx d P_Ow_tail 4 [.ref r0, .int x1, .int x2, .int x3, v4, v5] [.ref q0] h Q := by
  refine st_astore (pc' := 6) (ls' := [.ref r0, .int x1, .int x2, .int x3, .ref q0, v5]) rfl rfl (Nat.le_of_ble_eq_true rfl) rfl ?_
  refine st_aload (pc' := 8) rfl rfl rfl ?_
  refine st_iload (pc' := 9) rfl rfl rfl ?_
  refine st_iload (pc' := 10) rfl rfl rfl ?_
  exact st_call (pc' := 13) (as := [.ref q0, .int x1, .int x2]) (rest := []) rfl rfl (Nat.le_of_ble_eq_true rfl) rfl rfl (Nat.le_of_ble_eq_true rfl) (kd := 1) (o := 6) rfl rfl (beq_iff_eq.mpr hs0) k
theorem B_Ow_tail_13 {d : Nat} {h : PH} {Q : PQ} {r0 : Nat} {x1 : Int32} {x2 : Int32} {x3 : Int32} {r4 : Nat} {v5 : Value} {s0 : Int32}  (kt : ¬ (s0 = ((-1) : Int32)) → wpx d P_Ow_tail 25 [.ref r0, .int x1, .int x2, .int x3, .ref r4, .int s0] [] h Q) (kf : s0 = ((-1) : Int32) → wpx d P_Ow_tail 21 [.ref r0, .int x1, .int x2, .int x3, .ref r4, .int s0] [] h Q) : wpx d P_Ow_tail 13 [.ref r0, .int x1, .int x2, .int x3, .ref r4, v5] [.int s0] h Q := by
  refine st_istore (pc' := 15) (ls' := [.ref r0, .int x1, .int x2, .int x3, .ref r4, .int s0]) rfl rfl (Nat.le_of_ble_eq_true rfl) rfl ?_
  refine st_iload (pc' := 17) rfl rfl rfl ?_
  refine st_ipush (pc' := 18) (v := (-1)) rfl rfl (by decide) ?_
  exact st_icmp_ne (pc' := 21) rfl rfl kt kf
theorem B_Ow_tail_21 {d : Nat} {h : PH} {Q : PQ} {r0 : Nat} {x1 : Int32} {x2 : Int32} {x3 : Int32} {r4 : Nat} {x5 : Int32}  (k : wpx d P_Ow_tail 45 [.ref r0, .int x1, .int x2, .int x3, .ref r4, .int x5] [.int (-1)] h Q) : wpx d P_Ow_tail 21 [.ref r0, .int x1, .int x2, .int x3, .ref r4, .int x5] [] h Q := by
  refine st_ipush (pc' := 22) (v := (-1)) rfl rfl (by decide) ?_
  exact st_goto rfl k
theorem B_Ow_tail_25 {d : Nat} {h : PH} {Q : PQ} {r0 : Nat} {x1 : Int32} {x2 : Int32} {x3 : Int32} {r4 : Nat} {x5 : Int32} {a0 : Nat} {n1 : Nat} {a2 : Nat} {n3 : Nat} (hs0 : h_sh h r4 = some (0, 6)) (hr1 : h_r h r4 0 = some a0) (hs2 : h_sh h a0 = some (4, n1)) (hb3 : vp_in x5 n1) (hr4 : h_r h r4 1 = some a2) (hs5 : h_sh h a2 = some (1, n3)) (hb6 : vp_in x5 n3) (k : wpm d 166 [.long (h_l h a0 x5.toNatClampNeg), .int (h_i h a2 x5.toNatClampNeg), .int x3] h (fun r h' => wpx d P_Ow_tail 45 [.ref r0, .int x1, .int x2, .int x3, .ref r4, .int x5] (r.toList ++ []) h' Q)) : wpx d P_Ow_tail 25 [.ref r0, .int x1, .int x2, .int x3, .ref r4, .int x5] [] h Q := by
  refine st_aload (pc' := 27) rfl rfl rfl ?_
  refine st_getfr (x := some a0) (Or.inr rfl) rfl hs0 rfl hr1 (pc' := 30) rfl ?_
  refine st_iload (pc' := 32) rfl rfl rfl ?_
  refine st_laload rfl hs2 hb3 (j := x5.toNatClampNeg) rfl (pc' := 33) rfl ?_
  refine st_aload (pc' := 35) rfl rfl rfl ?_
  refine st_getfr (x := some a2) (Or.inr rfl) rfl hs0 rfl hr4 (pc' := 38) rfl ?_
  refine st_iload (pc' := 40) rfl rfl rfl ?_
  refine st_iaload rfl hs5 hb6 (j := x5.toNatClampNeg) rfl (pc' := 41) rfl ?_
  refine st_iload (pc' := 42) rfl rfl rfl ?_
  exact st_call (pc' := 45) (as := [.long (h_l h a0 x5.toNatClampNeg), .int (h_i h a2 x5.toNatClampNeg), .int x3]) (rest := []) rfl rfl (Nat.le_of_ble_eq_true rfl) rfl rfl (Nat.le_of_ble_eq_true rfl) (kd := 0) (o := 11) rfl rfl rfl k
theorem B_Ow_tail_45 {d : Nat} {h : PH} {Q : PQ} {r0 : Nat} {x1 : Int32} {x2 : Int32} {x3 : Int32} {r4 : Nat} {x5 : Int32} {s0 : Int32}  (k : Q (some (.int s0)) h) : wpx d P_Ow_tail 45 [.ref r0, .int x1, .int x2, .int x3, .ref r4, .int x5] [.int s0] h Q := by
  exact st_ireturn (ty := .int) rfl rfl rfl k
theorem B_Ow_doubt_0 {d : Nat} {h : PH} {Q : PQ} {r0 : Nat} (hs0 : h_sh h r0 = some (0, 11)) (k : wpm d 153 [.ref r0] h (fun r h' => wpx d P_Ow_doubt 4 [.ref r0] (r.toList ++ []) h' Q)) : wpx d P_Ow_doubt 0 [.ref r0] [] h Q := by
  refine st_aload (pc' := 1) rfl rfl rfl ?_
  exact st_call (pc' := 4) (as := [.ref r0]) (rest := []) rfl rfl (Nat.le_of_ble_eq_true rfl) rfl rfl (Nat.le_of_ble_eq_true rfl) (kd := 1) (o := 11) rfl rfl (beq_iff_eq.mpr hs0) k
theorem B_Ow_doubt_4 {d : Nat} {h : PH} {Q : PQ} {r0 : Nat} {q0 : Nat} (hs0 : h_sh h q0 = some (0, 6)) (k : Q (some (.int (h_i h q0 6))) h) : wpx d P_Ow_doubt 4 [.ref r0] [.ref q0] h Q := by
  refine st_getfi (Or.inr rfl) rfl hs0 rfl (pc' := 7) rfl ?_
  exact st_ireturn (ty := .int) rfl rfl rfl k
theorem B_Ow_witness_0 {d : Nat} {h : PH} {Q : PQ} {r0 : Nat} (hs0 : h_sh h r0 = some (0, 11)) (kt : ∀ a, h_r h r0 7 = some a → wpx d P_Ow_witness 18 [.ref r0] [] h Q) (kf : h_r h r0 7 = none → wpx d P_Ow_witness 7 [.ref r0] [] h Q) : wpx d P_Ow_witness 0 [.ref r0] [] h Q := by
  refine st_aload (pc' := 1) rfl rfl rfl ?_
  refine st_getfr (x := h_r h r0 7) (Or.inl rfl) rfl hs0 rfl rfl (pc' := 4) rfl ?_
  exact st_nonnull rfl kt (pc' := 7) rfl kf
theorem B_Ow_witness_7 {d : Nat} {h : PH} {Q : PQ} {r0 : Nat}  (k : wpm d 99 [.ref (h_ct h)] (h_new h (0, 9) (fN 9)) (fun r h' => wpx d P_Ow_witness 15 [.ref r0] (r.toList ++ [.ref (h_ct h), .ref r0]) h' Q)) : wpx d P_Ow_witness 7 [.ref r0] [] h Q := by
  refine st_aload (pc' := 8) rfl rfl rfl ?_
  refine st_new rfl (pc' := 11) rfl ?_
  refine st_dup (pc' := 12) rfl rfl rfl ?_
  exact st_call (pc' := 15) (as := [.ref (h_ct h)]) (rest := [.ref (h_ct h), .ref r0]) rfl rfl (Nat.le_of_ble_eq_true rfl) rfl rfl (Nat.le_of_ble_eq_true rfl) (kd := 2) (o := 9) rfl rfl rfl k
theorem B_Ow_witness_15 {d : Nat} {h : PH} {Q : PQ} {r0 : Nat} {q0 : Nat} {q1 : Nat} (hs0 : h_sh h q0 = some (0, 11)) (k : wpx d P_Ow_witness 18 [.ref r0] [] (w_r h q0 7 (some q1)) Q) : wpx d P_Ow_witness 15 [.ref r0] [.ref q1, .ref q0] h Q := by
  refine st_putf (h' := w_r h q0 7 (some q1)) (Or.inl rfl) rfl hs0 rfl rfl rfl (pc' := 18) rfl ?_
  exact k
theorem B_Ow_witness_18 {d : Nat} {h : PH} {Q : PQ} {r0 : Nat} {a0 : Nat} (hs0 : h_sh h r0 = some (0, 11)) (hr1 : h_r h r0 7 = some a0) (k : wpm d 152 [.ref r0] h (fun r h' => wpx d P_Ow_witness 26 [.ref r0] (r.toList ++ [.ref a0]) h' Q)) : wpx d P_Ow_witness 18 [.ref r0] [] h Q := by
  refine st_aload (pc' := 19) rfl rfl rfl ?_
  refine st_getfr (x := some a0) (Or.inl rfl) rfl hs0 rfl hr1 (pc' := 22) rfl ?_
  refine st_aload (pc' := 23) rfl rfl rfl ?_
  exact st_call (pc' := 26) (as := [.ref r0]) (rest := [.ref a0]) rfl rfl (Nat.le_of_ble_eq_true rfl) rfl rfl (Nat.le_of_ble_eq_true rfl) (kd := 1) (o := 11) rfl rfl (beq_iff_eq.mpr hs0) k
theorem B_Ow_witness_26 {d : Nat} {h : PH} {Q : PQ} {r0 : Nat} {q0 : Nat} {q1 : Nat} (hs0 : h_sh h q0 = some (0, 9)) (k : wpm d 100 [.ref q0, .ref q1] h (fun r h' => wpx d P_Ow_witness 29 [.ref r0] (r.toList ++ []) h' Q)) : wpx d P_Ow_witness 26 [.ref r0] [.ref q1, .ref q0] h Q := by
  exact st_call (pc' := 29) (as := [.ref q0, .ref q1]) (rest := []) rfl rfl (Nat.le_of_ble_eq_true rfl) rfl rfl (Nat.le_of_ble_eq_true rfl) (kd := 1) (o := 9) rfl rfl (beq_iff_eq.mpr hs0) k
theorem B_Ow_witness_29 {d : Nat} {h : PH} {Q : PQ} {r0 : Nat} {s0 : Int32}  (kt : ¬ (s0 = 0) → wpx d P_Ow_witness 34 [.ref r0] [] h Q) (kf : s0 = 0 → wpx d P_Ow_witness 32 [.ref r0] [] h Q) : wpx d P_Ow_witness 29 [.ref r0] [.int s0] h Q := by
  exact st_if_ne (pc' := 32) rfl rfl kt kf
theorem B_Ow_witness_32 {d : Nat} {h : PH} {Q : PQ} {r0 : Nat}  (k : Q (some (.int (-1))) h) : wpx d P_Ow_witness 32 [.ref r0] [] h Q := by
  refine st_ipush (pc' := 33) (v := (-1)) rfl rfl (by decide) ?_
  exact st_ireturn (ty := .int) rfl rfl rfl k
theorem B_Ow_witness_34 {d : Nat} {h : PH} {Q : PQ} {r0 : Nat} {a0 : Nat} {a1 : Nat} (hs0 : h_sh h r0 = some (0, 11)) (hr1 : h_r h r0 7 = some a0) (hr2 : h_r h r0 4 = some a1) (hs3 : h_sh h a0 = some (0, 9)) (k : wpm d 104 [.ref a0, .ref a1] h (fun r h' => wpx d P_Ow_witness 45 [.ref r0] (r.toList ++ []) h' Q)) : wpx d P_Ow_witness 34 [.ref r0] [] h Q := by
  refine st_aload (pc' := 35) rfl rfl rfl ?_
  refine st_getfr (x := some a0) (Or.inl rfl) rfl hs0 rfl hr1 (pc' := 38) rfl ?_
  refine st_aload (pc' := 39) rfl rfl rfl ?_
  refine st_getfr (x := some a1) (Or.inl rfl) rfl hs0 rfl hr2 (pc' := 42) rfl ?_
  exact st_call (pc' := 45) (as := [.ref a0, .ref a1]) (rest := []) rfl rfl (Nat.le_of_ble_eq_true rfl) rfl rfl (Nat.le_of_ble_eq_true rfl) (kd := 1) (o := 9) rfl rfl (beq_iff_eq.mpr hs3) k
theorem B_Ow_witness_45 {d : Nat} {h : PH} {Q : PQ} {r0 : Nat} {a0 : Nat} (hs0 : h_sh h r0 = some (0, 11)) (hr1 : h_r h r0 4 = some a0) (hs2 : h_sh h a0 = some (0, 10)) (k : Q (some (.int (h_i h a0 1))) h) : wpx d P_Ow_witness 45 [.ref r0] [] h Q := by
  refine st_aload (pc' := 46) rfl rfl rfl ?_
  refine st_getfr (x := some a0) (Or.inl rfl) rfl hs0 rfl hr1 (pc' := 49) rfl ?_
  refine st_getfi (Or.inr rfl) rfl hs2 rfl (pc' := 52) rfl ?_
  exact st_ireturn (ty := .int) rfl rfl rfl k
theorem B_Ow_look_0 {d : Nat} {h : PH} {Q : PQ} {r0 : Nat} (hs0 : h_sh h r0 = some (0, 11)) (k : wpm d 153 [.ref r0] h (fun r h' => wpx d P_Ow_look 4 [.ref r0] (r.toList ++ []) h' Q)) : wpx d P_Ow_look 0 [.ref r0] [] h Q := by
  refine st_aload (pc' := 1) rfl rfl rfl ?_
  exact st_call (pc' := 4) (as := [.ref r0]) (rest := []) rfl rfl (Nat.le_of_ble_eq_true rfl) rfl rfl (Nat.le_of_ble_eq_true rfl) (kd := 1) (o := 11) rfl rfl (beq_iff_eq.mpr hs0) k
theorem B_Ow_look_4 {d : Nat} {h : PH} {Q : PQ} {r0 : Nat} {q0 : Nat} {a0 : Nat} (hs0 : h_sh h r0 = some (0, 11)) (hr1 : h_r h r0 2 = some a0) (hs2 : h_sh h q0 = some (0, 6)) (k : wpm d 78 [.ref q0, .ref a0] h (fun r h' => wpx d P_Ow_look 11 [.ref r0] (r.toList ++ []) h' Q)) : wpx d P_Ow_look 4 [.ref r0] [.ref q0] h Q := by
  refine st_aload (pc' := 5) rfl rfl rfl ?_
  refine st_getfr (x := some a0) (Or.inl rfl) rfl hs0 rfl hr1 (pc' := 8) rfl ?_
  exact st_call (pc' := 11) (as := [.ref q0, .ref a0]) (rest := []) rfl rfl (Nat.le_of_ble_eq_true rfl) rfl rfl (Nat.le_of_ble_eq_true rfl) (kd := 1) (o := 6) rfl rfl (beq_iff_eq.mpr hs2) k
theorem B_Ow_look_11 {d : Nat} {h : PH} {Q : PQ} {r0 : Nat} {s0 : Int32}  (k : Q (some (.int s0)) h) : wpx d P_Ow_look 11 [.ref r0] [.int s0] h Q := by
  exact st_ireturn (ty := .int) rfl rfl rfl k
theorem B_Ow_share_0 {d : Nat} {h : PH} {Q : PQ} {r0 : Nat} {x1 : Int32} {v2 : Value} {v3 : Value} {v4 : Value} {v5 : Value} {v6 : Value} {v7 : Value} {v8 : Value}  (kt : x1 = 0 → wpx d P_Ow_share 13 [.ref r0, .int x1, v2, v3, v4, v5, v6, v7, v8] [] h Q) (kf : ¬ (x1 = 0) → wpx d P_Ow_share 4 [.ref r0, .int x1, v2, v3, v4, v5, v6, v7, v8] [] h Q) : wpx d P_Ow_share 0 [.ref r0, .int x1, v2, v3, v4, v5, v6, v7, v8] [] h Q := by
  refine st_iload (pc' := 1) rfl rfl rfl ?_
  exact st_if_eq (pc' := 4) rfl rfl kt kf
theorem B_Ow_share_4 {d : Nat} {h : PH} {Q : PQ} {r0 : Nat} {x1 : Int32} {v2 : Value} {v3 : Value} {v4 : Value} {v5 : Value} {v6 : Value} {v7 : Value} {v8 : Value}  (kt : x1 = (1 : Int32) → wpx d P_Ow_share 13 [.ref r0, .int x1, v2, v3, v4, v5, v6, v7, v8] [] h Q) (kf : ¬ (x1 = (1 : Int32)) → wpx d P_Ow_share 9 [.ref r0, .int x1, v2, v3, v4, v5, v6, v7, v8] [] h Q) : wpx d P_Ow_share 4 [.ref r0, .int x1, v2, v3, v4, v5, v6, v7, v8] [] h Q := by
  refine st_iload (pc' := 5) rfl rfl rfl ?_
  refine st_ipush (pc' := 6) (v := 1) rfl rfl (by decide) ?_
  exact st_icmp_eq (pc' := 9) rfl rfl kt kf
theorem B_Ow_share_9 {d : Nat} {h : PH} {Q : PQ} {r0 : Nat} {x1 : Int32} {v2 : Value} {v3 : Value} {v4 : Value} {v5 : Value} {v6 : Value} {v7 : Value} {v8 : Value}  (k : Q (some (.long (-1))) h) : wpx d P_Ow_share 9 [.ref r0, .int x1, v2, v3, v4, v5, v6, v7, v8] [] h Q := by
  refine st_ldc2 (pc' := 12) (v := (-1)) rfl rfl (by decide) ?_
  exact st_lreturn rfl k
theorem B_Ow_share_13 {d : Nat} {h : PH} {Q : PQ} {r0 : Nat} {x1 : Int32} {v2 : Value} {v3 : Value} {v4 : Value} {v5 : Value} {v6 : Value} {v7 : Value} {v8 : Value} {a0 : Nat} (hs0 : h_sh h r0 = some (0, 11)) (hr1 : h_r h r0 2 = some a0) (hs2 : h_sh h a0 = some (0, 3)) (k : wpm d 42 [.ref a0] h (fun r h' => wpx d P_Ow_share 20 [.ref r0, .int x1, v2, v3, v4, v5, v6, v7, v8] (r.toList ++ []) h' Q)) : wpx d P_Ow_share 13 [.ref r0, .int x1, v2, v3, v4, v5, v6, v7, v8] [] h Q := by
  refine st_aload (pc' := 14) rfl rfl rfl ?_
  refine st_getfr (x := some a0) (Or.inl rfl) rfl hs0 rfl hr1 (pc' := 17) rfl ?_
  exact st_call (pc' := 20) (as := [.ref a0]) (rest := []) rfl rfl (Nat.le_of_ble_eq_true rfl) rfl rfl (Nat.le_of_ble_eq_true rfl) (kd := 1) (o := 3) rfl rfl (beq_iff_eq.mpr hs2) k
theorem B_Ow_share_20 {d : Nat} {h : PH} {Q : PQ} {r0 : Nat} {x1 : Int32} {v2 : Value} {v3 : Value} {v4 : Value} {v5 : Value} {v6 : Value} {v7 : Value} {v8 : Value} {s0 : Int32}  (k : wpx d P_Ow_share 26 [.ref r0, .int x1, .int s0, .long 0, .retAddr 2, .int 0, v6, v7, v8] [] h Q) : wpx d P_Ow_share 20 [.ref r0, .int x1, v2, v3, v4, v5, v6, v7, v8] [.int s0] h Q := by
  refine st_istore (pc' := 21) (ls' := [.ref r0, .int x1, .int s0, v3, v4, v5, v6, v7, v8]) rfl rfl (Nat.le_of_ble_eq_true rfl) rfl ?_
  refine st_lpush (pc' := 22) (v := 0) rfl rfl (by decide) ?_
  refine st_lstore (pc' := 23) (ls' := [.ref r0, .int x1, .int s0, .long 0, .retAddr 2, v5, v6, v7, v8]) rfl rfl (Nat.le_of_ble_eq_true rfl) rfl ?_
  refine st_ipush (pc' := 24) (v := 0) rfl rfl (by decide) ?_
  refine st_istore (pc' := 26) (ls' := [.ref r0, .int x1, .int s0, .long 0, .retAddr 2, .int 0, v6, v7, v8]) rfl rfl (Nat.le_of_ble_eq_true rfl) rfl ?_
  exact k
theorem B_Ow_share_26 {d : Nat} {h : PH} {Q : PQ} {r0 : Nat} {x1 : Int32} {x2 : Int32} {l3 : Int64} {x5 : Int32} {v6 : Value} {v7 : Value} {v8 : Value} {a0 : Nat} (hs0 : h_sh h r0 = some (0, 11)) (hr1 : h_r h r0 2 = some a0) (hs2 : h_sh h a0 = some (0, 3)) (kt : (h_i h a0 3) ≤ x5 → wpx d P_Ow_share 77 [.ref r0, .int x1, .int x2, .long l3, .retAddr 2, .int x5, v6, v7, v8] [] h Q) (kf : ¬ ((h_i h a0 3) ≤ x5) → wpx d P_Ow_share 38 [.ref r0, .int x1, .int x2, .long l3, .retAddr 2, .int x5, v6, v7, v8] [] h Q) : wpx d P_Ow_share 26 [.ref r0, .int x1, .int x2, .long l3, .retAddr 2, .int x5, v6, v7, v8] [] h Q := by
  refine st_iload (pc' := 28) rfl rfl rfl ?_
  refine st_aload (pc' := 29) rfl rfl rfl ?_
  refine st_getfr (x := some a0) (Or.inl rfl) rfl hs0 rfl hr1 (pc' := 32) rfl ?_
  refine st_getfi (Or.inr rfl) rfl hs2 rfl (pc' := 35) rfl ?_
  exact st_icmp_ge (pc' := 38) rfl rfl kt kf
theorem B_Ow_share_38 {d : Nat} {h : PH} {Q : PQ} {r0 : Nat} {x1 : Int32} {x2 : Int32} {l3 : Int64} {x5 : Int32} {v6 : Value} {v7 : Value} {v8 : Value} {a0 : Nat} (hs0 : h_sh h r0 = some (0, 11)) (hr1 : h_r h r0 2 = some a0) (hs2 : h_sh h a0 = some (0, 3)) (k : wpm d 35 [.ref a0, .int x5] h (fun r h' => wpx d P_Ow_share 47 [.ref r0, .int x1, .int x2, .long l3, .retAddr 2, .int x5, v6, v7, v8] (r.toList ++ []) h' Q)) : wpx d P_Ow_share 38 [.ref r0, .int x1, .int x2, .long l3, .retAddr 2, .int x5, v6, v7, v8] [] h Q := by
  refine st_aload (pc' := 39) rfl rfl rfl ?_
  refine st_getfr (x := some a0) (Or.inl rfl) rfl hs0 rfl hr1 (pc' := 42) rfl ?_
  refine st_iload (pc' := 44) rfl rfl rfl ?_
  exact st_call (pc' := 47) (as := [.ref a0, .int x5]) (rest := []) rfl rfl (Nat.le_of_ble_eq_true rfl) rfl rfl (Nat.le_of_ble_eq_true rfl) (kd := 1) (o := 3) rfl rfl (beq_iff_eq.mpr hs2) k
theorem B_Ow_share_47 {d : Nat} {h : PH} {Q : PQ} {r0 : Nat} {x1 : Int32} {x2 : Int32} {l3 : Int64} {x5 : Int32} {v6 : Value} {v7 : Value} {v8 : Value} {s0 : Int32}  (kt : s0 = 0 → wpx d P_Ow_share 71 [.ref r0, .int x1, .int x2, .long l3, .retAddr 2, .int x5, v6, v7, v8] [] h Q) (kf : ¬ (s0 = 0) → wpx d P_Ow_share 50 [.ref r0, .int x1, .int x2, .long l3, .retAddr 2, .int x5, v6, v7, v8] [] h Q) : wpx d P_Ow_share 47 [.ref r0, .int x1, .int x2, .long l3, .retAddr 2, .int x5, v6, v7, v8] [.int s0] h Q := by
  exact st_if_eq (pc' := 50) rfl rfl kt kf
theorem B_Ow_share_50 {d : Nat} {h : PH} {Q : PQ} {r0 : Nat} {x1 : Int32} {x2 : Int32} {l3 : Int64} {x5 : Int32} {v6 : Value} {v7 : Value} {v8 : Value} {a0 : Nat} {a1 : Nat} {n2 : Nat} (hs0 : h_sh h r0 = some (0, 11)) (hr1 : h_r h r0 2 = some a0) (hs2 : h_sh h a0 = some (0, 3)) (hr3 : h_r h a0 1 = some a1) (hs4 : h_sh h a1 = some (1, n2)) (hb5 : vp_in x5 n2) (k : wpm d 159 [.long x2.toInt64, .int ((7 : Int32) - (h_i h a1 x5.toNatClampNeg))] h (fun r h' => wpx d P_Ow_share 69 [.ref r0, .int x1, .int x2, .long l3, .retAddr 2, .int x5, v6, v7, v8] (r.toList ++ [.long l3]) h' Q)) : wpx d P_Ow_share 50 [.ref r0, .int x1, .int x2, .long l3, .retAddr 2, .int x5, v6, v7, v8] [] h Q := by
  refine st_lload (pc' := 51) rfl rfl rfl rfl ?_
  refine st_iload (pc' := 52) rfl rfl rfl ?_
  refine st_i2l (pc' := 53) rfl rfl ?_
  refine st_ipush (pc' := 55) (v := 7) rfl rfl (by decide) ?_
  refine st_aload (pc' := 56) rfl rfl rfl ?_
  refine st_getfr (x := some a0) (Or.inl rfl) rfl hs0 rfl hr1 (pc' := 59) rfl ?_
  refine st_getfr (x := some a1) (Or.inr rfl) rfl hs2 rfl hr3 (pc' := 62) rfl ?_
  refine st_iload (pc' := 64) rfl rfl rfl ?_
  refine st_iaload rfl hs4 hb5 (j := x5.toNatClampNeg) rfl (pc' := 65) rfl ?_
  refine st_isub (pc' := 66) rfl rfl ?_
  exact st_call (pc' := 69) (as := [.long x2.toInt64, .int ((7 : Int32) - (h_i h a1 x5.toNatClampNeg))]) (rest := [.long l3]) rfl rfl (Nat.le_of_ble_eq_true rfl) rfl rfl (Nat.le_of_ble_eq_true rfl) (kd := 0) (o := 11) rfl rfl rfl k
theorem B_Ow_share_69 {d : Nat} {h : PH} {Q : PQ} {r0 : Nat} {x1 : Int32} {x2 : Int32} {l3 : Int64} {x5 : Int32} {v6 : Value} {v7 : Value} {v8 : Value} {t0 : Int64} {t1 : Int64}  (k : wpx d P_Ow_share 71 [.ref r0, .int x1, .int x2, .long (t0 + t1), .retAddr 2, .int x5, v6, v7, v8] [] h Q) : wpx d P_Ow_share 69 [.ref r0, .int x1, .int x2, .long l3, .retAddr 2, .int x5, v6, v7, v8] [.long t1, .long t0] h Q := by
  refine st_ladd (pc' := 70) rfl rfl ?_
  refine st_lstore (pc' := 71) (ls' := [.ref r0, .int x1, .int x2, .long (t0 + t1), .retAddr 2, .int x5, v6, v7, v8]) rfl rfl (Nat.le_of_ble_eq_true rfl) rfl ?_
  exact k
theorem B_Ow_share_71 {d : Nat} {h : PH} {Q : PQ} {r0 : Nat} {x1 : Int32} {x2 : Int32} {l3 : Int64} {x5 : Int32} {v6 : Value} {v7 : Value} {v8 : Value}  (k : wpx d P_Ow_share 26 [.ref r0, .int x1, .int x2, .long l3, .retAddr 2, .int (x5 + 1), v6, v7, v8] [] h Q) : wpx d P_Ow_share 71 [.ref r0, .int x1, .int x2, .long l3, .retAddr 2, .int x5, v6, v7, v8] [] h Q := by
  refine st_iinc (pc' := 74) (v := 1) (ls' := [.ref r0, .int x1, .int x2, .long l3, .retAddr 2, .int (x5 + 1), v6, v7, v8]) rfl rfl rfl (by decide) rfl ?_
  exact st_goto rfl k
theorem B_Ow_share_77 {d : Nat} {h : PH} {Q : PQ} {r0 : Nat} {x1 : Int32} {x2 : Int32} {l3 : Int64} {x5 : Int32} {v6 : Value} {v7 : Value} {v8 : Value}  (k : wpm d 159 [.long x2.toInt64, .int 7] h (fun r h' => wpx d P_Ow_share 84 [.ref r0, .int x1, .int x2, .long l3, .retAddr 2, .int x5, v6, v7, v8] (r.toList ++ []) h' Q)) : wpx d P_Ow_share 77 [.ref r0, .int x1, .int x2, .long l3, .retAddr 2, .int x5, v6, v7, v8] [] h Q := by
  refine st_iload (pc' := 78) rfl rfl rfl ?_
  refine st_i2l (pc' := 79) rfl rfl ?_
  refine st_ipush (pc' := 81) (v := 7) rfl rfl (by decide) ?_
  exact st_call (pc' := 84) (as := [.long x2.toInt64, .int 7]) (rest := []) rfl rfl (Nat.le_of_ble_eq_true rfl) rfl rfl (Nat.le_of_ble_eq_true rfl) (kd := 0) (o := 11) rfl rfl rfl k
theorem B_Ow_share_84 {d : Nat} {h : PH} {Q : PQ} {r0 : Nat} {x1 : Int32} {x2 : Int32} {l3 : Int64} {x5 : Int32} {v6 : Value} {v7 : Value} {v8 : Value} {t0 : Int64}  (k : wpm d 160 [.long t0, .long l3] h (fun r h' => wpx d P_Ow_share 92 [.ref r0, .int x1, .int x2, .long l3, .retAddr 2, .long t0, .retAddr 2, v7, v8] (r.toList ++ []) h' Q)) : wpx d P_Ow_share 84 [.ref r0, .int x1, .int x2, .long l3, .retAddr 2, .int x5, v6, v7, v8] [.long t0] h Q := by
  refine st_lstore (pc' := 86) (ls' := [.ref r0, .int x1, .int x2, .long l3, .retAddr 2, .long t0, .retAddr 2, v7, v8]) rfl rfl (Nat.le_of_ble_eq_true rfl) rfl ?_
  refine st_lload (pc' := 88) rfl rfl rfl rfl ?_
  refine st_lload (pc' := 89) rfl rfl rfl rfl ?_
  exact st_call (pc' := 92) (as := [.long t0, .long l3]) (rest := []) rfl rfl (Nat.le_of_ble_eq_true rfl) rfl rfl (Nat.le_of_ble_eq_true rfl) (kd := 0) (o := 11) rfl rfl rfl k
theorem B_Ow_share_92 {d : Nat} {h : PH} {Q : PQ} {r0 : Nat} {x1 : Int32} {x2 : Int32} {l3 : Int64} {l5 : Int64} {v7 : Value} {v8 : Value} {t0 : Int64}  (kt : 0 ≤ (lg_cmp t0 (1 : Int64)) → wpx d P_Ow_share 105 [.ref r0, .int x1, .int x2, .long l3, .retAddr 2, .long l5, .retAddr 2, .long t0, .retAddr 2] [] h Q) (kf : ¬ (0 ≤ (lg_cmp t0 (1 : Int64))) → wpx d P_Ow_share 101 [.ref r0, .int x1, .int x2, .long l3, .retAddr 2, .long l5, .retAddr 2, .long t0, .retAddr 2] [] h Q) : wpx d P_Ow_share 92 [.ref r0, .int x1, .int x2, .long l3, .retAddr 2, .long l5, .retAddr 2, v7, v8] [.long t0] h Q := by
  refine st_lstore (pc' := 94) (ls' := [.ref r0, .int x1, .int x2, .long l3, .retAddr 2, .long l5, .retAddr 2, .long t0, .retAddr 2]) rfl rfl (Nat.le_of_ble_eq_true rfl) rfl ?_
  refine st_lload (pc' := 96) rfl rfl rfl rfl ?_
  refine st_lpush (pc' := 97) (v := 1) rfl rfl (by decide) ?_
  refine st_lcmp (pc' := 98) rfl rfl ?_
  exact st_if_ge (pc' := 101) rfl rfl kt kf
theorem B_Ow_share_101 {d : Nat} {h : PH} {Q : PQ} {r0 : Nat} {x1 : Int32} {x2 : Int32} {l3 : Int64} {l5 : Int64} {l7 : Int64}  (k : Q (some (.long (-1))) h) : wpx d P_Ow_share 101 [.ref r0, .int x1, .int x2, .long l3, .retAddr 2, .long l5, .retAddr 2, .long l7, .retAddr 2] [] h Q := by
  refine st_ldc2 (pc' := 104) (v := (-1)) rfl rfl (by decide) ?_
  exact st_lreturn rfl k
theorem B_Ow_share_105 {d : Nat} {h : PH} {Q : PQ} {r0 : Nat} {x1 : Int32} {x2 : Int32} {l3 : Int64} {l5 : Int64} {l7 : Int64}  (kt : ¬ (x1 = 0) → wpx d P_Ow_share 113 [.ref r0, .int x1, .int x2, .long l3, .retAddr 2, .long l5, .retAddr 2, .long l7, .retAddr 2] [] h Q) (kf : x1 = 0 → wpx d P_Ow_share 109 [.ref r0, .int x1, .int x2, .long l3, .retAddr 2, .long l5, .retAddr 2, .long l7, .retAddr 2] [] h Q) : wpx d P_Ow_share 105 [.ref r0, .int x1, .int x2, .long l3, .retAddr 2, .long l5, .retAddr 2, .long l7, .retAddr 2] [] h Q := by
  refine st_iload (pc' := 106) rfl rfl rfl ?_
  exact st_if_ne (pc' := 109) rfl rfl kt kf
theorem B_Ow_share_109 {d : Nat} {h : PH} {Q : PQ} {r0 : Nat} {x1 : Int32} {x2 : Int32} {l3 : Int64} {l5 : Int64} {l7 : Int64}  (k : wpx d P_Ow_share 115 [.ref r0, .int x1, .int x2, .long l3, .retAddr 2, .long l5, .retAddr 2, .long l7, .retAddr 2] [.long l3] h Q) : wpx d P_Ow_share 109 [.ref r0, .int x1, .int x2, .long l3, .retAddr 2, .long l5, .retAddr 2, .long l7, .retAddr 2] [] h Q := by
  refine st_lload (pc' := 110) rfl rfl rfl rfl ?_
  exact st_goto rfl k
theorem B_Ow_share_113 {d : Nat} {h : PH} {Q : PQ} {r0 : Nat} {x1 : Int32} {x2 : Int32} {l3 : Int64} {l5 : Int64} {l7 : Int64}  (k : wpx d P_Ow_share 115 [.ref r0, .int x1, .int x2, .long l3, .retAddr 2, .long l5, .retAddr 2, .long l7, .retAddr 2] [.long l5] h Q) : wpx d P_Ow_share 113 [.ref r0, .int x1, .int x2, .long l3, .retAddr 2, .long l5, .retAddr 2, .long l7, .retAddr 2] [] h Q := by
  refine st_lload (pc' := 115) rfl rfl rfl rfl ?_
  exact k
theorem B_Ow_share_115 {d : Nat} {h : PH} {Q : PQ} {r0 : Nat} {x1 : Int32} {x2 : Int32} {l3 : Int64} {l5 : Int64} {l7 : Int64} {t0 : Int64} (hz0 : ¬ l7 = 0) (k : Q (some (.long (t0 / l7))) h) : wpx d P_Ow_share 115 [.ref r0, .int x1, .int x2, .long l3, .retAddr 2, .long l5, .retAddr 2, .long l7, .retAddr 2] [.long t0] h Q := by
  refine st_lload (pc' := 117) rfl rfl rfl rfl ?_
  refine st_ldiv rfl hz0 (pc' := 118) rfl ?_
  exact st_lreturn rfl k
theorem B_Ow_word_0 {d : Nat} {h : PH} {Q : PQ} {r0 : Nat} {v1 : Value} {v2 : Value} (hs0 : h_sh h r0 = some (0, 11)) (kt : (h_i h r0 1) ≤ (40 : Int32) → wpx d P_Ow_word 18 [.ref r0, .int (h_i h r0 1), v2] [] (w_i h r0 1 0) Q) (kf : ¬ ((h_i h r0 1) ≤ (40 : Int32)) → wpx d P_Ow_word 16 [.ref r0, .int (h_i h r0 1), v2] [] (w_i h r0 1 0) Q) : wpx d P_Ow_word 0 [.ref r0, v1, v2] [] h Q := by
  refine st_aload (pc' := 1) rfl rfl rfl ?_
  refine st_getfi (Or.inl rfl) rfl hs0 rfl (pc' := 4) rfl ?_
  refine st_istore (pc' := 5) (ls' := [.ref r0, .int (h_i h r0 1), v2]) rfl rfl (Nat.le_of_ble_eq_true rfl) rfl ?_
  refine st_aload (pc' := 6) rfl rfl rfl ?_
  refine st_ipush (pc' := 7) (v := 0) rfl rfl (by decide) ?_
  refine st_putf (h' := w_i h r0 1 0) (Or.inl rfl) rfl hs0 rfl rfl rfl (pc' := 10) rfl ?_
  refine st_iload (pc' := 11) rfl rfl rfl ?_
  refine st_ipush (pc' := 13) (v := 40) rfl rfl (by decide) ?_
  exact st_icmp_le (pc' := 16) rfl rfl kt kf
theorem B_Ow_word_16 {d : Nat} {h : PH} {Q : PQ} {r0 : Nat} {x1 : Int32} {v2 : Value}  (k : Q (some (.int (-1))) h) : wpx d P_Ow_word 16 [.ref r0, .int x1, v2] [] h Q := by
  refine st_ipush (pc' := 17) (v := (-1)) rfl rfl (by decide) ?_
  exact st_ireturn (ty := .int) rfl rfl rfl k
theorem B_Ow_word_18 {d : Nat} {h : PH} {Q : PQ} {r0 : Nat} {x1 : Int32} {v2 : Value}  (k : wpx d P_Ow_word 20 [.ref r0, .int x1, .int 0] [] h Q) : wpx d P_Ow_word 18 [.ref r0, .int x1, v2] [] h Q := by
  refine st_ipush (pc' := 19) (v := 0) rfl rfl (by decide) ?_
  refine st_istore (pc' := 20) (ls' := [.ref r0, .int x1, .int 0]) rfl rfl (Nat.le_of_ble_eq_true rfl) rfl ?_
  exact k
theorem B_Ow_word_20 {d : Nat} {h : PH} {Q : PQ} {r0 : Nat} {x1 : Int32} {x2 : Int32}  (kt : x1 ≤ x2 → wpx d P_Ow_word 55 [.ref r0, .int x1, .int x2] [] h Q) (kf : ¬ (x1 ≤ x2) → wpx d P_Ow_word 25 [.ref r0, .int x1, .int x2] [] h Q) : wpx d P_Ow_word 20 [.ref r0, .int x1, .int x2] [] h Q := by
  refine st_iload (pc' := 21) rfl rfl rfl ?_
  refine st_iload (pc' := 22) rfl rfl rfl ?_
  exact st_icmp_ge (pc' := 25) rfl rfl kt kf
theorem B_Ow_word_25 {d : Nat} {h : PH} {Q : PQ} {r0 : Nat} {x1 : Int32} {x2 : Int32} {a0 : Nat} {n1 : Nat} (hs0 : h_sh h r0 = some (0, 11)) (hr1 : h_r h r0 0 = some a0) (hs2 : h_sh h a0 = some (2, n1)) (hb3 : vp_in x2 n1) (kt : (h_i h a0 x2.toNatClampNeg) ≤ (96 : Int32) → wpx d P_Ow_word 47 [.ref r0, .int x1, .int x2] [] h Q) (kf : ¬ ((h_i h a0 x2.toNatClampNeg) ≤ (96 : Int32)) → wpx d P_Ow_word 36 [.ref r0, .int x1, .int x2] [] h Q) : wpx d P_Ow_word 25 [.ref r0, .int x1, .int x2] [] h Q := by
  refine st_aload (pc' := 26) rfl rfl rfl ?_
  refine st_getfr (x := some a0) (Or.inl rfl) rfl hs0 rfl hr1 (pc' := 29) rfl ?_
  refine st_iload (pc' := 30) rfl rfl rfl ?_
  refine st_baload rfl (Or.inl hs2) hb3 (j := x2.toNatClampNeg) rfl (pc' := 31) rfl ?_
  refine st_ipush (pc' := 33) (v := 96) rfl rfl (by decide) ?_
  exact st_icmp_le (pc' := 36) rfl rfl kt kf
theorem B_Ow_word_36 {d : Nat} {h : PH} {Q : PQ} {r0 : Nat} {x1 : Int32} {x2 : Int32} {a0 : Nat} {n1 : Nat} (hs0 : h_sh h r0 = some (0, 11)) (hr1 : h_r h r0 0 = some a0) (hs2 : h_sh h a0 = some (2, n1)) (hb3 : vp_in x2 n1) (kt : (h_i h a0 x2.toNatClampNeg) ≤ (123 : Int32) → wpx d P_Ow_word 49 [.ref r0, .int x1, .int x2] [] h Q) (kf : ¬ ((h_i h a0 x2.toNatClampNeg) ≤ (123 : Int32)) → wpx d P_Ow_word 47 [.ref r0, .int x1, .int x2] [] h Q) : wpx d P_Ow_word 36 [.ref r0, .int x1, .int x2] [] h Q := by
  refine st_aload (pc' := 37) rfl rfl rfl ?_
  refine st_getfr (x := some a0) (Or.inl rfl) rfl hs0 rfl hr1 (pc' := 40) rfl ?_
  refine st_iload (pc' := 41) rfl rfl rfl ?_
  refine st_baload rfl (Or.inl hs2) hb3 (j := x2.toNatClampNeg) rfl (pc' := 42) rfl ?_
  refine st_ipush (pc' := 44) (v := 123) rfl rfl (by decide) ?_
  exact st_icmp_le (pc' := 47) rfl rfl kt kf
theorem B_Ow_word_47 {d : Nat} {h : PH} {Q : PQ} {r0 : Nat} {x1 : Int32} {x2 : Int32}  (k : Q (some (.int (-1))) h) : wpx d P_Ow_word 47 [.ref r0, .int x1, .int x2] [] h Q := by
  refine st_ipush (pc' := 48) (v := (-1)) rfl rfl (by decide) ?_
  exact st_ireturn (ty := .int) rfl rfl rfl k
theorem B_Ow_word_49 {d : Nat} {h : PH} {Q : PQ} {r0 : Nat} {x1 : Int32} {x2 : Int32}  (k : wpx d P_Ow_word 20 [.ref r0, .int x1, .int (x2 + 1)] [] h Q) : wpx d P_Ow_word 49 [.ref r0, .int x1, .int x2] [] h Q := by
  refine st_iinc (pc' := 52) (v := 1) (ls' := [.ref r0, .int x1, .int (x2 + 1)]) rfl rfl rfl (by decide) rfl ?_
  exact st_goto rfl k
theorem B_Ow_word_55 {d : Nat} {h : PH} {Q : PQ} {r0 : Nat} {x1 : Int32} {x2 : Int32} {a0 : Nat} (hs0 : h_sh h r0 = some (0, 11)) (hr1 : h_r h r0 4 = some a0) (hs2 : h_sh h a0 = some (0, 10)) (k : wpm d 106 [.ref a0] h (fun r h' => wpx d P_Ow_word 62 [.ref r0, .int x1, .int x2] (r.toList ++ []) h' Q)) : wpx d P_Ow_word 55 [.ref r0, .int x1, .int x2] [] h Q := by
  refine st_aload (pc' := 56) rfl rfl rfl ?_
  refine st_getfr (x := some a0) (Or.inl rfl) rfl hs0 rfl hr1 (pc' := 59) rfl ?_
  exact st_call (pc' := 62) (as := [.ref a0]) (rest := []) rfl rfl (Nat.le_of_ble_eq_true rfl) rfl rfl (Nat.le_of_ble_eq_true rfl) (kd := 1) (o := 10) rfl rfl (beq_iff_eq.mpr hs2) k
theorem B_Ow_word_62 {d : Nat} {h : PH} {Q : PQ} {r0 : Nat} {x1 : Int32} {x2 : Int32}  (k : wpx d P_Ow_word 64 [.ref r0, .int x1, .int 0] [] h Q) : wpx d P_Ow_word 62 [.ref r0, .int x1, .int x2] [] h Q := by
  refine st_ipush (pc' := 63) (v := 0) rfl rfl (by decide) ?_
  refine st_istore (pc' := 64) (ls' := [.ref r0, .int x1, .int 0]) rfl rfl (Nat.le_of_ble_eq_true rfl) rfl ?_
  exact k
theorem B_Ow_word_64 {d : Nat} {h : PH} {Q : PQ} {r0 : Nat} {x1 : Int32} {x2 : Int32}  (kt : x1 ≤ x2 → wpx d P_Ow_word 91 [.ref r0, .int x1, .int x2] [] h Q) (kf : ¬ (x1 ≤ x2) → wpx d P_Ow_word 69 [.ref r0, .int x1, .int x2] [] h Q) : wpx d P_Ow_word 64 [.ref r0, .int x1, .int x2] [] h Q := by
  refine st_iload (pc' := 65) rfl rfl rfl ?_
  refine st_iload (pc' := 66) rfl rfl rfl ?_
  exact st_icmp_ge (pc' := 69) rfl rfl kt kf
theorem B_Ow_word_69 {d : Nat} {h : PH} {Q : PQ} {r0 : Nat} {x1 : Int32} {x2 : Int32} {a0 : Nat} {a1 : Nat} {n2 : Nat} (hs0 : h_sh h r0 = some (0, 11)) (hr1 : h_r h r0 4 = some a0) (hr2 : h_r h r0 0 = some a1) (hs3 : h_sh h a1 = some (2, n2)) (hb4 : vp_in x2 n2) (hs5 : h_sh h a0 = some (0, 10)) (k : wpm d 107 [.ref a0, .int ((h_i h a1 x2.toNatClampNeg) - (96 : Int32))] h (fun r h' => wpx d P_Ow_word 85 [.ref r0, .int x1, .int x2] (r.toList ++ []) h' Q)) : wpx d P_Ow_word 69 [.ref r0, .int x1, .int x2] [] h Q := by
  refine st_aload (pc' := 70) rfl rfl rfl ?_
  refine st_getfr (x := some a0) (Or.inl rfl) rfl hs0 rfl hr1 (pc' := 73) rfl ?_
  refine st_aload (pc' := 74) rfl rfl rfl ?_
  refine st_getfr (x := some a1) (Or.inl rfl) rfl hs0 rfl hr2 (pc' := 77) rfl ?_
  refine st_iload (pc' := 78) rfl rfl rfl ?_
  refine st_baload rfl (Or.inl hs3) hb4 (j := x2.toNatClampNeg) rfl (pc' := 79) rfl ?_
  refine st_ipush (pc' := 81) (v := 96) rfl rfl (by decide) ?_
  refine st_isub (pc' := 82) rfl rfl ?_
  exact st_call (pc' := 85) (as := [.ref a0, .int ((h_i h a1 x2.toNatClampNeg) - (96 : Int32))]) (rest := []) rfl rfl (Nat.le_of_ble_eq_true rfl) rfl rfl (Nat.le_of_ble_eq_true rfl) (kd := 1) (o := 10) rfl rfl (beq_iff_eq.mpr hs5) k
theorem B_Ow_word_85 {d : Nat} {h : PH} {Q : PQ} {r0 : Nat} {x1 : Int32} {x2 : Int32}  (k : wpx d P_Ow_word 64 [.ref r0, .int x1, .int (x2 + 1)] [] h Q) : wpx d P_Ow_word 85 [.ref r0, .int x1, .int x2] [] h Q := by
  refine st_iinc (pc' := 88) (v := 1) (ls' := [.ref r0, .int x1, .int (x2 + 1)]) rfl rfl rfl (by decide) rfl ?_
  exact st_goto rfl k
theorem B_Ow_word_91 {d : Nat} {h : PH} {Q : PQ} {r0 : Nat} {x1 : Int32} {x2 : Int32}  (k : Q (some (.int x1)) h) : wpx d P_Ow_word 91 [.ref r0, .int x1, .int x2] [] h Q := by
  refine st_iload (pc' := 92) rfl rfl rfl ?_
  exact st_ireturn (ty := .int) rfl rfl rfl k
theorem B_Ow_letter_0 {d : Nat} {h : PH} {Q : PQ} {r0 : Nat} {x1 : Int32}  (kt : x1 < 0 → wpx d P_Ow_letter 30 [.ref r0, .int x1] [] h Q) (kf : ¬ (x1 < 0) → wpx d P_Ow_letter 4 [.ref r0, .int x1] [] h Q) : wpx d P_Ow_letter 0 [.ref r0, .int x1] [] h Q := by
  refine st_iload (pc' := 1) rfl rfl rfl ?_
  exact st_if_lt (pc' := 4) rfl rfl kt kf
theorem B_Ow_letter_4 {d : Nat} {h : PH} {Q : PQ} {r0 : Nat} {x1 : Int32} {a0 : Nat} (hs0 : h_sh h r0 = some (0, 11)) (hr1 : h_r h r0 4 = some a0) (hs2 : h_sh h a0 = some (0, 10)) (kt : (h_i h a0 1) ≤ x1 → wpx d P_Ow_letter 30 [.ref r0, .int x1] [] h Q) (kf : ¬ ((h_i h a0 1) ≤ x1) → wpx d P_Ow_letter 15 [.ref r0, .int x1] [] h Q) : wpx d P_Ow_letter 4 [.ref r0, .int x1] [] h Q := by
  refine st_iload (pc' := 5) rfl rfl rfl ?_
  refine st_aload (pc' := 6) rfl rfl rfl ?_
  refine st_getfr (x := some a0) (Or.inl rfl) rfl hs0 rfl hr1 (pc' := 9) rfl ?_
  refine st_getfi (Or.inr rfl) rfl hs2 rfl (pc' := 12) rfl ?_
  exact st_icmp_ge (pc' := 15) rfl rfl kt kf
theorem B_Ow_letter_15 {d : Nat} {h : PH} {Q : PQ} {r0 : Nat} {x1 : Int32} {a0 : Nat} {a1 : Nat} {n2 : Nat} (hs0 : h_sh h r0 = some (0, 11)) (hr1 : h_r h r0 4 = some a0) (hs2 : h_sh h a0 = some (0, 10)) (hr3 : h_r h a0 0 = some a1) (hs4 : h_sh h a1 = some (2, n2)) (hb5 : vp_in x1 n2) (k : wpx d P_Ow_letter 31 [.ref r0, .int x1] [.int ((h_i h a1 x1.toNatClampNeg) + (96 : Int32))] h Q) : wpx d P_Ow_letter 15 [.ref r0, .int x1] [] h Q := by
  refine st_aload (pc' := 16) rfl rfl rfl ?_
  refine st_getfr (x := some a0) (Or.inl rfl) rfl hs0 rfl hr1 (pc' := 19) rfl ?_
  refine st_getfr (x := some a1) (Or.inr rfl) rfl hs2 rfl hr3 (pc' := 22) rfl ?_
  refine st_iload (pc' := 23) rfl rfl rfl ?_
  refine st_baload rfl (Or.inl hs4) hb5 (j := x1.toNatClampNeg) rfl (pc' := 24) rfl ?_
  refine st_ipush (pc' := 26) (v := 96) rfl rfl (by decide) ?_
  refine st_iadd (pc' := 27) rfl rfl ?_
  exact st_goto rfl k
theorem B_Ow_letter_30 {d : Nat} {h : PH} {Q : PQ} {r0 : Nat} {x1 : Int32}  (k : wpx d P_Ow_letter 31 [.ref r0, .int x1] [.int (-1)] h Q) : wpx d P_Ow_letter 30 [.ref r0, .int x1] [] h Q := by
  refine st_ipush (pc' := 31) (v := (-1)) rfl rfl (by decide) ?_
  exact k
theorem B_Ow_letter_31 {d : Nat} {h : PH} {Q : PQ} {r0 : Nat} {x1 : Int32} {s0 : Int32}  (k : Q (some (.int s0)) h) : wpx d P_Ow_letter 31 [.ref r0, .int x1] [.int s0] h Q := by
  exact st_ireturn (ty := .int) rfl rfl rfl k
theorem B_Ow_readings_0 {d : Nat} {h : PH} {Q : PQ} {r0 : Nat} {a0 : Nat} {a1 : Nat} (hs0 : h_sh h r0 = some (0, 11)) (hr1 : h_r h r0 4 = some a0) (hr2 : h_r h r0 2 = some a1) (hs3 : h_sh h a0 = some (0, 10)) (k : wpm d 111 [.ref a0, .ref a1] h (fun r h' => wpx d P_Ow_readings 11 [.ref r0] (r.toList ++ []) h' Q)) : wpx d P_Ow_readings 0 [.ref r0] [] h Q := by
  refine st_aload (pc' := 1) rfl rfl rfl ?_
  refine st_getfr (x := some a0) (Or.inl rfl) rfl hs0 rfl hr1 (pc' := 4) rfl ?_
  refine st_aload (pc' := 5) rfl rfl rfl ?_
  refine st_getfr (x := some a1) (Or.inl rfl) rfl hs0 rfl hr2 (pc' := 8) rfl ?_
  exact st_call (pc' := 11) (as := [.ref a0, .ref a1]) (rest := []) rfl rfl (Nat.le_of_ble_eq_true rfl) rfl rfl (Nat.le_of_ble_eq_true rfl) (kd := 1) (o := 10) rfl rfl (beq_iff_eq.mpr hs3) k
theorem B_Ow_readings_11 {d : Nat} {h : PH} {Q : PQ} {r0 : Nat} {a0 : Nat} {a1 : Nat} {n2 : Nat} (hs0 : h_sh h r0 = some (0, 11)) (hr1 : h_r h r0 4 = some a0) (hs2 : h_sh h a0 = some (0, 10)) (hr3 : h_r h a0 2 = some a1) (hs4 : h_sh h a1 = some (4, n2)) (hb5 : vp_in 0 n2) (k : Q (some (.long (h_l h a1 0))) h) : wpx d P_Ow_readings 11 [.ref r0] [] h Q := by
  refine st_aload (pc' := 12) rfl rfl rfl ?_
  refine st_getfr (x := some a0) (Or.inl rfl) rfl hs0 rfl hr1 (pc' := 15) rfl ?_
  refine st_getfr (x := some a1) (Or.inr rfl) rfl hs2 rfl hr3 (pc' := 18) rfl ?_
  refine st_ipush (pc' := 19) (v := 0) rfl rfl (by decide) ?_
  refine st_laload rfl hs4 hb5 (j := 0) (by decide) (pc' := 20) rfl ?_
  exact st_lreturn rfl k
theorem B_Ow_reading_0 {d : Nat} {h : PH} {Q : PQ} {r0 : Nat} {x1 : Int32} {x2 : Int32} {a0 : Nat} {a1 : Nat} (hs0 : h_sh h r0 = some (0, 11)) (hr1 : h_r h r0 4 = some a0) (hr2 : h_r h r0 2 = some a1) (hs3 : h_sh h a0 = some (0, 10)) (k : wpm d 113 [.ref a0, .ref a1, .int x1, .int x2] h (fun r h' => wpx d P_Ow_reading 13 [.ref r0, .int x1, .int x2] (r.toList ++ []) h' Q)) : wpx d P_Ow_reading 0 [.ref r0, .int x1, .int x2] [] h Q := by
  refine st_aload (pc' := 1) rfl rfl rfl ?_
  refine st_getfr (x := some a0) (Or.inl rfl) rfl hs0 rfl hr1 (pc' := 4) rfl ?_
  refine st_aload (pc' := 5) rfl rfl rfl ?_
  refine st_getfr (x := some a1) (Or.inl rfl) rfl hs0 rfl hr2 (pc' := 8) rfl ?_
  refine st_iload (pc' := 9) rfl rfl rfl ?_
  refine st_iload (pc' := 10) rfl rfl rfl ?_
  exact st_call (pc' := 13) (as := [.ref a0, .ref a1, .int x1, .int x2]) (rest := []) rfl rfl (Nat.le_of_ble_eq_true rfl) rfl rfl (Nat.le_of_ble_eq_true rfl) (kd := 1) (o := 10) rfl rfl (beq_iff_eq.mpr hs3) k
theorem B_Ow_reading_13 {d : Nat} {h : PH} {Q : PQ} {r0 : Nat} {x1 : Int32} {x2 : Int32} {s0 : Int32}  (k : Q (some (.int s0)) h) : wpx d P_Ow_reading 13 [.ref r0, .int x1, .int x2] [.int s0] h Q := by
  exact st_ireturn (ty := .int) rfl rfl rfl k
theorem B_Ow_sounds_0 {d : Nat} {h : PH} {Q : PQ} {r0 : Nat} {a0 : Nat} {a1 : Nat} (hs0 : h_sh h r0 = some (0, 11)) (hr1 : h_r h r0 4 = some a0) (hr2 : h_r h r0 2 = some a1) (hs3 : h_sh h a0 = some (0, 10)) (k : wpm d 115 [.ref a0, .ref a1] h (fun r h' => wpx d P_Ow_sounds 11 [.ref r0] (r.toList ++ []) h' Q)) : wpx d P_Ow_sounds 0 [.ref r0] [] h Q := by
  refine st_aload (pc' := 1) rfl rfl rfl ?_
  refine st_getfr (x := some a0) (Or.inl rfl) rfl hs0 rfl hr1 (pc' := 4) rfl ?_
  refine st_aload (pc' := 5) rfl rfl rfl ?_
  refine st_getfr (x := some a1) (Or.inl rfl) rfl hs0 rfl hr2 (pc' := 8) rfl ?_
  exact st_call (pc' := 11) (as := [.ref a0, .ref a1]) (rest := []) rfl rfl (Nat.le_of_ble_eq_true rfl) rfl rfl (Nat.le_of_ble_eq_true rfl) (kd := 1) (o := 10) rfl rfl (beq_iff_eq.mpr hs3) k
theorem B_Ow_sounds_11 {d : Nat} {h : PH} {Q : PQ} {r0 : Nat} {s0 : Int32}  (k : Q (some (.int s0)) h) : wpx d P_Ow_sounds 11 [.ref r0] [.int s0] h Q := by
  exact st_ireturn (ty := .int) rfl rfl rfl k
theorem B_Ow_reads_0 {d : Nat} {h : PH} {Q : PQ} {r0 : Nat} {x1 : Int32}  (k : wpm d 49 [.int x1] h (fun r h' => wpx d P_Ow_reads 4 [.ref r0, .int x1] (r.toList ++ []) h' Q)) : wpx d P_Ow_reads 0 [.ref r0, .int x1] [] h Q := by
  refine st_iload (pc' := 1) rfl rfl rfl ?_
  exact st_call (pc' := 4) (as := [.int x1]) (rest := []) rfl rfl (Nat.le_of_ble_eq_true rfl) rfl rfl (Nat.le_of_ble_eq_true rfl) (kd := 0) (o := 4) rfl rfl rfl k
theorem B_Ow_reads_4 {d : Nat} {h : PH} {Q : PQ} {r0 : Nat} {x1 : Int32} {s0 : Int32}  (kt : s0 = 0 → wpx d P_Ow_reads 26 [.ref r0, .int x1] [] h Q) (kf : ¬ (s0 = 0) → wpx d P_Ow_reads 7 [.ref r0, .int x1] [] h Q) : wpx d P_Ow_reads 4 [.ref r0, .int x1] [.int s0] h Q := by
  exact st_if_eq (pc' := 7) rfl rfl kt kf
theorem B_Ow_reads_7 {d : Nat} {h : PH} {Q : PQ} {r0 : Nat} {x1 : Int32} (hs0 : h_sh h r0 = some (0, 11)) (k : wpm d 156 [.ref r0] h (fun r h' => wpx d P_Ow_reads 11 [.ref r0, .int x1] (r.toList ++ []) h' Q)) : wpx d P_Ow_reads 7 [.ref r0, .int x1] [] h Q := by
  refine st_aload (pc' := 8) rfl rfl rfl ?_
  exact st_call (pc' := 11) (as := [.ref r0]) (rest := []) rfl rfl (Nat.le_of_ble_eq_true rfl) rfl rfl (Nat.le_of_ble_eq_true rfl) (kd := 1) (o := 11) rfl rfl (beq_iff_eq.mpr hs0) k
theorem B_Ow_reads_11 {d : Nat} {h : PH} {Q : PQ} {r0 : Nat} {x1 : Int32} {q0 : Nat} {a0 : Nat} {a1 : Nat} (hs0 : h_sh h r0 = some (0, 11)) (hr1 : h_r h r0 4 = some a0) (hr2 : h_r h r0 2 = some a1) (hs3 : h_sh h q0 = some (0, 4)) (k : wpm d 52 [.ref q0, .ref a0, .ref a1, .int x1] h (fun r h' => wpx d P_Ow_reads 23 [.ref r0, .int x1] (r.toList ++ []) h' Q)) : wpx d P_Ow_reads 11 [.ref r0, .int x1] [.ref q0] h Q := by
  refine st_aload (pc' := 12) rfl rfl rfl ?_
  refine st_getfr (x := some a0) (Or.inl rfl) rfl hs0 rfl hr1 (pc' := 15) rfl ?_
  refine st_aload (pc' := 16) rfl rfl rfl ?_
  refine st_getfr (x := some a1) (Or.inl rfl) rfl hs0 rfl hr2 (pc' := 19) rfl ?_
  refine st_iload (pc' := 20) rfl rfl rfl ?_
  exact st_call (pc' := 23) (as := [.ref q0, .ref a0, .ref a1, .int x1]) (rest := []) rfl rfl (Nat.le_of_ble_eq_true rfl) rfl rfl (Nat.le_of_ble_eq_true rfl) (kd := 1) (o := 4) rfl rfl (beq_iff_eq.mpr hs3) k
theorem B_Ow_reads_23 {d : Nat} {h : PH} {Q : PQ} {r0 : Nat} {x1 : Int32} {s0 : Int32}  (k : wpx d P_Ow_reads 28 [.ref r0, .int x1] [.int s0] h Q) : wpx d P_Ow_reads 23 [.ref r0, .int x1] [.int s0] h Q := by
  exact st_goto rfl k
theorem B_Ow_reads_26 {d : Nat} {h : PH} {Q : PQ} {r0 : Nat} {x1 : Int32}  (k : wpx d P_Ow_reads 28 [.ref r0, .int x1] [.int (-2)] h Q) : wpx d P_Ow_reads 26 [.ref r0, .int x1] [] h Q := by
  refine st_ipush (pc' := 28) (v := (-2)) rfl rfl (by decide) ?_
  exact k
theorem B_Ow_reads_28 {d : Nat} {h : PH} {Q : PQ} {r0 : Nat} {x1 : Int32} {s0 : Int32}  (k : Q (some (.int s0)) h) : wpx d P_Ow_reads 28 [.ref r0, .int x1] [.int s0] h Q := by
  exact st_ireturn (ty := .int) rfl rfl rfl k
theorem B_Ow_took_0 {d : Nat} {h : PH} {Q : PQ} {r0 : Nat} {x1 : Int32} {x2 : Int32}  (k : wpm d 49 [.int x1] h (fun r h' => wpx d P_Ow_took 4 [.ref r0, .int x1, .int x2] (r.toList ++ []) h' Q)) : wpx d P_Ow_took 0 [.ref r0, .int x1, .int x2] [] h Q := by
  refine st_iload (pc' := 1) rfl rfl rfl ?_
  exact st_call (pc' := 4) (as := [.int x1]) (rest := []) rfl rfl (Nat.le_of_ble_eq_true rfl) rfl rfl (Nat.le_of_ble_eq_true rfl) (kd := 0) (o := 4) rfl rfl rfl k
theorem B_Ow_took_4 {d : Nat} {h : PH} {Q : PQ} {r0 : Nat} {x1 : Int32} {x2 : Int32} {s0 : Int32}  (kt : s0 = 0 → wpx d P_Ow_took 27 [.ref r0, .int x1, .int x2] [] h Q) (kf : ¬ (s0 = 0) → wpx d P_Ow_took 7 [.ref r0, .int x1, .int x2] [] h Q) : wpx d P_Ow_took 4 [.ref r0, .int x1, .int x2] [.int s0] h Q := by
  exact st_if_eq (pc' := 7) rfl rfl kt kf
theorem B_Ow_took_7 {d : Nat} {h : PH} {Q : PQ} {r0 : Nat} {x1 : Int32} {x2 : Int32} (hs0 : h_sh h r0 = some (0, 11)) (k : wpm d 156 [.ref r0] h (fun r h' => wpx d P_Ow_took 11 [.ref r0, .int x1, .int x2] (r.toList ++ []) h' Q)) : wpx d P_Ow_took 7 [.ref r0, .int x1, .int x2] [] h Q := by
  refine st_aload (pc' := 8) rfl rfl rfl ?_
  exact st_call (pc' := 11) (as := [.ref r0]) (rest := []) rfl rfl (Nat.le_of_ble_eq_true rfl) rfl rfl (Nat.le_of_ble_eq_true rfl) (kd := 1) (o := 11) rfl rfl (beq_iff_eq.mpr hs0) k
theorem B_Ow_took_11 {d : Nat} {h : PH} {Q : PQ} {r0 : Nat} {x1 : Int32} {x2 : Int32} {q0 : Nat} {a0 : Nat} {a1 : Nat} (hs0 : h_sh h r0 = some (0, 11)) (hr1 : h_r h r0 4 = some a0) (hr2 : h_r h r0 2 = some a1) (hs3 : h_sh h q0 = some (0, 4)) (k : wpm d 53 [.ref q0, .ref a0, .ref a1, .int x1, .int x2] h (fun r h' => wpx d P_Ow_took 24 [.ref r0, .int x1, .int x2] (r.toList ++ []) h' Q)) : wpx d P_Ow_took 11 [.ref r0, .int x1, .int x2] [.ref q0] h Q := by
  refine st_aload (pc' := 12) rfl rfl rfl ?_
  refine st_getfr (x := some a0) (Or.inl rfl) rfl hs0 rfl hr1 (pc' := 15) rfl ?_
  refine st_aload (pc' := 16) rfl rfl rfl ?_
  refine st_getfr (x := some a1) (Or.inl rfl) rfl hs0 rfl hr2 (pc' := 19) rfl ?_
  refine st_iload (pc' := 20) rfl rfl rfl ?_
  refine st_iload (pc' := 21) rfl rfl rfl ?_
  exact st_call (pc' := 24) (as := [.ref q0, .ref a0, .ref a1, .int x1, .int x2]) (rest := []) rfl rfl (Nat.le_of_ble_eq_true rfl) rfl rfl (Nat.le_of_ble_eq_true rfl) (kd := 1) (o := 4) rfl rfl (beq_iff_eq.mpr hs3) k
theorem B_Ow_took_24 {d : Nat} {h : PH} {Q : PQ} {r0 : Nat} {x1 : Int32} {x2 : Int32} {s0 : Int32}  (k : wpx d P_Ow_took 28 [.ref r0, .int x1, .int x2] [.int s0] h Q) : wpx d P_Ow_took 24 [.ref r0, .int x1, .int x2] [.int s0] h Q := by
  exact st_goto rfl k
theorem B_Ow_took_27 {d : Nat} {h : PH} {Q : PQ} {r0 : Nat} {x1 : Int32} {x2 : Int32}  (k : wpx d P_Ow_took 28 [.ref r0, .int x1, .int x2] [.int (-1)] h Q) : wpx d P_Ow_took 27 [.ref r0, .int x1, .int x2] [] h Q := by
  refine st_ipush (pc' := 28) (v := (-1)) rfl rfl (by decide) ?_
  exact k
theorem B_Ow_took_28 {d : Nat} {h : PH} {Q : PQ} {r0 : Nat} {x1 : Int32} {x2 : Int32} {s0 : Int32}  (k : Q (some (.int s0)) h) : wpx d P_Ow_took 28 [.ref r0, .int x1, .int x2] [.int s0] h Q := by
  exact st_ireturn (ty := .int) rfl rfl rfl k
theorem B_Ow_fool_0 {d : Nat} {h : PH} {Q : PQ} {r0 : Nat} {x1 : Int32} {v2 : Value}  (k : wpm d 49 [.int x1] h (fun r h' => wpx d P_Ow_fool 4 [.ref r0, .int x1, v2] (r.toList ++ []) h' Q)) : wpx d P_Ow_fool 0 [.ref r0, .int x1, v2] [] h Q := by
  refine st_iload (pc' := 1) rfl rfl rfl ?_
  exact st_call (pc' := 4) (as := [.int x1]) (rest := []) rfl rfl (Nat.le_of_ble_eq_true rfl) rfl rfl (Nat.le_of_ble_eq_true rfl) (kd := 0) (o := 4) rfl rfl rfl k
theorem B_Ow_fool_4 {d : Nat} {h : PH} {Q : PQ} {r0 : Nat} {x1 : Int32} {v2 : Value} {s0 : Int32}  (kt : ¬ (s0 = 0) → wpx d P_Ow_fool 10 [.ref r0, .int x1, v2] [] h Q) (kf : s0 = 0 → wpx d P_Ow_fool 7 [.ref r0, .int x1, v2] [] h Q) : wpx d P_Ow_fool 4 [.ref r0, .int x1, v2] [.int s0] h Q := by
  exact st_if_ne (pc' := 7) rfl rfl kt kf
theorem B_Ow_fool_7 {d : Nat} {h : PH} {Q : PQ} {r0 : Nat} {x1 : Int32} {v2 : Value}  (k : Q (some (.int (-2))) h) : wpx d P_Ow_fool 7 [.ref r0, .int x1, v2] [] h Q := by
  refine st_ipush (pc' := 9) (v := (-2)) rfl rfl (by decide) ?_
  exact st_ireturn (ty := .int) rfl rfl rfl k
theorem B_Ow_fool_10 {d : Nat} {h : PH} {Q : PQ} {r0 : Nat} {x1 : Int32} {v2 : Value} (hs0 : h_sh h r0 = some (0, 11)) (k : wpm d 156 [.ref r0] h (fun r h' => wpx d P_Ow_fool 14 [.ref r0, .int x1, v2] (r.toList ++ []) h' Q)) : wpx d P_Ow_fool 10 [.ref r0, .int x1, v2] [] h Q := by
  refine st_aload (pc' := 11) rfl rfl rfl ?_
  exact st_call (pc' := 14) (as := [.ref r0]) (rest := []) rfl rfl (Nat.le_of_ble_eq_true rfl) rfl rfl (Nat.le_of_ble_eq_true rfl) (kd := 1) (o := 11) rfl rfl (beq_iff_eq.mpr hs0) k
theorem B_Ow_fool_14 {d : Nat} {h : PH} {Q : PQ} {r0 : Nat} {x1 : Int32} {v2 : Value} {q0 : Nat} {a0 : Nat} (hs0 : h_sh h r0 = some (0, 11)) (hr1 : h_r h r0 2 = some a0) (hs2 : h_sh h q0 = some (0, 4)) (k : wpm d 54 [.ref q0, .ref a0, .int x1] h (fun r h' => wpx d P_Ow_fool 24 [.ref r0, .int x1, .ref q0] (r.toList ++ []) h' Q)) : wpx d P_Ow_fool 14 [.ref r0, .int x1, v2] [.ref q0] h Q := by
  refine st_astore (pc' := 15) (ls' := [.ref r0, .int x1, .ref q0]) rfl rfl (Nat.le_of_ble_eq_true rfl) rfl ?_
  refine st_aload (pc' := 16) rfl rfl rfl ?_
  refine st_aload (pc' := 17) rfl rfl rfl ?_
  refine st_getfr (x := some a0) (Or.inl rfl) rfl hs0 rfl hr1 (pc' := 20) rfl ?_
  refine st_iload (pc' := 21) rfl rfl rfl ?_
  exact st_call (pc' := 24) (as := [.ref q0, .ref a0, .int x1]) (rest := []) rfl rfl (Nat.le_of_ble_eq_true rfl) rfl rfl (Nat.le_of_ble_eq_true rfl) (kd := 1) (o := 4) rfl rfl (beq_iff_eq.mpr hs2) k
theorem B_Ow_fool_24 {d : Nat} {h : PH} {Q : PQ} {r0 : Nat} {x1 : Int32} {r2 : Nat} {s0 : Int32}  (kt : ¬ (s0 = 0) → wpx d P_Ow_fool 29 [.ref r0, .int x1, .ref r2] [] h Q) (kf : s0 = 0 → wpx d P_Ow_fool 27 [.ref r0, .int x1, .ref r2] [] h Q) : wpx d P_Ow_fool 24 [.ref r0, .int x1, .ref r2] [.int s0] h Q := by
  exact st_if_ne (pc' := 27) rfl rfl kt kf
theorem B_Ow_fool_27 {d : Nat} {h : PH} {Q : PQ} {r0 : Nat} {x1 : Int32} {r2 : Nat}  (k : Q (some (.int (-1))) h) : wpx d P_Ow_fool 27 [.ref r0, .int x1, .ref r2] [] h Q := by
  refine st_ipush (pc' := 28) (v := (-1)) rfl rfl (by decide) ?_
  exact st_ireturn (ty := .int) rfl rfl rfl k
theorem B_Ow_fool_29 {d : Nat} {h : PH} {Q : PQ} {r0 : Nat} {x1 : Int32} {r2 : Nat} {a0 : Nat} (hs0 : h_sh h r0 = some (0, 11)) (hr1 : h_r h r0 4 = some a0) (hs2 : h_sh h r2 = some (0, 4)) (k : wpm d 60 [.ref r2, .ref a0] h (fun r h' => wpx d P_Ow_fool 37 [.ref r0, .int x1, .ref r2] (r.toList ++ []) h' Q)) : wpx d P_Ow_fool 29 [.ref r0, .int x1, .ref r2] [] h Q := by
  refine st_aload (pc' := 30) rfl rfl rfl ?_
  refine st_aload (pc' := 31) rfl rfl rfl ?_
  refine st_getfr (x := some a0) (Or.inl rfl) rfl hs0 rfl hr1 (pc' := 34) rfl ?_
  exact st_call (pc' := 37) (as := [.ref r2, .ref a0]) (rest := []) rfl rfl (Nat.le_of_ble_eq_true rfl) rfl rfl (Nat.le_of_ble_eq_true rfl) (kd := 1) (o := 4) rfl rfl (beq_iff_eq.mpr hs2) k
theorem B_Ow_fool_37 {d : Nat} {h : PH} {Q : PQ} {r0 : Nat} {x1 : Int32} {r2 : Nat} {a0 : Nat} (hs0 : h_sh h r0 = some (0, 11)) (hr1 : h_r h r0 4 = some a0) (hs2 : h_sh h a0 = some (0, 10)) (k : Q (some (.int (h_i h a0 1))) h) : wpx d P_Ow_fool 37 [.ref r0, .int x1, .ref r2] [] h Q := by
  refine st_aload (pc' := 38) rfl rfl rfl ?_
  refine st_getfr (x := some a0) (Or.inl rfl) rfl hs0 rfl hr1 (pc' := 41) rfl ?_
  refine st_getfi (Or.inr rfl) rfl hs2 rfl (pc' := 44) rfl ?_
  exact st_ireturn (ty := .int) rfl rfl rfl k
theorem B_Ow_goes_0 {d : Nat} {h : PH} {Q : PQ} {r0 : Nat} {a0 : Nat} {a1 : Nat} (hs0 : h_sh h r0 = some (0, 11)) (hr1 : h_r h r0 4 = some a0) (hr2 : h_r h r0 2 = some a1) (hs3 : h_sh h a0 = some (0, 10)) (k : wpm d 116 [.ref a0, .ref a1] h (fun r h' => wpx d P_Ow_goes 11 [.ref r0] (r.toList ++ []) h' Q)) : wpx d P_Ow_goes 0 [.ref r0] [] h Q := by
  refine st_aload (pc' := 1) rfl rfl rfl ?_
  refine st_getfr (x := some a0) (Or.inl rfl) rfl hs0 rfl hr1 (pc' := 4) rfl ?_
  refine st_aload (pc' := 5) rfl rfl rfl ?_
  refine st_getfr (x := some a1) (Or.inl rfl) rfl hs0 rfl hr2 (pc' := 8) rfl ?_
  exact st_call (pc' := 11) (as := [.ref a0, .ref a1]) (rest := []) rfl rfl (Nat.le_of_ble_eq_true rfl) rfl rfl (Nat.le_of_ble_eq_true rfl) (kd := 1) (o := 10) rfl rfl (beq_iff_eq.mpr hs3) k
theorem B_Ow_goes_11 {d : Nat} {h : PH} {Q : PQ} {r0 : Nat} {s0 : Int32}  (k : Q (some (.int s0)) h) : wpx d P_Ow_goes 11 [.ref r0] [.int s0] h Q := by
  exact st_ireturn (ty := .int) rfl rfl rfl k
theorem B_Ow_spell_0 {d : Nat} {h : PH} {Q : PQ} {r0 : Nat} {x1 : Int32} {x2 : Int32} {x3 : Int32} {x4 : Int32} (hs0 : h_sh h r0 = some (0, 11)) (kt : ∀ a, h_r h r0 9 = some a → wpx d P_Ow_spell 18 [.ref r0, .int x1, .int x2, .int x3, .int x4] [] h Q) (kf : h_r h r0 9 = none → wpx d P_Ow_spell 7 [.ref r0, .int x1, .int x2, .int x3, .int x4] [] h Q) : wpx d P_Ow_spell 0 [.ref r0, .int x1, .int x2, .int x3, .int x4] [] h Q := by
  refine st_aload (pc' := 1) rfl rfl rfl ?_
  refine st_getfr (x := h_r h r0 9) (Or.inl rfl) rfl hs0 rfl rfl (pc' := 4) rfl ?_
  exact st_nonnull rfl kt (pc' := 7) rfl kf
theorem B_Ow_spell_7 {d : Nat} {h : PH} {Q : PQ} {r0 : Nat} {x1 : Int32} {x2 : Int32} {x3 : Int32} {x4 : Int32}  (k : wpm d 61 [.ref (h_ct h)] (h_new h (0, 5) (fN 5)) (fun r h' => wpx d P_Ow_spell 15 [.ref r0, .int x1, .int x2, .int x3, .int x4] (r.toList ++ [.ref (h_ct h), .ref r0]) h' Q)) : wpx d P_Ow_spell 7 [.ref r0, .int x1, .int x2, .int x3, .int x4] [] h Q := by
  refine st_aload (pc' := 8) rfl rfl rfl ?_
  refine st_new rfl (pc' := 11) rfl ?_
  refine st_dup (pc' := 12) rfl rfl rfl ?_
  exact st_call (pc' := 15) (as := [.ref (h_ct h)]) (rest := [.ref (h_ct h), .ref r0]) rfl rfl (Nat.le_of_ble_eq_true rfl) rfl rfl (Nat.le_of_ble_eq_true rfl) (kd := 2) (o := 5) rfl rfl rfl k
theorem B_Ow_spell_15 {d : Nat} {h : PH} {Q : PQ} {r0 : Nat} {x1 : Int32} {x2 : Int32} {x3 : Int32} {x4 : Int32} {q0 : Nat} {q1 : Nat} (hs0 : h_sh h q0 = some (0, 11)) (k : wpx d P_Ow_spell 18 [.ref r0, .int x1, .int x2, .int x3, .int x4] [] (w_r h q0 9 (some q1)) Q) : wpx d P_Ow_spell 15 [.ref r0, .int x1, .int x2, .int x3, .int x4] [.ref q1, .ref q0] h Q := by
  refine st_putf (h' := w_r h q0 9 (some q1)) (Or.inl rfl) rfl hs0 rfl rfl rfl (pc' := 18) rfl ?_
  exact k
theorem B_Ow_spell_18 {d : Nat} {h : PH} {Q : PQ} {r0 : Nat} {x1 : Int32} {x2 : Int32} {x3 : Int32} {x4 : Int32} {a0 : Nat} {a1 : Nat} (hs0 : h_sh h r0 = some (0, 11)) (hr1 : h_r h r0 9 = some a0) (hr2 : h_r h r0 2 = some a1) (hs3 : h_sh h a0 = some (0, 5)) (k : wpm d 62 [.ref a0, .ref a1, .int x1, .int x2, .int x3, .int x4] h (fun r h' => wpx d P_Ow_spell 34 [.ref r0, .int x1, .int x2, .int x3, .int x4] (r.toList ++ []) h' Q)) : wpx d P_Ow_spell 18 [.ref r0, .int x1, .int x2, .int x3, .int x4] [] h Q := by
  refine st_aload (pc' := 19) rfl rfl rfl ?_
  refine st_getfr (x := some a0) (Or.inl rfl) rfl hs0 rfl hr1 (pc' := 22) rfl ?_
  refine st_aload (pc' := 23) rfl rfl rfl ?_
  refine st_getfr (x := some a1) (Or.inl rfl) rfl hs0 rfl hr2 (pc' := 26) rfl ?_
  refine st_iload (pc' := 27) rfl rfl rfl ?_
  refine st_iload (pc' := 28) rfl rfl rfl ?_
  refine st_iload (pc' := 29) rfl rfl rfl ?_
  refine st_iload (pc' := 31) rfl rfl rfl ?_
  exact st_call (pc' := 34) (as := [.ref a0, .ref a1, .int x1, .int x2, .int x3, .int x4]) (rest := []) rfl rfl (Nat.le_of_ble_eq_true rfl) rfl rfl (Nat.le_of_ble_eq_true rfl) (kd := 1) (o := 5) rfl rfl (beq_iff_eq.mpr hs3) k
theorem B_Ow_spell_34 {d : Nat} {h : PH} {Q : PQ} {r0 : Nat} {x1 : Int32} {x2 : Int32} {x3 : Int32} {x4 : Int32} {s0 : Int32}  (kt : s0 = 0 → wpx d P_Ow_spell 51 [.ref r0, .int x1, .int x2, .int x3, .int x4] [] h Q) (kf : ¬ (s0 = 0) → wpx d P_Ow_spell 37 [.ref r0, .int x1, .int x2, .int x3, .int x4] [] h Q) : wpx d P_Ow_spell 34 [.ref r0, .int x1, .int x2, .int x3, .int x4] [.int s0] h Q := by
  exact st_if_eq (pc' := 37) rfl rfl kt kf
theorem B_Ow_spell_37 {d : Nat} {h : PH} {Q : PQ} {r0 : Nat} {x1 : Int32} {x2 : Int32} {x3 : Int32} {x4 : Int32} {a0 : Nat} {a1 : Nat} (hs0 : h_sh h r0 = some (0, 11)) (hr1 : h_r h r0 9 = some a0) (hr2 : h_r h r0 2 = some a1) (hs3 : h_sh h a0 = some (0, 5)) (k : wpm d 63 [.ref a0, .ref a1] h (fun r h' => wpx d P_Ow_spell 48 [.ref r0, .int x1, .int x2, .int x3, .int x4] (r.toList ++ []) h' Q)) : wpx d P_Ow_spell 37 [.ref r0, .int x1, .int x2, .int x3, .int x4] [] h Q := by
  refine st_aload (pc' := 38) rfl rfl rfl ?_
  refine st_getfr (x := some a0) (Or.inl rfl) rfl hs0 rfl hr1 (pc' := 41) rfl ?_
  refine st_aload (pc' := 42) rfl rfl rfl ?_
  refine st_getfr (x := some a1) (Or.inl rfl) rfl hs0 rfl hr2 (pc' := 45) rfl ?_
  exact st_call (pc' := 48) (as := [.ref a0, .ref a1]) (rest := []) rfl rfl (Nat.le_of_ble_eq_true rfl) rfl rfl (Nat.le_of_ble_eq_true rfl) (kd := 1) (o := 5) rfl rfl (beq_iff_eq.mpr hs3) k
theorem B_Ow_spell_48 {d : Nat} {h : PH} {Q : PQ} {r0 : Nat} {x1 : Int32} {x2 : Int32} {x3 : Int32} {x4 : Int32} {s0 : Int32}  (kt : ¬ (s0 = 0) → wpx d P_Ow_spell 53 [.ref r0, .int x1, .int x2, .int x3, .int x4] [] h Q) (kf : s0 = 0 → wpx d P_Ow_spell 51 [.ref r0, .int x1, .int x2, .int x3, .int x4] [] h Q) : wpx d P_Ow_spell 48 [.ref r0, .int x1, .int x2, .int x3, .int x4] [.int s0] h Q := by
  exact st_if_ne (pc' := 51) rfl rfl kt kf
theorem B_Ow_spell_51 {d : Nat} {h : PH} {Q : PQ} {r0 : Nat} {x1 : Int32} {x2 : Int32} {x3 : Int32} {x4 : Int32}  (k : Q (some (.int (-1))) h) : wpx d P_Ow_spell 51 [.ref r0, .int x1, .int x2, .int x3, .int x4] [] h Q := by
  refine st_ipush (pc' := 52) (v := (-1)) rfl rfl (by decide) ?_
  exact st_ireturn (ty := .int) rfl rfl rfl k
theorem B_Ow_spell_53 {d : Nat} {h : PH} {Q : PQ} {r0 : Nat} {x1 : Int32} {x2 : Int32} {x3 : Int32} {x4 : Int32} {a0 : Nat} {a1 : Nat} {a2 : Nat} (hs0 : h_sh h r0 = some (0, 11)) (hr1 : h_r h r0 9 = some a0) (hr2 : h_r h r0 2 = some a1) (hr3 : h_r h r0 4 = some a2) (hs4 : h_sh h a0 = some (0, 5)) (k : wpm d 67 [.ref a0, .ref a1, .ref a2] h (fun r h' => wpx d P_Ow_spell 68 [.ref r0, .int x1, .int x2, .int x3, .int x4] (r.toList ++ []) h' Q)) : wpx d P_Ow_spell 53 [.ref r0, .int x1, .int x2, .int x3, .int x4] [] h Q := by
  refine st_aload (pc' := 54) rfl rfl rfl ?_
  refine st_getfr (x := some a0) (Or.inl rfl) rfl hs0 rfl hr1 (pc' := 57) rfl ?_
  refine st_aload (pc' := 58) rfl rfl rfl ?_
  refine st_getfr (x := some a1) (Or.inl rfl) rfl hs0 rfl hr2 (pc' := 61) rfl ?_
  refine st_aload (pc' := 62) rfl rfl rfl ?_
  refine st_getfr (x := some a2) (Or.inl rfl) rfl hs0 rfl hr3 (pc' := 65) rfl ?_
  exact st_call (pc' := 68) (as := [.ref a0, .ref a1, .ref a2]) (rest := []) rfl rfl (Nat.le_of_ble_eq_true rfl) rfl rfl (Nat.le_of_ble_eq_true rfl) (kd := 1) (o := 5) rfl rfl (beq_iff_eq.mpr hs4) k
theorem B_Ow_spell_68 {d : Nat} {h : PH} {Q : PQ} {r0 : Nat} {x1 : Int32} {x2 : Int32} {x3 : Int32} {x4 : Int32} {a0 : Nat} (hs0 : h_sh h r0 = some (0, 11)) (hr1 : h_r h r0 4 = some a0) (hs2 : h_sh h a0 = some (0, 10)) (k : Q (some (.int (h_i h a0 1))) h) : wpx d P_Ow_spell 68 [.ref r0, .int x1, .int x2, .int x3, .int x4] [] h Q := by
  refine st_aload (pc' := 69) rfl rfl rfl ?_
  refine st_getfr (x := some a0) (Or.inl rfl) rfl hs0 rfl hr1 (pc' := 72) rfl ?_
  refine st_getfi (Or.inr rfl) rfl hs2 rfl (pc' := 75) rfl ?_
  exact st_ireturn (ty := .int) rfl rfl rfl k
theorem B_Ow_drawn_0 {d : Nat} {h : PH} {Q : PQ} {r0 : Nat} {x1 : Int32} {x2 : Int32} {v3 : Value} {v4 : Value} {v5 : Value} {v6 : Value} {a0 : Nat} (hs0 : h_sh h r0 = some (0, 11)) (hr1 : h_r h r0 2 = some a0) (hs2 : h_sh h a0 = some (0, 3)) (k : wpm d 282 [.int (h_i h a0 5)] h (fun r h' => wpx d P_Ow_drawn 10 [.ref r0, .int x1, .int x2, v3, v4, v5, v6] (r.toList ++ []) h' Q)) : wpx d P_Ow_drawn 0 [.ref r0, .int x1, .int x2, v3, v4, v5, v6] [] h Q := by
  refine st_aload (pc' := 1) rfl rfl rfl ?_
  refine st_getfr (x := some a0) (Or.inl rfl) rfl hs0 rfl hr1 (pc' := 4) rfl ?_
  refine st_getfi (Or.inr rfl) rfl hs2 rfl (pc' := 7) rfl ?_
  exact st_call (pc' := 10) (as := [.int (h_i h a0 5)]) (rest := []) rfl rfl (Nat.le_of_ble_eq_true rfl) rfl rfl (Nat.le_of_ble_eq_true rfl) (kd := 0) (o := 15) rfl rfl rfl k
theorem B_Ow_drawn_10 {d : Nat} {h : PH} {Q : PQ} {r0 : Nat} {x1 : Int32} {x2 : Int32} {v3 : Value} {v4 : Value} {v5 : Value} {v6 : Value} {s0 : Int32}  (kt : s0 < (1 : Int32) → wpx d P_Ow_drawn 26 [.ref r0, .int x1, .int x2, .int s0, v4, v5, v6] [] h Q) (kf : ¬ (s0 < (1 : Int32)) → wpx d P_Ow_drawn 16 [.ref r0, .int x1, .int x2, .int s0, v4, v5, v6] [] h Q) : wpx d P_Ow_drawn 10 [.ref r0, .int x1, .int x2, v3, v4, v5, v6] [.int s0] h Q := by
  refine st_istore (pc' := 11) (ls' := [.ref r0, .int x1, .int x2, .int s0, v4, v5, v6]) rfl rfl (Nat.le_of_ble_eq_true rfl) rfl ?_
  refine st_iload (pc' := 12) rfl rfl rfl ?_
  refine st_ipush (pc' := 13) (v := 1) rfl rfl (by decide) ?_
  exact st_icmp_lt (pc' := 16) rfl rfl kt kf
theorem B_Ow_drawn_16 {d : Nat} {h : PH} {Q : PQ} {r0 : Nat} {x1 : Int32} {x2 : Int32} {x3 : Int32} {v4 : Value} {v5 : Value} {v6 : Value}  (kt : x2 < (1 : Int32) → wpx d P_Ow_drawn 26 [.ref r0, .int x1, .int x2, .int x3, v4, v5, v6] [] h Q) (kf : ¬ (x2 < (1 : Int32)) → wpx d P_Ow_drawn 21 [.ref r0, .int x1, .int x2, .int x3, v4, v5, v6] [] h Q) : wpx d P_Ow_drawn 16 [.ref r0, .int x1, .int x2, .int x3, v4, v5, v6] [] h Q := by
  refine st_iload (pc' := 17) rfl rfl rfl ?_
  refine st_ipush (pc' := 18) (v := 1) rfl rfl (by decide) ?_
  exact st_icmp_lt (pc' := 21) rfl rfl kt kf
theorem B_Ow_drawn_21 {d : Nat} {h : PH} {Q : PQ} {r0 : Nat} {x1 : Int32} {x2 : Int32} {x3 : Int32} {v4 : Value} {v5 : Value} {v6 : Value}  (kt : x2 ≤ (5 : Int32) → wpx d P_Ow_drawn 28 [.ref r0, .int x1, .int x2, .int x3, v4, v5, v6] [] h Q) (kf : ¬ (x2 ≤ (5 : Int32)) → wpx d P_Ow_drawn 26 [.ref r0, .int x1, .int x2, .int x3, v4, v5, v6] [] h Q) : wpx d P_Ow_drawn 21 [.ref r0, .int x1, .int x2, .int x3, v4, v5, v6] [] h Q := by
  refine st_iload (pc' := 22) rfl rfl rfl ?_
  refine st_ipush (pc' := 23) (v := 5) rfl rfl (by decide) ?_
  exact st_icmp_le (pc' := 26) rfl rfl kt kf
theorem B_Ow_drawn_26 {d : Nat} {h : PH} {Q : PQ} {r0 : Nat} {x1 : Int32} {x2 : Int32} {x3 : Int32} {v4 : Value} {v5 : Value} {v6 : Value}  (k : Q (some (.int (-1))) h) : wpx d P_Ow_drawn 26 [.ref r0, .int x1, .int x2, .int x3, v4, v5, v6] [] h Q := by
  refine st_ipush (pc' := 27) (v := (-1)) rfl rfl (by decide) ?_
  exact st_ireturn (ty := .int) rfl rfl rfl k
theorem B_Ow_drawn_28 {d : Nat} {h : PH} {Q : PQ} {r0 : Nat} {x1 : Int32} {x2 : Int32} {x3 : Int32} {v4 : Value} {v5 : Value} {v6 : Value} {a0 : Nat} (hs0 : h_sh h r0 = some (0, 11)) (hr1 : h_r h r0 4 = some a0) (hs2 : h_sh h a0 = some (0, 10)) (k : wpm d 106 [.ref a0] h (fun r h' => wpx d P_Ow_drawn 35 [.ref r0, .int x1, .int x2, .int x3, v4, v5, v6] (r.toList ++ []) h' Q)) : wpx d P_Ow_drawn 28 [.ref r0, .int x1, .int x2, .int x3, v4, v5, v6] [] h Q := by
  refine st_aload (pc' := 29) rfl rfl rfl ?_
  refine st_getfr (x := some a0) (Or.inl rfl) rfl hs0 rfl hr1 (pc' := 32) rfl ?_
  exact st_call (pc' := 35) (as := [.ref a0]) (rest := []) rfl rfl (Nat.le_of_ble_eq_true rfl) rfl rfl (Nat.le_of_ble_eq_true rfl) (kd := 1) (o := 10) rfl rfl (beq_iff_eq.mpr hs2) k
theorem B_Ow_drawn_35 {d : Nat} {h : PH} {Q : PQ} {r0 : Nat} {x1 : Int32} {x2 : Int32} {x3 : Int32} {v4 : Value} {v5 : Value} {v6 : Value}  (k : wpx d P_Ow_drawn 41 [.ref r0, .int x1, .int x2, .int x3, .int x1, .int 0, v6] [] h Q) : wpx d P_Ow_drawn 35 [.ref r0, .int x1, .int x2, .int x3, v4, v5, v6] [] h Q := by
  refine st_iload (pc' := 36) rfl rfl rfl ?_
  refine st_istore (pc' := 38) (ls' := [.ref r0, .int x1, .int x2, .int x3, .int x1, v5, v6]) rfl rfl (Nat.le_of_ble_eq_true rfl) rfl ?_
  refine st_ipush (pc' := 39) (v := 0) rfl rfl (by decide) ?_
  refine st_istore (pc' := 41) (ls' := [.ref r0, .int x1, .int x2, .int x3, .int x1, .int 0, v6]) rfl rfl (Nat.le_of_ble_eq_true rfl) rfl ?_
  exact k
theorem B_Ow_drawn_41 {d : Nat} {h : PH} {Q : PQ} {r0 : Nat} {x1 : Int32} {x2 : Int32} {x3 : Int32} {x4 : Int32} {x5 : Int32} {v6 : Value}  (kt : x2 ≤ x5 → wpx d P_Ow_drawn 113 [.ref r0, .int x1, .int x2, .int x3, .int x4, .int x5, v6] [] h Q) (kf : ¬ (x2 ≤ x5) → wpx d P_Ow_drawn 47 [.ref r0, .int x1, .int x2, .int x3, .int x4, .int x5, v6] [] h Q) : wpx d P_Ow_drawn 41 [.ref r0, .int x1, .int x2, .int x3, .int x4, .int x5, v6] [] h Q := by
  refine st_iload (pc' := 43) rfl rfl rfl ?_
  refine st_iload (pc' := 44) rfl rfl rfl ?_
  exact st_icmp_ge (pc' := 47) rfl rfl kt kf
theorem B_Ow_drawn_47 {d : Nat} {h : PH} {Q : PQ} {r0 : Nat} {x1 : Int32} {x2 : Int32} {x3 : Int32} {x4 : Int32} {x5 : Int32} {v6 : Value} {a0 : Nat} (hs0 : h_sh h r0 = some (0, 11)) (hr1 : h_r h r0 2 = some a0) (hz2 : ¬ x3 = 0) (hs3 : h_sh h a0 = some (0, 3)) (k : wpm d 47 [.ref a0, .int (((((x4 * (1103515245 : Int32)) + (12345 : Int32)).toUInt32 >>> ((16 : Int32).toUInt32 &&& Int32.toUInt32 31)).toInt32) - ((((x4 * (1103515245 : Int32)) + (12345 : Int32)).toUInt32 >>> ((16 : Int32).toUInt32 &&& Int32.toUInt32 31)).toInt32) / x3 * x3)] h (fun r h' => wpx d P_Ow_drawn 72 [.ref r0, .int x1, .int x2, .int x3, .int ((x4 * (1103515245 : Int32)) + (12345 : Int32)), .int x5, v6] (r.toList ++ []) h' Q)) : wpx d P_Ow_drawn 47 [.ref r0, .int x1, .int x2, .int x3, .int x4, .int x5, v6] [] h Q := by
  refine st_iload (pc' := 49) rfl rfl rfl ?_
  refine st_ldc (pc' := 51) (v := 1103515245) rfl rfl (by decide) ?_
  refine st_imul (pc' := 52) rfl rfl ?_
  refine st_ipush (pc' := 55) (v := 12345) rfl rfl (by decide) ?_
  refine st_iadd (pc' := 56) rfl rfl ?_
  refine st_istore (pc' := 58) (ls' := [.ref r0, .int x1, .int x2, .int x3, .int ((x4 * (1103515245 : Int32)) + (12345 : Int32)), .int x5, v6]) rfl rfl (Nat.le_of_ble_eq_true rfl) rfl ?_
  refine st_aload (pc' := 59) rfl rfl rfl ?_
  refine st_getfr (x := some a0) (Or.inl rfl) rfl hs0 rfl hr1 (pc' := 62) rfl ?_
  refine st_iload (pc' := 64) rfl rfl rfl ?_
  refine st_ipush (pc' := 66) (v := 16) rfl rfl (by decide) ?_
  refine st_iushr (pc' := 67) rfl rfl ?_
  refine st_iload (pc' := 68) rfl rfl rfl ?_
  refine st_irem rfl hz2 (pc' := 69) rfl ?_
  exact st_call (pc' := 72) (as := [.ref a0, .int (((((x4 * (1103515245 : Int32)) + (12345 : Int32)).toUInt32 >>> ((16 : Int32).toUInt32 &&& Int32.toUInt32 31)).toInt32) - ((((x4 * (1103515245 : Int32)) + (12345 : Int32)).toUInt32 >>> ((16 : Int32).toUInt32 &&& Int32.toUInt32 31)).toInt32) / x3 * x3)]) (rest := []) rfl rfl (Nat.le_of_ble_eq_true rfl) rfl rfl (Nat.le_of_ble_eq_true rfl) (kd := 1) (o := 3) rfl rfl (beq_iff_eq.mpr hs3) k
theorem B_Ow_drawn_72 {d : Nat} {h : PH} {Q : PQ} {r0 : Nat} {x1 : Int32} {x2 : Int32} {x3 : Int32} {x4 : Int32} {x5 : Int32} {v6 : Value} {s0 : Int32}  (kt : s0 = ((-1) : Int32) → wpx d P_Ow_drawn 107 [.ref r0, .int x1, .int x2, .int x3, .int x4, .int x5, .int s0] [] h Q) (kf : ¬ (s0 = ((-1) : Int32)) → wpx d P_Ow_drawn 80 [.ref r0, .int x1, .int x2, .int x3, .int x4, .int x5, .int s0] [] h Q) : wpx d P_Ow_drawn 72 [.ref r0, .int x1, .int x2, .int x3, .int x4, .int x5, v6] [.int s0] h Q := by
  refine st_istore (pc' := 74) (ls' := [.ref r0, .int x1, .int x2, .int x3, .int x4, .int x5, .int s0]) rfl rfl (Nat.le_of_ble_eq_true rfl) rfl ?_
  refine st_iload (pc' := 76) rfl rfl rfl ?_
  refine st_ipush (pc' := 77) (v := (-1)) rfl rfl (by decide) ?_
  exact st_icmp_eq (pc' := 80) rfl rfl kt kf
theorem B_Ow_drawn_80 {d : Nat} {h : PH} {Q : PQ} {r0 : Nat} {x1 : Int32} {x2 : Int32} {x3 : Int32} {x4 : Int32} {x5 : Int32} {x6 : Int32} {a0 : Nat} {a1 : Nat} {a2 : Nat} {n3 : Nat} {a4 : Nat} {n5 : Nat} (hs0 : h_sh h r0 = some (0, 11)) (hr1 : h_r h r0 4 = some a0) (hr2 : h_r h r0 2 = some a1) (hs3 : h_sh h a1 = some (0, 3)) (hr4 : h_r h a1 0 = some a2) (hs5 : h_sh h a2 = some (4, n3)) (hb6 : vp_in x6 n3) (hr7 : h_r h a1 1 = some a4) (hs8 : h_sh h a4 = some (1, n5)) (hb9 : vp_in x6 n5) (hs10 : h_sh h a0 = some (0, 10)) (k : wpm d 108 [.ref a0, .long (h_l h a2 x6.toNatClampNeg), .int (h_i h a4 x6.toNatClampNeg)] h (fun r h' => wpx d P_Ow_drawn 107 [.ref r0, .int x1, .int x2, .int x3, .int x4, .int x5, .int x6] (r.toList ++ []) h' Q)) : wpx d P_Ow_drawn 80 [.ref r0, .int x1, .int x2, .int x3, .int x4, .int x5, .int x6] [] h Q := by
  refine st_aload (pc' := 81) rfl rfl rfl ?_
  refine st_getfr (x := some a0) (Or.inl rfl) rfl hs0 rfl hr1 (pc' := 84) rfl ?_
  refine st_aload (pc' := 85) rfl rfl rfl ?_
  refine st_getfr (x := some a1) (Or.inl rfl) rfl hs0 rfl hr2 (pc' := 88) rfl ?_
  refine st_getfr (x := some a2) (Or.inr rfl) rfl hs3 rfl hr4 (pc' := 91) rfl ?_
  refine st_iload (pc' := 93) rfl rfl rfl ?_
  refine st_laload rfl hs5 hb6 (j := x6.toNatClampNeg) rfl (pc' := 94) rfl ?_
  refine st_aload (pc' := 95) rfl rfl rfl ?_
  refine st_getfr (x := some a1) (Or.inl rfl) rfl hs0 rfl hr2 (pc' := 98) rfl ?_
  refine st_getfr (x := some a4) (Or.inr rfl) rfl hs3 rfl hr7 (pc' := 101) rfl ?_
  refine st_iload (pc' := 103) rfl rfl rfl ?_
  refine st_iaload rfl hs8 hb9 (j := x6.toNatClampNeg) rfl (pc' := 104) rfl ?_
  exact st_call (pc' := 107) (as := [.ref a0, .long (h_l h a2 x6.toNatClampNeg), .int (h_i h a4 x6.toNatClampNeg)]) (rest := []) rfl rfl (Nat.le_of_ble_eq_true rfl) rfl rfl (Nat.le_of_ble_eq_true rfl) (kd := 1) (o := 10) rfl rfl (beq_iff_eq.mpr hs10) k
theorem B_Ow_drawn_107 {d : Nat} {h : PH} {Q : PQ} {r0 : Nat} {x1 : Int32} {x2 : Int32} {x3 : Int32} {x4 : Int32} {x5 : Int32} {x6 : Int32}  (k : wpx d P_Ow_drawn 41 [.ref r0, .int x1, .int x2, .int x3, .int x4, .int (x5 + 1), .int x6] [] h Q) : wpx d P_Ow_drawn 107 [.ref r0, .int x1, .int x2, .int x3, .int x4, .int x5, .int x6] [] h Q := by
  refine st_iinc (pc' := 110) (v := 1) (ls' := [.ref r0, .int x1, .int x2, .int x3, .int x4, .int (x5 + 1), .int x6]) rfl rfl rfl (by decide) rfl ?_
  exact st_goto rfl k
theorem B_Ow_drawn_113 {d : Nat} {h : PH} {Q : PQ} {r0 : Nat} {x1 : Int32} {x2 : Int32} {x3 : Int32} {x4 : Int32} {x5 : Int32} {v6 : Value} {a0 : Nat} (hs0 : h_sh h r0 = some (0, 11)) (hr1 : h_r h r0 4 = some a0) (hs2 : h_sh h a0 = some (0, 10)) (k : Q (some (.int (h_i h a0 1))) h) : wpx d P_Ow_drawn 113 [.ref r0, .int x1, .int x2, .int x3, .int x4, .int x5, v6] [] h Q := by
  refine st_aload (pc' := 114) rfl rfl rfl ?_
  refine st_getfr (x := some a0) (Or.inl rfl) rfl hs0 rfl hr1 (pc' := 117) rfl ?_
  refine st_getfi (Or.inr rfl) rfl hs2 rfl (pc' := 120) rfl ?_
  exact st_ireturn (ty := .int) rfl rfl rfl k
theorem B_Ow_words_0 {d : Nat} {h : PH} {Q : PQ} {r0 : Nat} {x1 : Int32} {x2 : Int32}  (kt : x1 < 0 → wpx d P_Ow_words 19 [.ref r0, .int x1, .int x2] [] h Q) (kf : ¬ (x1 < 0) → wpx d P_Ow_words 4 [.ref r0, .int x1, .int x2] [] h Q) : wpx d P_Ow_words 0 [.ref r0, .int x1, .int x2] [] h Q := by
  refine st_iload (pc' := 1) rfl rfl rfl ?_
  exact st_if_lt (pc' := 4) rfl rfl kt kf
theorem B_Ow_words_4 {d : Nat} {h : PH} {Q : PQ} {r0 : Nat} {x1 : Int32} {x2 : Int32}  (kt : (10 : Int32) < x1 → wpx d P_Ow_words 19 [.ref r0, .int x1, .int x2] [] h Q) (kf : ¬ ((10 : Int32) < x1) → wpx d P_Ow_words 10 [.ref r0, .int x1, .int x2] [] h Q) : wpx d P_Ow_words 4 [.ref r0, .int x1, .int x2] [] h Q := by
  refine st_iload (pc' := 5) rfl rfl rfl ?_
  refine st_ipush (pc' := 7) (v := 10) rfl rfl (by decide) ?_
  exact st_icmp_gt (pc' := 10) rfl rfl kt kf
theorem B_Ow_words_10 {d : Nat} {h : PH} {Q : PQ} {r0 : Nat} {x1 : Int32} {x2 : Int32}  (kt : x2 < 0 → wpx d P_Ow_words 19 [.ref r0, .int x1, .int x2] [] h Q) (kf : ¬ (x2 < 0) → wpx d P_Ow_words 14 [.ref r0, .int x1, .int x2] [] h Q) : wpx d P_Ow_words 10 [.ref r0, .int x1, .int x2] [] h Q := by
  refine st_iload (pc' := 11) rfl rfl rfl ?_
  exact st_if_lt (pc' := 14) rfl rfl kt kf
theorem B_Ow_words_14 {d : Nat} {h : PH} {Q : PQ} {r0 : Nat} {x1 : Int32} {x2 : Int32}  (kt : x2 ≤ (2 : Int32) → wpx d P_Ow_words 23 [.ref r0, .int x1, .int x2] [] h Q) (kf : ¬ (x2 ≤ (2 : Int32)) → wpx d P_Ow_words 19 [.ref r0, .int x1, .int x2] [] h Q) : wpx d P_Ow_words 14 [.ref r0, .int x1, .int x2] [] h Q := by
  refine st_iload (pc' := 15) rfl rfl rfl ?_
  refine st_ipush (pc' := 16) (v := 2) rfl rfl (by decide) ?_
  exact st_icmp_le (pc' := 19) rfl rfl kt kf
theorem B_Ow_words_19 {d : Nat} {h : PH} {Q : PQ} {r0 : Nat} {x1 : Int32} {x2 : Int32}  (k : Q (some (.long (-1))) h) : wpx d P_Ow_words 19 [.ref r0, .int x1, .int x2] [] h Q := by
  refine st_ldc2 (pc' := 22) (v := (-1)) rfl rfl (by decide) ?_
  exact st_lreturn rfl k
theorem B_Ow_words_23 {d : Nat} {h : PH} {Q : PQ} {r0 : Nat} {x1 : Int32} {x2 : Int32} (hs0 : h_sh h r0 = some (0, 11)) (k : wpm d 154 [.ref r0] h (fun r h' => wpx d P_Ow_words 27 [.ref r0, .int x1, .int x2] (r.toList ++ []) h' Q)) : wpx d P_Ow_words 23 [.ref r0, .int x1, .int x2] [] h Q := by
  refine st_aload (pc' := 24) rfl rfl rfl ?_
  exact st_call (pc' := 27) (as := [.ref r0]) (rest := []) rfl rfl (Nat.le_of_ble_eq_true rfl) rfl rfl (Nat.le_of_ble_eq_true rfl) (kd := 1) (o := 11) rfl rfl (beq_iff_eq.mpr hs0) k
theorem B_Ow_words_27 {d : Nat} {h : PH} {Q : PQ} {r0 : Nat} {x1 : Int32} {x2 : Int32} {q0 : Nat} (hs0 : h_sh h q0 = some (0, 1)) (k : wpm d 22 [.ref q0, .int x1, .int x2] h (fun r h' => wpx d P_Ow_words 32 [.ref r0, .int x1, .int x2] (r.toList ++ []) h' Q)) : wpx d P_Ow_words 27 [.ref r0, .int x1, .int x2] [.ref q0] h Q := by
  refine st_iload (pc' := 28) rfl rfl rfl ?_
  refine st_iload (pc' := 29) rfl rfl rfl ?_
  exact st_call (pc' := 32) (as := [.ref q0, .int x1, .int x2]) (rest := []) rfl rfl (Nat.le_of_ble_eq_true rfl) rfl rfl (Nat.le_of_ble_eq_true rfl) (kd := 1) (o := 1) rfl rfl (beq_iff_eq.mpr hs0) k
theorem B_Ow_words_32 {d : Nat} {h : PH} {Q : PQ} {r0 : Nat} {x1 : Int32} {x2 : Int32} {t0 : Int64}  (k : Q (some (.long t0)) h) : wpx d P_Ow_words 32 [.ref r0, .int x1, .int x2] [.long t0] h Q := by
  exact st_lreturn rfl k
theorem B_Ow_nth_0 {d : Nat} {h : PH} {Q : PQ} {r0 : Nat} {x1 : Int32} {l2 : Int64}  (kt : x1 < 0 → wpx d P_Ow_nth 16 [.ref r0, .int x1, .long l2, .retAddr 2] [] h Q) (kf : ¬ (x1 < 0) → wpx d P_Ow_nth 4 [.ref r0, .int x1, .long l2, .retAddr 2] [] h Q) : wpx d P_Ow_nth 0 [.ref r0, .int x1, .long l2, .retAddr 2] [] h Q := by
  refine st_iload (pc' := 1) rfl rfl rfl ?_
  exact st_if_lt (pc' := 4) rfl rfl kt kf
theorem B_Ow_nth_4 {d : Nat} {h : PH} {Q : PQ} {r0 : Nat} {x1 : Int32} {l2 : Int64}  (kt : (10 : Int32) < x1 → wpx d P_Ow_nth 16 [.ref r0, .int x1, .long l2, .retAddr 2] [] h Q) (kf : ¬ ((10 : Int32) < x1) → wpx d P_Ow_nth 10 [.ref r0, .int x1, .long l2, .retAddr 2] [] h Q) : wpx d P_Ow_nth 4 [.ref r0, .int x1, .long l2, .retAddr 2] [] h Q := by
  refine st_iload (pc' := 5) rfl rfl rfl ?_
  refine st_ipush (pc' := 7) (v := 10) rfl rfl (by decide) ?_
  exact st_icmp_gt (pc' := 10) rfl rfl kt kf
theorem B_Ow_nth_10 {d : Nat} {h : PH} {Q : PQ} {r0 : Nat} {x1 : Int32} {l2 : Int64}  (kt : 0 ≤ (lg_cmp l2 (0 : Int64)) → wpx d P_Ow_nth 18 [.ref r0, .int x1, .long l2, .retAddr 2] [] h Q) (kf : ¬ (0 ≤ (lg_cmp l2 (0 : Int64))) → wpx d P_Ow_nth 16 [.ref r0, .int x1, .long l2, .retAddr 2] [] h Q) : wpx d P_Ow_nth 10 [.ref r0, .int x1, .long l2, .retAddr 2] [] h Q := by
  refine st_lload (pc' := 11) rfl rfl rfl rfl ?_
  refine st_lpush (pc' := 12) (v := 0) rfl rfl (by decide) ?_
  refine st_lcmp (pc' := 13) rfl rfl ?_
  exact st_if_ge (pc' := 16) rfl rfl kt kf
theorem B_Ow_nth_16 {d : Nat} {h : PH} {Q : PQ} {r0 : Nat} {x1 : Int32} {l2 : Int64}  (k : Q (some (.int 0)) h) : wpx d P_Ow_nth 16 [.ref r0, .int x1, .long l2, .retAddr 2] [] h Q := by
  refine st_ipush (pc' := 17) (v := 0) rfl rfl (by decide) ?_
  exact st_ireturn (ty := .boolean) rfl rfl (by decide) k
theorem B_Ow_nth_18 {d : Nat} {h : PH} {Q : PQ} {r0 : Nat} {x1 : Int32} {l2 : Int64} (hs0 : h_sh h r0 = some (0, 11)) (k : wpm d 154 [.ref r0] h (fun r h' => wpx d P_Ow_nth 22 [.ref r0, .int x1, .long l2, .retAddr 2] (r.toList ++ []) h' Q)) : wpx d P_Ow_nth 18 [.ref r0, .int x1, .long l2, .retAddr 2] [] h Q := by
  refine st_aload (pc' := 19) rfl rfl rfl ?_
  exact st_call (pc' := 22) (as := [.ref r0]) (rest := []) rfl rfl (Nat.le_of_ble_eq_true rfl) rfl rfl (Nat.le_of_ble_eq_true rfl) (kd := 1) (o := 11) rfl rfl (beq_iff_eq.mpr hs0) k
theorem B_Ow_nth_22 {d : Nat} {h : PH} {Q : PQ} {r0 : Nat} {x1 : Int32} {l2 : Int64} {q0 : Nat} {a0 : Nat} (hs0 : h_sh h r0 = some (0, 11)) (hr1 : h_r h r0 4 = some a0) (hs2 : h_sh h q0 = some (0, 1)) (k : wpm d 23 [.ref q0, .ref a0, .int x1, .long l2] h (fun r h' => wpx d P_Ow_nth 31 [.ref r0, .int x1, .long l2, .retAddr 2] (r.toList ++ []) h' Q)) : wpx d P_Ow_nth 22 [.ref r0, .int x1, .long l2, .retAddr 2] [.ref q0] h Q := by
  refine st_aload (pc' := 23) rfl rfl rfl ?_
  refine st_getfr (x := some a0) (Or.inl rfl) rfl hs0 rfl hr1 (pc' := 26) rfl ?_
  refine st_iload (pc' := 27) rfl rfl rfl ?_
  refine st_lload (pc' := 28) rfl rfl rfl rfl ?_
  exact st_call (pc' := 31) (as := [.ref q0, .ref a0, .int x1, .long l2]) (rest := []) rfl rfl (Nat.le_of_ble_eq_true rfl) rfl rfl (Nat.le_of_ble_eq_true rfl) (kd := 1) (o := 1) rfl rfl (beq_iff_eq.mpr hs2) k
theorem B_Ow_nth_31 {d : Nat} {h : PH} {Q : PQ} {r0 : Nat} {x1 : Int32} {l2 : Int64} {s0 : Int32} (hz0 : narrow .boolean (.int s0) = .int s0) (k : Q (some (.int s0)) h) : wpx d P_Ow_nth 31 [.ref r0, .int x1, .long l2, .retAddr 2] [.int s0] h Q := by
  exact st_ireturn (ty := .boolean) rfl rfl hz0 k
theorem B_Ow_place_0 {d : Nat} {h : PH} {Q : PQ} {r0 : Nat} {a0 : Nat} (hs0 : h_sh h r0 = some (0, 11)) (hr1 : h_r h r0 4 = some a0) (hs2 : h_sh h a0 = some (0, 10)) (kt : (h_i h a0 1) ≤ (10 : Int32) → wpx d P_Ow_place 18 [.ref r0] [] h Q) (kf : ¬ ((h_i h a0 1) ≤ (10 : Int32)) → wpx d P_Ow_place 12 [.ref r0] [] h Q) : wpx d P_Ow_place 0 [.ref r0] [] h Q := by
  refine st_aload (pc' := 1) rfl rfl rfl ?_
  refine st_getfr (x := some a0) (Or.inl rfl) rfl hs0 rfl hr1 (pc' := 4) rfl ?_
  refine st_getfi (Or.inr rfl) rfl hs2 rfl (pc' := 7) rfl ?_
  refine st_ipush (pc' := 9) (v := 10) rfl rfl (by decide) ?_
  exact st_icmp_le (pc' := 12) rfl rfl kt kf
theorem B_Ow_place_12 {d : Nat} {h : PH} {Q : PQ} {r0 : Nat}  (k : wpx d P_Ow_place 29 [.ref r0] [.long (-1)] h Q) : wpx d P_Ow_place 12 [.ref r0] [] h Q := by
  refine st_ldc2 (pc' := 15) (v := (-1)) rfl rfl (by decide) ?_
  exact st_goto rfl k
theorem B_Ow_place_18 {d : Nat} {h : PH} {Q : PQ} {r0 : Nat} (hs0 : h_sh h r0 = some (0, 11)) (k : wpm d 154 [.ref r0] h (fun r h' => wpx d P_Ow_place 22 [.ref r0] (r.toList ++ []) h' Q)) : wpx d P_Ow_place 18 [.ref r0] [] h Q := by
  refine st_aload (pc' := 19) rfl rfl rfl ?_
  exact st_call (pc' := 22) (as := [.ref r0]) (rest := []) rfl rfl (Nat.le_of_ble_eq_true rfl) rfl rfl (Nat.le_of_ble_eq_true rfl) (kd := 1) (o := 11) rfl rfl (beq_iff_eq.mpr hs0) k
theorem B_Ow_place_22 {d : Nat} {h : PH} {Q : PQ} {r0 : Nat} {q0 : Nat} {a0 : Nat} (hs0 : h_sh h r0 = some (0, 11)) (hr1 : h_r h r0 4 = some a0) (hs2 : h_sh h q0 = some (0, 1)) (k : wpm d 24 [.ref q0, .ref a0] h (fun r h' => wpx d P_Ow_place 29 [.ref r0] (r.toList ++ []) h' Q)) : wpx d P_Ow_place 22 [.ref r0] [.ref q0] h Q := by
  refine st_aload (pc' := 23) rfl rfl rfl ?_
  refine st_getfr (x := some a0) (Or.inl rfl) rfl hs0 rfl hr1 (pc' := 26) rfl ?_
  exact st_call (pc' := 29) (as := [.ref q0, .ref a0]) (rest := []) rfl rfl (Nat.le_of_ble_eq_true rfl) rfl rfl (Nat.le_of_ble_eq_true rfl) (kd := 1) (o := 1) rfl rfl (beq_iff_eq.mpr hs2) k
theorem B_Ow_place_29 {d : Nat} {h : PH} {Q : PQ} {r0 : Nat} {t0 : Int64}  (k : Q (some (.long t0)) h) : wpx d P_Ow_place 29 [.ref r0] [.long t0] h Q := by
  exact st_lreturn rfl k
theorem B_Ow_borders_0 {d : Nat} {h : PH} {Q : PQ} {r0 : Nat} {x1 : Int32}  (kt : x1 < (1 : Int32) → wpx d P_Ow_borders 10 [.ref r0, .int x1] [] h Q) (kf : ¬ (x1 < (1 : Int32)) → wpx d P_Ow_borders 5 [.ref r0, .int x1] [] h Q) : wpx d P_Ow_borders 0 [.ref r0, .int x1] [] h Q := by
  refine st_iload (pc' := 1) rfl rfl rfl ?_
  refine st_ipush (pc' := 2) (v := 1) rfl rfl (by decide) ?_
  exact st_icmp_lt (pc' := 5) rfl rfl kt kf
theorem B_Ow_borders_5 {d : Nat} {h : PH} {Q : PQ} {r0 : Nat} {x1 : Int32}  (kt : x1 ≤ (4 : Int32) → wpx d P_Ow_borders 14 [.ref r0, .int x1] [] h Q) (kf : ¬ (x1 ≤ (4 : Int32)) → wpx d P_Ow_borders 10 [.ref r0, .int x1] [] h Q) : wpx d P_Ow_borders 5 [.ref r0, .int x1] [] h Q := by
  refine st_iload (pc' := 6) rfl rfl rfl ?_
  refine st_ipush (pc' := 7) (v := 4) rfl rfl (by decide) ?_
  exact st_icmp_le (pc' := 10) rfl rfl kt kf
theorem B_Ow_borders_10 {d : Nat} {h : PH} {Q : PQ} {r0 : Nat} {x1 : Int32}  (k : wpx d P_Ow_borders 22 [.ref r0, .int x1] [.int (-1)] h Q) : wpx d P_Ow_borders 10 [.ref r0, .int x1] [] h Q := by
  refine st_ipush (pc' := 11) (v := (-1)) rfl rfl (by decide) ?_
  exact st_goto rfl k
theorem B_Ow_borders_14 {d : Nat} {h : PH} {Q : PQ} {r0 : Nat} {x1 : Int32} (hs0 : h_sh h r0 = some (0, 11)) (k : wpm d 155 [.ref r0] h (fun r h' => wpx d P_Ow_borders 18 [.ref r0, .int x1] (r.toList ++ []) h' Q)) : wpx d P_Ow_borders 14 [.ref r0, .int x1] [] h Q := by
  refine st_aload (pc' := 15) rfl rfl rfl ?_
  exact st_call (pc' := 18) (as := [.ref r0]) (rest := []) rfl rfl (Nat.le_of_ble_eq_true rfl) rfl rfl (Nat.le_of_ble_eq_true rfl) (kd := 1) (o := 11) rfl rfl (beq_iff_eq.mpr hs0) k
theorem B_Ow_borders_18 {d : Nat} {h : PH} {Q : PQ} {r0 : Nat} {x1 : Int32} {q0 : Nat} (hs0 : h_sh h q0 = some (0, 0)) (k : wpm d 11 [.ref q0, .int x1] h (fun r h' => wpx d P_Ow_borders 22 [.ref r0, .int x1] (r.toList ++ []) h' Q)) : wpx d P_Ow_borders 18 [.ref r0, .int x1] [.ref q0] h Q := by
  refine st_iload (pc' := 19) rfl rfl rfl ?_
  exact st_call (pc' := 22) (as := [.ref q0, .int x1]) (rest := []) rfl rfl (Nat.le_of_ble_eq_true rfl) rfl rfl (Nat.le_of_ble_eq_true rfl) (kd := 1) (o := 0) rfl rfl (beq_iff_eq.mpr hs0) k
theorem B_Ow_borders_22 {d : Nat} {h : PH} {Q : PQ} {r0 : Nat} {x1 : Int32} {s0 : Int32}  (k : Q (some (.int s0)) h) : wpx d P_Ow_borders 22 [.ref r0, .int x1] [.int s0] h Q := by
  exact st_ireturn (ty := .int) rfl rfl rfl k
theorem B_Ow_border_0 {d : Nat} {h : PH} {Q : PQ} {r0 : Nat} {x1 : Int32} {x2 : Int32} {x3 : Int32} {v4 : Value} {v5 : Value} (hs0 : h_sh h r0 = some (0, 11)) (k : wpm d 155 [.ref r0] h (fun r h' => wpx d P_Ow_border 4 [.ref r0, .int x1, .int x2, .int x3, v4, v5] (r.toList ++ []) h' Q)) : wpx d P_Ow_border 0 [.ref r0, .int x1, .int x2, .int x3, v4, v5] [] h Q := by
  refine st_aload (pc' := 1) rfl rfl rfl ?_
  exact st_call (pc' := 4) (as := [.ref r0]) (rest := []) rfl rfl (Nat.le_of_ble_eq_true rfl) rfl rfl (Nat.le_of_ble_eq_true rfl) (kd := 1) (o := 11) rfl rfl (beq_iff_eq.mpr hs0) k
theorem B_Ow_border_4 {d : Nat} {h : PH} {Q : PQ} {r0 : Nat} {x1 : Int32} {x2 : Int32} {x3 : Int32} {v4 : Value} {v5 : Value} {q0 : Nat} (hs0 : h_sh h q0 = some (0, 0)) (k : wpm d 12 [.ref q0, .int x1, .int x2] h (fun r h' => wpx d P_Ow_border 13 [.ref r0, .int x1, .int x2, .int x3, .ref q0, v5] (r.toList ++ []) h' Q)) : wpx d P_Ow_border 4 [.ref r0, .int x1, .int x2, .int x3, v4, v5] [.ref q0] h Q := by
  refine st_astore (pc' := 6) (ls' := [.ref r0, .int x1, .int x2, .int x3, .ref q0, v5]) rfl rfl (Nat.le_of_ble_eq_true rfl) rfl ?_
  refine st_aload (pc' := 8) rfl rfl rfl ?_
  refine st_iload (pc' := 9) rfl rfl rfl ?_
  refine st_iload (pc' := 10) rfl rfl rfl ?_
  exact st_call (pc' := 13) (as := [.ref q0, .int x1, .int x2]) (rest := []) rfl rfl (Nat.le_of_ble_eq_true rfl) rfl rfl (Nat.le_of_ble_eq_true rfl) (kd := 1) (o := 0) rfl rfl (beq_iff_eq.mpr hs0) k
theorem B_Ow_border_13 {d : Nat} {h : PH} {Q : PQ} {r0 : Nat} {x1 : Int32} {x2 : Int32} {x3 : Int32} {r4 : Nat} {v5 : Value} {s0 : Int32}  (kt : ¬ (s0 = ((-1) : Int32)) → wpx d P_Ow_border 25 [.ref r0, .int x1, .int x2, .int x3, .ref r4, .int s0] [] h Q) (kf : s0 = ((-1) : Int32) → wpx d P_Ow_border 21 [.ref r0, .int x1, .int x2, .int x3, .ref r4, .int s0] [] h Q) : wpx d P_Ow_border 13 [.ref r0, .int x1, .int x2, .int x3, .ref r4, v5] [.int s0] h Q := by
  refine st_istore (pc' := 15) (ls' := [.ref r0, .int x1, .int x2, .int x3, .ref r4, .int s0]) rfl rfl (Nat.le_of_ble_eq_true rfl) rfl ?_
  refine st_iload (pc' := 17) rfl rfl rfl ?_
  refine st_ipush (pc' := 18) (v := (-1)) rfl rfl (by decide) ?_
  exact st_icmp_ne (pc' := 21) rfl rfl kt kf
theorem B_Ow_border_21 {d : Nat} {h : PH} {Q : PQ} {r0 : Nat} {x1 : Int32} {x2 : Int32} {x3 : Int32} {r4 : Nat} {x5 : Int32}  (k : wpx d P_Ow_border 37 [.ref r0, .int x1, .int x2, .int x3, .ref r4, .int x5] [.int (-1)] h Q) : wpx d P_Ow_border 21 [.ref r0, .int x1, .int x2, .int x3, .ref r4, .int x5] [] h Q := by
  refine st_ipush (pc' := 22) (v := (-1)) rfl rfl (by decide) ?_
  exact st_goto rfl k
theorem B_Ow_border_25 {d : Nat} {h : PH} {Q : PQ} {r0 : Nat} {x1 : Int32} {x2 : Int32} {x3 : Int32} {r4 : Nat} {x5 : Int32} (hs0 : h_sh h r4 = some (0, 0)) (k : wpm d 13 [.ref r4, .int x5] h (fun r h' => wpx d P_Ow_border 32 [.ref r0, .int x1, .int x2, .int x3, .ref r4, .int x5] (r.toList ++ []) h' Q)) : wpx d P_Ow_border 25 [.ref r0, .int x1, .int x2, .int x3, .ref r4, .int x5] [] h Q := by
  refine st_aload (pc' := 27) rfl rfl rfl ?_
  refine st_iload (pc' := 29) rfl rfl rfl ?_
  exact st_call (pc' := 32) (as := [.ref r4, .int x5]) (rest := []) rfl rfl (Nat.le_of_ble_eq_true rfl) rfl rfl (Nat.le_of_ble_eq_true rfl) (kd := 1) (o := 0) rfl rfl (beq_iff_eq.mpr hs0) k
theorem B_Ow_border_32 {d : Nat} {h : PH} {Q : PQ} {r0 : Nat} {x1 : Int32} {x2 : Int32} {x3 : Int32} {r4 : Nat} {x5 : Int32} {t0 : Int64}  (k : wpm d 166 [.long t0, .int x1, .int x3] h (fun r h' => wpx d P_Ow_border 37 [.ref r0, .int x1, .int x2, .int x3, .ref r4, .int x5] (r.toList ++ []) h' Q)) : wpx d P_Ow_border 32 [.ref r0, .int x1, .int x2, .int x3, .ref r4, .int x5] [.long t0] h Q := by
  refine st_iload (pc' := 33) rfl rfl rfl ?_
  refine st_iload (pc' := 34) rfl rfl rfl ?_
  exact st_call (pc' := 37) (as := [.long t0, .int x1, .int x3]) (rest := []) rfl rfl (Nat.le_of_ble_eq_true rfl) rfl rfl (Nat.le_of_ble_eq_true rfl) (kd := 0) (o := 11) rfl rfl rfl k
theorem B_Ow_border_37 {d : Nat} {h : PH} {Q : PQ} {r0 : Nat} {x1 : Int32} {x2 : Int32} {x3 : Int32} {r4 : Nat} {x5 : Int32} {s0 : Int32}  (k : Q (some (.int s0)) h) : wpx d P_Ow_border 37 [.ref r0, .int x1, .int x2, .int x3, .ref r4, .int x5] [.int s0] h Q := by
  exact st_ireturn (ty := .int) rfl rfl rfl k
theorem B_Ow_cure_0 {d : Nat} {h : PH} {Q : PQ} {r0 : Nat} {x1 : Int32} (hs0 : h_sh h r0 = some (0, 11)) (k : wpm d 157 [.ref r0] h (fun r h' => wpx d P_Ow_cure 4 [.ref r0, .int x1] (r.toList ++ []) h' Q)) : wpx d P_Ow_cure 0 [.ref r0, .int x1] [] h Q := by
  refine st_aload (pc' := 1) rfl rfl rfl ?_
  exact st_call (pc' := 4) (as := [.ref r0]) (rest := []) rfl rfl (Nat.le_of_ble_eq_true rfl) rfl rfl (Nat.le_of_ble_eq_true rfl) (kd := 1) (o := 11) rfl rfl (beq_iff_eq.mpr hs0) k
theorem B_Ow_cure_4 {d : Nat} {h : PH} {Q : PQ} {r0 : Nat} {x1 : Int32} {q0 : Nat} {a0 : Nat} (hs0 : h_sh h r0 = some (0, 11)) (hr1 : h_r h r0 2 = some a0) (hs2 : h_sh h q0 = some (0, 2)) (k : wpm d 26 [.ref q0, .ref a0, .int x1] h (fun r h' => wpx d P_Ow_cure 12 [.ref r0, .int x1] (r.toList ++ []) h' Q)) : wpx d P_Ow_cure 4 [.ref r0, .int x1] [.ref q0] h Q := by
  refine st_aload (pc' := 5) rfl rfl rfl ?_
  refine st_getfr (x := some a0) (Or.inl rfl) rfl hs0 rfl hr1 (pc' := 8) rfl ?_
  refine st_iload (pc' := 9) rfl rfl rfl ?_
  exact st_call (pc' := 12) (as := [.ref q0, .ref a0, .int x1]) (rest := []) rfl rfl (Nat.le_of_ble_eq_true rfl) rfl rfl (Nat.le_of_ble_eq_true rfl) (kd := 1) (o := 2) rfl rfl (beq_iff_eq.mpr hs2) k
theorem B_Ow_cure_12 {d : Nat} {h : PH} {Q : PQ} {r0 : Nat} {x1 : Int32} {s0 : Int32}  (k : Q (some (.int s0)) h) : wpx d P_Ow_cure 12 [.ref r0, .int x1] [.int s0] h Q := by
  exact st_ireturn (ty := .int) rfl rfl rfl k
theorem B_Ow_mend_0 {d : Nat} {h : PH} {Q : PQ} {r0 : Nat} {x1 : Int32} {v2 : Value} (hs0 : h_sh h r0 = some (0, 11)) (k : wpm d 157 [.ref r0] h (fun r h' => wpx d P_Ow_mend 4 [.ref r0, .int x1, v2] (r.toList ++ []) h' Q)) : wpx d P_Ow_mend 0 [.ref r0, .int x1, v2] [] h Q := by
  refine st_aload (pc' := 1) rfl rfl rfl ?_
  exact st_call (pc' := 4) (as := [.ref r0]) (rest := []) rfl rfl (Nat.le_of_ble_eq_true rfl) rfl rfl (Nat.le_of_ble_eq_true rfl) (kd := 1) (o := 11) rfl rfl (beq_iff_eq.mpr hs0) k
theorem B_Ow_mend_4 {d : Nat} {h : PH} {Q : PQ} {r0 : Nat} {x1 : Int32} {v2 : Value} {q0 : Nat} {a0 : Nat} (hs0 : h_sh h r0 = some (0, 11)) (hr1 : h_r h r0 2 = some a0) (hs2 : h_sh h q0 = some (0, 2)) (k : wpm d 26 [.ref q0, .ref a0, .int x1] h (fun r h' => wpx d P_Ow_mend 12 [.ref r0, .int x1, v2] (r.toList ++ []) h' Q)) : wpx d P_Ow_mend 4 [.ref r0, .int x1, v2] [.ref q0] h Q := by
  refine st_aload (pc' := 5) rfl rfl rfl ?_
  refine st_getfr (x := some a0) (Or.inl rfl) rfl hs0 rfl hr1 (pc' := 8) rfl ?_
  refine st_iload (pc' := 9) rfl rfl rfl ?_
  exact st_call (pc' := 12) (as := [.ref q0, .ref a0, .int x1]) (rest := []) rfl rfl (Nat.le_of_ble_eq_true rfl) rfl rfl (Nat.le_of_ble_eq_true rfl) (kd := 1) (o := 2) rfl rfl (beq_iff_eq.mpr hs2) k
theorem B_Ow_mend_12 {d : Nat} {h : PH} {Q : PQ} {r0 : Nat} {x1 : Int32} {v2 : Value} {s0 : Int32}  (kt : 0 < s0 → wpx d P_Ow_mend 19 [.ref r0, .int x1, .int s0] [] h Q) (kf : ¬ (0 < s0) → wpx d P_Ow_mend 17 [.ref r0, .int x1, .int s0] [] h Q) : wpx d P_Ow_mend 12 [.ref r0, .int x1, v2] [.int s0] h Q := by
  refine st_istore (pc' := 13) (ls' := [.ref r0, .int x1, .int s0]) rfl rfl (Nat.le_of_ble_eq_true rfl) rfl ?_
  refine st_iload (pc' := 14) rfl rfl rfl ?_
  exact st_if_gt (pc' := 17) rfl rfl kt kf
theorem B_Ow_mend_17 {d : Nat} {h : PH} {Q : PQ} {r0 : Nat} {x1 : Int32} {x2 : Int32}  (k : Q (some (.int (-1))) h) : wpx d P_Ow_mend 17 [.ref r0, .int x1, .int x2] [] h Q := by
  refine st_ipush (pc' := 18) (v := (-1)) rfl rfl (by decide) ?_
  exact st_ireturn (ty := .int) rfl rfl rfl k
theorem B_Ow_mend_19 {d : Nat} {h : PH} {Q : PQ} {r0 : Nat} {x1 : Int32} {x2 : Int32} {a0 : Nat} (hs0 : h_sh h r0 = some (0, 11)) (hr1 : h_r h r0 2 = some a0) (hs2 : h_sh h a0 = some (0, 3)) (k : wpm d 38 [.ref a0, .int x1, .int x2] h (fun r h' => wpx d P_Ow_mend 28 [.ref r0, .int x1, .int x2] (r.toList ++ []) h' Q)) : wpx d P_Ow_mend 19 [.ref r0, .int x1, .int x2] [] h Q := by
  refine st_aload (pc' := 20) rfl rfl rfl ?_
  refine st_getfr (x := some a0) (Or.inl rfl) rfl hs0 rfl hr1 (pc' := 23) rfl ?_
  refine st_iload (pc' := 24) rfl rfl rfl ?_
  refine st_iload (pc' := 25) rfl rfl rfl ?_
  exact st_call (pc' := 28) (as := [.ref a0, .int x1, .int x2]) (rest := []) rfl rfl (Nat.le_of_ble_eq_true rfl) rfl rfl (Nat.le_of_ble_eq_true rfl) (kd := 1) (o := 3) rfl rfl (beq_iff_eq.mpr hs2) k
theorem B_Ow_mend_28 {d : Nat} {h : PH} {Q : PQ} {r0 : Nat} {x1 : Int32} {x2 : Int32}  (k : wpm d 282 [.int x2] h (fun r h' => wpx d P_Ow_mend 32 [.ref r0, .int x1, .int x2] (r.toList ++ []) h' Q)) : wpx d P_Ow_mend 28 [.ref r0, .int x1, .int x2] [] h Q := by
  refine st_iload (pc' := 29) rfl rfl rfl ?_
  exact st_call (pc' := 32) (as := [.int x2]) (rest := []) rfl rfl (Nat.le_of_ble_eq_true rfl) rfl rfl (Nat.le_of_ble_eq_true rfl) (kd := 0) (o := 15) rfl rfl rfl k
theorem B_Ow_mend_32 {d : Nat} {h : PH} {Q : PQ} {r0 : Nat} {x1 : Int32} {x2 : Int32} {s0 : Int32}  (k : Q (some (.int s0)) h) : wpx d P_Ow_mend 32 [.ref r0, .int x1, .int x2] [.int s0] h Q := by
  exact st_ireturn (ty := .int) rfl rfl rfl k
theorem B_Ow_out_0 {d : Nat} {h : PH} {Q : PQ} {r0 : Nat} {x1 : Int32} {x2 : Int32} {a0 : Nat} (hs0 : h_sh h r0 = some (0, 11)) (hr1 : h_r h r0 2 = some a0) (hs2 : h_sh h a0 = some (0, 3)) (k : wpm d 34 [.ref a0, .int x1] h (fun r h' => wpx d P_Ow_out 8 [.ref r0, .int x1, .int x2] (r.toList ++ []) h' Q)) : wpx d P_Ow_out 0 [.ref r0, .int x1, .int x2] [] h Q := by
  refine st_aload (pc' := 1) rfl rfl rfl ?_
  refine st_getfr (x := some a0) (Or.inl rfl) rfl hs0 rfl hr1 (pc' := 4) rfl ?_
  refine st_iload (pc' := 5) rfl rfl rfl ?_
  exact st_call (pc' := 8) (as := [.ref a0, .int x1]) (rest := []) rfl rfl (Nat.le_of_ble_eq_true rfl) rfl rfl (Nat.le_of_ble_eq_true rfl) (kd := 1) (o := 3) rfl rfl (beq_iff_eq.mpr hs2) k
theorem B_Ow_out_8 {d : Nat} {h : PH} {Q : PQ} {r0 : Nat} {x1 : Int32} {x2 : Int32} {s0 : Int32}  (kt : s0 = 0 → wpx d P_Ow_out 23 [.ref r0, .int x1, .int x2] [] h Q) (kf : ¬ (s0 = 0) → wpx d P_Ow_out 11 [.ref r0, .int x1, .int x2] [] h Q) : wpx d P_Ow_out 8 [.ref r0, .int x1, .int x2] [.int s0] h Q := by
  exact st_if_eq (pc' := 11) rfl rfl kt kf
theorem B_Ow_out_11 {d : Nat} {h : PH} {Q : PQ} {r0 : Nat} {x1 : Int32} {x2 : Int32} {a0 : Nat} (hs0 : h_sh h r0 = some (0, 11)) (hr1 : h_r h r0 2 = some a0) (hs2 : h_sh h a0 = some (0, 3)) (k : wpm d 35 [.ref a0, .int x1] h (fun r h' => wpx d P_Ow_out 19 [.ref r0, .int x1, .int x2] (r.toList ++ []) h' Q)) : wpx d P_Ow_out 11 [.ref r0, .int x1, .int x2] [] h Q := by
  refine st_aload (pc' := 12) rfl rfl rfl ?_
  refine st_getfr (x := some a0) (Or.inl rfl) rfl hs0 rfl hr1 (pc' := 15) rfl ?_
  refine st_iload (pc' := 16) rfl rfl rfl ?_
  exact st_call (pc' := 19) (as := [.ref a0, .int x1]) (rest := []) rfl rfl (Nat.le_of_ble_eq_true rfl) rfl rfl (Nat.le_of_ble_eq_true rfl) (kd := 1) (o := 3) rfl rfl (beq_iff_eq.mpr hs2) k
theorem B_Ow_out_19 {d : Nat} {h : PH} {Q : PQ} {r0 : Nat} {x1 : Int32} {x2 : Int32} {s0 : Int32}  (kt : s0 = x2 → wpx d P_Ow_out 25 [.ref r0, .int x1, .int x2] [] h Q) (kf : ¬ (s0 = x2) → wpx d P_Ow_out 23 [.ref r0, .int x1, .int x2] [] h Q) : wpx d P_Ow_out 19 [.ref r0, .int x1, .int x2] [.int s0] h Q := by
  refine st_iload (pc' := 20) rfl rfl rfl ?_
  exact st_icmp_eq (pc' := 23) rfl rfl kt kf
theorem B_Ow_out_23 {d : Nat} {h : PH} {Q : PQ} {r0 : Nat} {x1 : Int32} {x2 : Int32}  (k : Q (some (.int 0)) h) : wpx d P_Ow_out 23 [.ref r0, .int x1, .int x2] [] h Q := by
  refine st_ipush (pc' := 24) (v := 0) rfl rfl (by decide) ?_
  exact st_ireturn (ty := .boolean) rfl rfl (by decide) k
theorem B_Ow_out_25 {d : Nat} {h : PH} {Q : PQ} {r0 : Nat} {x1 : Int32} {x2 : Int32} {a0 : Nat} (hs0 : h_sh h r0 = some (0, 11)) (hr1 : h_r h r0 2 = some a0) (hs2 : h_sh h a0 = some (0, 3)) (k : wpm d 38 [.ref a0, .int 2, .int ((1 : Int32) <<< (x1 &&& 31))] h (fun r h' => wpx d P_Ow_out 36 [.ref r0, .int x1, .int x2] (r.toList ++ []) h' Q)) : wpx d P_Ow_out 25 [.ref r0, .int x1, .int x2] [] h Q := by
  refine st_aload (pc' := 26) rfl rfl rfl ?_
  refine st_getfr (x := some a0) (Or.inl rfl) rfl hs0 rfl hr1 (pc' := 29) rfl ?_
  refine st_ipush (pc' := 30) (v := 2) rfl rfl (by decide) ?_
  refine st_ipush (pc' := 31) (v := 1) rfl rfl (by decide) ?_
  refine st_iload (pc' := 32) rfl rfl rfl ?_
  refine st_ishl (pc' := 33) rfl rfl ?_
  exact st_call (pc' := 36) (as := [.ref a0, .int 2, .int ((1 : Int32) <<< (x1 &&& 31))]) (rest := []) rfl rfl (Nat.le_of_ble_eq_true rfl) rfl rfl (Nat.le_of_ble_eq_true rfl) (kd := 1) (o := 3) rfl rfl (beq_iff_eq.mpr hs2) k
theorem B_Ow_out_36 {d : Nat} {h : PH} {Q : PQ} {r0 : Nat} {x1 : Int32} {x2 : Int32}  (k : Q (some (.int 1)) h) : wpx d P_Ow_out 36 [.ref r0, .int x1, .int x2] [] h Q := by
  refine st_ipush (pc' := 37) (v := 1) rfl rfl (by decide) ?_
  exact st_ireturn (ty := .boolean) rfl rfl (by decide) k
theorem B_Ow_undo_0 {d : Nat} {h : PH} {Q : PQ} {r0 : Nat} {a0 : Nat} (hs0 : h_sh h r0 = some (0, 11)) (hr1 : h_r h r0 2 = some a0) (hs2 : h_sh h a0 = some (0, 3)) (k : wpm d 39 [.ref a0] h (fun r h' => wpx d P_Ow_undo 7 [.ref r0] (r.toList ++ []) h' Q)) : wpx d P_Ow_undo 0 [.ref r0] [] h Q := by
  refine st_aload (pc' := 1) rfl rfl rfl ?_
  refine st_getfr (x := some a0) (Or.inl rfl) rfl hs0 rfl hr1 (pc' := 4) rfl ?_
  exact st_call (pc' := 7) (as := [.ref a0]) (rest := []) rfl rfl (Nat.le_of_ble_eq_true rfl) rfl rfl (Nat.le_of_ble_eq_true rfl) (kd := 1) (o := 3) rfl rfl (beq_iff_eq.mpr hs2) k
theorem B_Ow_undo_7 {d : Nat} {h : PH} {Q : PQ} {r0 : Nat} {s0 : Int32} (hz0 : narrow .boolean (.int s0) = .int s0) (k : Q (some (.int s0)) h) : wpx d P_Ow_undo 7 [.ref r0] [.int s0] h Q := by
  exact st_ireturn (ty := .boolean) rfl rfl hz0 k
theorem B_Ow_freshTree_0 {d : Nat} {h : PH} {Q : PQ} {r0 : Nat} (hs0 : h_sh h r0 = some (0, 11)) (kt : ∀ a, h_r h r0 5 = some a → wpx d P_Ow_freshTree 18 [.ref r0] [] h Q) (kf : h_r h r0 5 = none → wpx d P_Ow_freshTree 7 [.ref r0] [] h Q) : wpx d P_Ow_freshTree 0 [.ref r0] [] h Q := by
  refine st_aload (pc' := 1) rfl rfl rfl ?_
  refine st_getfr (x := h_r h r0 5) (Or.inl rfl) rfl hs0 rfl rfl (pc' := 4) rfl ?_
  exact st_nonnull rfl kt (pc' := 7) rfl kf
theorem B_Ow_freshTree_7 {d : Nat} {h : PH} {Q : PQ} {r0 : Nat}  (k : wpm d 91 [.ref (h_ct h)] (h_new h (0, 8) (fN 8)) (fun r h' => wpx d P_Ow_freshTree 15 [.ref r0] (r.toList ++ [.ref (h_ct h), .ref r0]) h' Q)) : wpx d P_Ow_freshTree 7 [.ref r0] [] h Q := by
  refine st_aload (pc' := 8) rfl rfl rfl ?_
  refine st_new rfl (pc' := 11) rfl ?_
  refine st_dup (pc' := 12) rfl rfl rfl ?_
  exact st_call (pc' := 15) (as := [.ref (h_ct h)]) (rest := [.ref (h_ct h), .ref r0]) rfl rfl (Nat.le_of_ble_eq_true rfl) rfl rfl (Nat.le_of_ble_eq_true rfl) (kd := 2) (o := 8) rfl rfl rfl k
theorem B_Ow_freshTree_15 {d : Nat} {h : PH} {Q : PQ} {r0 : Nat} {q0 : Nat} {q1 : Nat} (hs0 : h_sh h q0 = some (0, 11)) (k : wpx d P_Ow_freshTree 18 [.ref r0] [] (w_r h q0 5 (some q1)) Q) : wpx d P_Ow_freshTree 15 [.ref r0] [.ref q1, .ref q0] h Q := by
  refine st_putf (h' := w_r h q0 5 (some q1)) (Or.inl rfl) rfl hs0 rfl rfl rfl (pc' := 18) rfl ?_
  exact k
theorem B_Ow_freshTree_18 {d : Nat} {h : PH} {Q : PQ} {r0 : Nat} {a0 : Nat} {a1 : Nat} (hs0 : h_sh h r0 = some (0, 11)) (hr1 : h_r h r0 5 = some a0) (hs2 : h_sh h a0 = some (0, 8)) (hr3 : h_r h r0 2 = some a1) (hs4 : h_sh h a1 = some (0, 3)) (kt : (h_i h a0 10) = (h_i h a1 6) → wpx d P_Ow_freshTree 46 [.ref r0] [] h Q) (kf : ¬ ((h_i h a0 10) = (h_i h a1 6)) → wpx d P_Ow_freshTree 35 [.ref r0] [] h Q) : wpx d P_Ow_freshTree 18 [.ref r0] [] h Q := by
  refine st_aload (pc' := 19) rfl rfl rfl ?_
  refine st_getfr (x := some a0) (Or.inl rfl) rfl hs0 rfl hr1 (pc' := 22) rfl ?_
  refine st_getfi (Or.inr rfl) rfl hs2 rfl (pc' := 25) rfl ?_
  refine st_aload (pc' := 26) rfl rfl rfl ?_
  refine st_getfr (x := some a1) (Or.inl rfl) rfl hs0 rfl hr3 (pc' := 29) rfl ?_
  refine st_getfi (Or.inr rfl) rfl hs4 rfl (pc' := 32) rfl ?_
  exact st_icmp_eq (pc' := 35) rfl rfl kt kf
theorem B_Ow_freshTree_35 {d : Nat} {h : PH} {Q : PQ} {r0 : Nat} {a0 : Nat} {a1 : Nat} (hs0 : h_sh h r0 = some (0, 11)) (hr1 : h_r h r0 5 = some a0) (hr2 : h_r h r0 2 = some a1) (hs3 : h_sh h a0 = some (0, 8)) (k : wpm d 92 [.ref a0, .ref a1] h (fun r h' => wpx d P_Ow_freshTree 46 [.ref r0] (r.toList ++ []) h' Q)) : wpx d P_Ow_freshTree 35 [.ref r0] [] h Q := by
  refine st_aload (pc' := 36) rfl rfl rfl ?_
  refine st_getfr (x := some a0) (Or.inl rfl) rfl hs0 rfl hr1 (pc' := 39) rfl ?_
  refine st_aload (pc' := 40) rfl rfl rfl ?_
  refine st_getfr (x := some a1) (Or.inl rfl) rfl hs0 rfl hr2 (pc' := 43) rfl ?_
  exact st_call (pc' := 46) (as := [.ref a0, .ref a1]) (rest := []) rfl rfl (Nat.le_of_ble_eq_true rfl) rfl rfl (Nat.le_of_ble_eq_true rfl) (kd := 1) (o := 8) rfl rfl (beq_iff_eq.mpr hs3) k
theorem B_Ow_freshTree_46 {d : Nat} {h : PH} {Q : PQ} {r0 : Nat} {a0 : Nat} (hs0 : h_sh h r0 = some (0, 11)) (hr1 : h_r h r0 5 = some a0) (k : Q (some (.ref a0)) h) : wpx d P_Ow_freshTree 46 [.ref r0] [] h Q := by
  refine st_aload (pc' := 47) rfl rfl rfl ?_
  refine st_getfr (x := some a0) (Or.inl rfl) rfl hs0 rfl hr1 (pc' := 50) rfl ?_
  exact st_areturn rfl k
theorem B_Ow_freshTails_0 {d : Nat} {h : PH} {Q : PQ} {r0 : Nat} (hs0 : h_sh h r0 = some (0, 11)) (kt : ∀ a, h_r h r0 6 = some a → wpx d P_Ow_freshTails 18 [.ref r0] [] h Q) (kf : h_r h r0 6 = none → wpx d P_Ow_freshTails 7 [.ref r0] [] h Q) : wpx d P_Ow_freshTails 0 [.ref r0] [] h Q := by
  refine st_aload (pc' := 1) rfl rfl rfl ?_
  refine st_getfr (x := h_r h r0 6) (Or.inl rfl) rfl hs0 rfl rfl (pc' := 4) rfl ?_
  exact st_nonnull rfl kt (pc' := 7) rfl kf
theorem B_Ow_freshTails_7 {d : Nat} {h : PH} {Q : PQ} {r0 : Nat}  (k : wpm d 68 [.ref (h_ct h)] (h_new h (0, 6) (fN 6)) (fun r h' => wpx d P_Ow_freshTails 15 [.ref r0] (r.toList ++ [.ref (h_ct h), .ref r0]) h' Q)) : wpx d P_Ow_freshTails 7 [.ref r0] [] h Q := by
  refine st_aload (pc' := 8) rfl rfl rfl ?_
  refine st_new rfl (pc' := 11) rfl ?_
  refine st_dup (pc' := 12) rfl rfl rfl ?_
  exact st_call (pc' := 15) (as := [.ref (h_ct h)]) (rest := [.ref (h_ct h), .ref r0]) rfl rfl (Nat.le_of_ble_eq_true rfl) rfl rfl (Nat.le_of_ble_eq_true rfl) (kd := 2) (o := 6) rfl rfl rfl k
theorem B_Ow_freshTails_15 {d : Nat} {h : PH} {Q : PQ} {r0 : Nat} {q0 : Nat} {q1 : Nat} (hs0 : h_sh h q0 = some (0, 11)) (k : wpx d P_Ow_freshTails 18 [.ref r0] [] (w_r h q0 6 (some q1)) Q) : wpx d P_Ow_freshTails 15 [.ref r0] [.ref q1, .ref q0] h Q := by
  refine st_putf (h' := w_r h q0 6 (some q1)) (Or.inl rfl) rfl hs0 rfl rfl rfl (pc' := 18) rfl ?_
  exact k
theorem B_Ow_freshTails_18 {d : Nat} {h : PH} {Q : PQ} {r0 : Nat} {a0 : Nat} {a1 : Nat} (hs0 : h_sh h r0 = some (0, 11)) (hr1 : h_r h r0 6 = some a0) (hs2 : h_sh h a0 = some (0, 6)) (hr3 : h_r h r0 2 = some a1) (hs4 : h_sh h a1 = some (0, 3)) (kt : (h_i h a0 8) = (h_i h a1 6) → wpx d P_Ow_freshTails 47 [.ref r0] [] h Q) (kf : ¬ ((h_i h a0 8) = (h_i h a1 6)) → wpx d P_Ow_freshTails 35 [.ref r0] [] h Q) : wpx d P_Ow_freshTails 18 [.ref r0] [] h Q := by
  refine st_aload (pc' := 19) rfl rfl rfl ?_
  refine st_getfr (x := some a0) (Or.inl rfl) rfl hs0 rfl hr1 (pc' := 22) rfl ?_
  refine st_getfi (Or.inr rfl) rfl hs2 rfl (pc' := 25) rfl ?_
  refine st_aload (pc' := 26) rfl rfl rfl ?_
  refine st_getfr (x := some a1) (Or.inl rfl) rfl hs0 rfl hr3 (pc' := 29) rfl ?_
  refine st_getfi (Or.inr rfl) rfl hs4 rfl (pc' := 32) rfl ?_
  exact st_icmp_eq (pc' := 35) rfl rfl kt kf
theorem B_Ow_freshTails_35 {d : Nat} {h : PH} {Q : PQ} {r0 : Nat} {a0 : Nat} {a1 : Nat} (hs0 : h_sh h r0 = some (0, 11)) (hr1 : h_r h r0 6 = some a0) (hr2 : h_r h r0 2 = some a1) (hs3 : h_sh h a0 = some (0, 6)) (k : wpm d 69 [.ref a0, .ref a1, .int 0] h (fun r h' => wpx d P_Ow_freshTails 47 [.ref r0] (r.toList ++ []) h' Q)) : wpx d P_Ow_freshTails 35 [.ref r0] [] h Q := by
  refine st_aload (pc' := 36) rfl rfl rfl ?_
  refine st_getfr (x := some a0) (Or.inl rfl) rfl hs0 rfl hr1 (pc' := 39) rfl ?_
  refine st_aload (pc' := 40) rfl rfl rfl ?_
  refine st_getfr (x := some a1) (Or.inl rfl) rfl hs0 rfl hr2 (pc' := 43) rfl ?_
  refine st_ipush (pc' := 44) (v := 0) rfl rfl (by decide) ?_
  exact st_call (pc' := 47) (as := [.ref a0, .ref a1, .int 0]) (rest := []) rfl rfl (Nat.le_of_ble_eq_true rfl) rfl rfl (Nat.le_of_ble_eq_true rfl) (kd := 1) (o := 6) rfl rfl (beq_iff_eq.mpr hs3) k
theorem B_Ow_freshTails_47 {d : Nat} {h : PH} {Q : PQ} {r0 : Nat} {a0 : Nat} (hs0 : h_sh h r0 = some (0, 11)) (hr1 : h_r h r0 6 = some a0) (k : Q (some (.ref a0)) h) : wpx d P_Ow_freshTails 47 [.ref r0] [] h Q := by
  refine st_aload (pc' := 48) rfl rfl rfl ?_
  refine st_getfr (x := some a0) (Or.inl rfl) rfl hs0 rfl hr1 (pc' := 51) rfl ?_
  exact st_areturn rfl k
theorem B_Ow_freshCensus_0 {d : Nat} {h : PH} {Q : PQ} {r0 : Nat} (hs0 : h_sh h r0 = some (0, 11)) (kt : ∀ a, h_r h r0 10 = some a → wpx d P_Ow_freshCensus 18 [.ref r0] [] h Q) (kf : h_r h r0 10 = none → wpx d P_Ow_freshCensus 7 [.ref r0] [] h Q) : wpx d P_Ow_freshCensus 0 [.ref r0] [] h Q := by
  refine st_aload (pc' := 1) rfl rfl rfl ?_
  refine st_getfr (x := h_r h r0 10) (Or.inl rfl) rfl hs0 rfl rfl (pc' := 4) rfl ?_
  exact st_nonnull rfl kt (pc' := 7) rfl kf
theorem B_Ow_freshCensus_7 {d : Nat} {h : PH} {Q : PQ} {r0 : Nat}  (k : wpm d 14 [.ref (h_ct h)] (h_new h (0, 1) (fN 1)) (fun r h' => wpx d P_Ow_freshCensus 15 [.ref r0] (r.toList ++ [.ref (h_ct h), .ref r0]) h' Q)) : wpx d P_Ow_freshCensus 7 [.ref r0] [] h Q := by
  refine st_aload (pc' := 8) rfl rfl rfl ?_
  refine st_new rfl (pc' := 11) rfl ?_
  refine st_dup (pc' := 12) rfl rfl rfl ?_
  exact st_call (pc' := 15) (as := [.ref (h_ct h)]) (rest := [.ref (h_ct h), .ref r0]) rfl rfl (Nat.le_of_ble_eq_true rfl) rfl rfl (Nat.le_of_ble_eq_true rfl) (kd := 2) (o := 1) rfl rfl rfl k
theorem B_Ow_freshCensus_15 {d : Nat} {h : PH} {Q : PQ} {r0 : Nat} {q0 : Nat} {q1 : Nat} (hs0 : h_sh h q0 = some (0, 11)) (k : wpx d P_Ow_freshCensus 18 [.ref r0] [] (w_r h q0 10 (some q1)) Q) : wpx d P_Ow_freshCensus 15 [.ref r0] [.ref q1, .ref q0] h Q := by
  refine st_putf (h' := w_r h q0 10 (some q1)) (Or.inl rfl) rfl hs0 rfl rfl rfl (pc' := 18) rfl ?_
  exact k
theorem B_Ow_freshCensus_18 {d : Nat} {h : PH} {Q : PQ} {r0 : Nat} {a0 : Nat} {a1 : Nat} (hs0 : h_sh h r0 = some (0, 11)) (hr1 : h_r h r0 10 = some a0) (hs2 : h_sh h a0 = some (0, 1)) (hr3 : h_r h r0 2 = some a1) (hs4 : h_sh h a1 = some (0, 3)) (kt : (h_i h a0 10) = (h_i h a1 6) → wpx d P_Ow_freshCensus 53 [.ref r0] [] h Q) (kf : ¬ ((h_i h a0 10) = (h_i h a1 6)) → wpx d P_Ow_freshCensus 35 [.ref r0] [] h Q) : wpx d P_Ow_freshCensus 18 [.ref r0] [] h Q := by
  refine st_aload (pc' := 19) rfl rfl rfl ?_
  refine st_getfr (x := some a0) (Or.inl rfl) rfl hs0 rfl hr1 (pc' := 22) rfl ?_
  refine st_getfi (Or.inr rfl) rfl hs2 rfl (pc' := 25) rfl ?_
  refine st_aload (pc' := 26) rfl rfl rfl ?_
  refine st_getfr (x := some a1) (Or.inl rfl) rfl hs0 rfl hr3 (pc' := 29) rfl ?_
  refine st_getfi (Or.inr rfl) rfl hs4 rfl (pc' := 32) rfl ?_
  exact st_icmp_eq (pc' := 35) rfl rfl kt kf
theorem B_Ow_freshCensus_35 {d : Nat} {h : PH} {Q : PQ} {r0 : Nat} {a0 : Nat} (hs0 : h_sh h r0 = some (0, 11)) (hr1 : h_r h r0 10 = some a0) (k : wpm d 152 [.ref r0] h (fun r h' => wpx d P_Ow_freshCensus 43 [.ref r0] (r.toList ++ [.ref a0]) h' Q)) : wpx d P_Ow_freshCensus 35 [.ref r0] [] h Q := by
  refine st_aload (pc' := 36) rfl rfl rfl ?_
  refine st_getfr (x := some a0) (Or.inl rfl) rfl hs0 rfl hr1 (pc' := 39) rfl ?_
  refine st_aload (pc' := 40) rfl rfl rfl ?_
  exact st_call (pc' := 43) (as := [.ref r0]) (rest := [.ref a0]) rfl rfl (Nat.le_of_ble_eq_true rfl) rfl rfl (Nat.le_of_ble_eq_true rfl) (kd := 1) (o := 11) rfl rfl (beq_iff_eq.mpr hs0) k
theorem B_Ow_freshCensus_43 {d : Nat} {h : PH} {Q : PQ} {r0 : Nat} {q0 : Nat} {q1 : Nat} {a0 : Nat} (hs0 : h_sh h r0 = some (0, 11)) (hr1 : h_r h r0 2 = some a0) (hs2 : h_sh h a0 = some (0, 3)) (hs3 : h_sh h q0 = some (0, 1)) (k : wpm d 15 [.ref q0, .ref q1, .int (h_i h a0 6)] h (fun r h' => wpx d P_Ow_freshCensus 53 [.ref r0] (r.toList ++ []) h' Q)) : wpx d P_Ow_freshCensus 43 [.ref r0] [.ref q1, .ref q0] h Q := by
  refine st_aload (pc' := 44) rfl rfl rfl ?_
  refine st_getfr (x := some a0) (Or.inl rfl) rfl hs0 rfl hr1 (pc' := 47) rfl ?_
  refine st_getfi (Or.inr rfl) rfl hs2 rfl (pc' := 50) rfl ?_
  exact st_call (pc' := 53) (as := [.ref q0, .ref q1, .int (h_i h a0 6)]) (rest := []) rfl rfl (Nat.le_of_ble_eq_true rfl) rfl rfl (Nat.le_of_ble_eq_true rfl) (kd := 1) (o := 1) rfl rfl (beq_iff_eq.mpr hs3) k
theorem B_Ow_freshCensus_53 {d : Nat} {h : PH} {Q : PQ} {r0 : Nat} {a0 : Nat} (hs0 : h_sh h r0 = some (0, 11)) (hr1 : h_r h r0 10 = some a0) (k : Q (some (.ref a0)) h) : wpx d P_Ow_freshCensus 53 [.ref r0] [] h Q := by
  refine st_aload (pc' := 54) rfl rfl rfl ?_
  refine st_getfr (x := some a0) (Or.inl rfl) rfl hs0 rfl hr1 (pc' := 57) rfl ?_
  exact st_areturn rfl k
theorem B_Ow_freshBorders_0 {d : Nat} {h : PH} {Q : PQ} {r0 : Nat} (hs0 : h_sh h r0 = some (0, 11)) (kt : ∀ a, h_r h r0 11 = some a → wpx d P_Ow_freshBorders 18 [.ref r0] [] h Q) (kf : h_r h r0 11 = none → wpx d P_Ow_freshBorders 7 [.ref r0] [] h Q) : wpx d P_Ow_freshBorders 0 [.ref r0] [] h Q := by
  refine st_aload (pc' := 1) rfl rfl rfl ?_
  refine st_getfr (x := h_r h r0 11) (Or.inl rfl) rfl hs0 rfl rfl (pc' := 4) rfl ?_
  exact st_nonnull rfl kt (pc' := 7) rfl kf
theorem B_Ow_freshBorders_7 {d : Nat} {h : PH} {Q : PQ} {r0 : Nat}  (k : wpm d 0 [.ref (h_ct h)] (h_new h (0, 0) (fN 0)) (fun r h' => wpx d P_Ow_freshBorders 15 [.ref r0] (r.toList ++ [.ref (h_ct h), .ref r0]) h' Q)) : wpx d P_Ow_freshBorders 7 [.ref r0] [] h Q := by
  refine st_aload (pc' := 8) rfl rfl rfl ?_
  refine st_new rfl (pc' := 11) rfl ?_
  refine st_dup (pc' := 12) rfl rfl rfl ?_
  exact st_call (pc' := 15) (as := [.ref (h_ct h)]) (rest := [.ref (h_ct h), .ref r0]) rfl rfl (Nat.le_of_ble_eq_true rfl) rfl rfl (Nat.le_of_ble_eq_true rfl) (kd := 2) (o := 0) rfl rfl rfl k
theorem B_Ow_freshBorders_15 {d : Nat} {h : PH} {Q : PQ} {r0 : Nat} {q0 : Nat} {q1 : Nat} (hs0 : h_sh h q0 = some (0, 11)) (k : wpx d P_Ow_freshBorders 18 [.ref r0] [] (w_r h q0 11 (some q1)) Q) : wpx d P_Ow_freshBorders 15 [.ref r0] [.ref q1, .ref q0] h Q := by
  refine st_putf (h' := w_r h q0 11 (some q1)) (Or.inl rfl) rfl hs0 rfl rfl rfl (pc' := 18) rfl ?_
  exact k
theorem B_Ow_freshBorders_18 {d : Nat} {h : PH} {Q : PQ} {r0 : Nat} {a0 : Nat} {a1 : Nat} (hs0 : h_sh h r0 = some (0, 11)) (hr1 : h_r h r0 11 = some a0) (hs2 : h_sh h a0 = some (0, 0)) (hr3 : h_r h r0 2 = some a1) (hs4 : h_sh h a1 = some (0, 3)) (kt : (h_i h a0 5) = (h_i h a1 6) → wpx d P_Ow_freshBorders 53 [.ref r0] [] h Q) (kf : ¬ ((h_i h a0 5) = (h_i h a1 6)) → wpx d P_Ow_freshBorders 35 [.ref r0] [] h Q) : wpx d P_Ow_freshBorders 18 [.ref r0] [] h Q := by
  refine st_aload (pc' := 19) rfl rfl rfl ?_
  refine st_getfr (x := some a0) (Or.inl rfl) rfl hs0 rfl hr1 (pc' := 22) rfl ?_
  refine st_getfi (Or.inr rfl) rfl hs2 rfl (pc' := 25) rfl ?_
  refine st_aload (pc' := 26) rfl rfl rfl ?_
  refine st_getfr (x := some a1) (Or.inl rfl) rfl hs0 rfl hr3 (pc' := 29) rfl ?_
  refine st_getfi (Or.inr rfl) rfl hs4 rfl (pc' := 32) rfl ?_
  exact st_icmp_eq (pc' := 35) rfl rfl kt kf
theorem B_Ow_freshBorders_35 {d : Nat} {h : PH} {Q : PQ} {r0 : Nat} {a0 : Nat} (hs0 : h_sh h r0 = some (0, 11)) (hr1 : h_r h r0 11 = some a0) (k : wpm d 152 [.ref r0] h (fun r h' => wpx d P_Ow_freshBorders 43 [.ref r0] (r.toList ++ [.ref a0]) h' Q)) : wpx d P_Ow_freshBorders 35 [.ref r0] [] h Q := by
  refine st_aload (pc' := 36) rfl rfl rfl ?_
  refine st_getfr (x := some a0) (Or.inl rfl) rfl hs0 rfl hr1 (pc' := 39) rfl ?_
  refine st_aload (pc' := 40) rfl rfl rfl ?_
  exact st_call (pc' := 43) (as := [.ref r0]) (rest := [.ref a0]) rfl rfl (Nat.le_of_ble_eq_true rfl) rfl rfl (Nat.le_of_ble_eq_true rfl) (kd := 1) (o := 11) rfl rfl (beq_iff_eq.mpr hs0) k
theorem B_Ow_freshBorders_43 {d : Nat} {h : PH} {Q : PQ} {r0 : Nat} {q0 : Nat} {q1 : Nat} {a0 : Nat} (hs0 : h_sh h r0 = some (0, 11)) (hr1 : h_r h r0 2 = some a0) (hs2 : h_sh h a0 = some (0, 3)) (hs3 : h_sh h q0 = some (0, 0)) (k : wpm d 1 [.ref q0, .ref q1, .int (h_i h a0 6)] h (fun r h' => wpx d P_Ow_freshBorders 53 [.ref r0] (r.toList ++ []) h' Q)) : wpx d P_Ow_freshBorders 43 [.ref r0] [.ref q1, .ref q0] h Q := by
  refine st_aload (pc' := 44) rfl rfl rfl ?_
  refine st_getfr (x := some a0) (Or.inl rfl) rfl hs0 rfl hr1 (pc' := 47) rfl ?_
  refine st_getfi (Or.inr rfl) rfl hs2 rfl (pc' := 50) rfl ?_
  exact st_call (pc' := 53) (as := [.ref q0, .ref q1, .int (h_i h a0 6)]) (rest := []) rfl rfl (Nat.le_of_ble_eq_true rfl) rfl rfl (Nat.le_of_ble_eq_true rfl) (kd := 1) (o := 0) rfl rfl (beq_iff_eq.mpr hs3) k
theorem B_Ow_freshBorders_53 {d : Nat} {h : PH} {Q : PQ} {r0 : Nat} {a0 : Nat} (hs0 : h_sh h r0 = some (0, 11)) (hr1 : h_r h r0 11 = some a0) (k : Q (some (.ref a0)) h) : wpx d P_Ow_freshBorders 53 [.ref r0] [] h Q := by
  refine st_aload (pc' := 54) rfl rfl rfl ?_
  refine st_getfr (x := some a0) (Or.inl rfl) rfl hs0 rfl hr1 (pc' := 57) rfl ?_
  exact st_areturn rfl k
theorem B_Ow_theReader_0 {d : Nat} {h : PH} {Q : PQ} {r0 : Nat} (hs0 : h_sh h r0 = some (0, 11)) (kt : ∀ a, h_r h r0 8 = some a → wpx d P_Ow_theReader 18 [.ref r0] [] h Q) (kf : h_r h r0 8 = none → wpx d P_Ow_theReader 7 [.ref r0] [] h Q) : wpx d P_Ow_theReader 0 [.ref r0] [] h Q := by
  refine st_aload (pc' := 1) rfl rfl rfl ?_
  refine st_getfr (x := h_r h r0 8) (Or.inl rfl) rfl hs0 rfl rfl (pc' := 4) rfl ?_
  exact st_nonnull rfl kt (pc' := 7) rfl kf
theorem B_Ow_theReader_7 {d : Nat} {h : PH} {Q : PQ} {r0 : Nat}  (k : wpm d 48 [.ref (h_ct h)] (h_new h (0, 4) (fN 4)) (fun r h' => wpx d P_Ow_theReader 15 [.ref r0] (r.toList ++ [.ref (h_ct h), .ref r0]) h' Q)) : wpx d P_Ow_theReader 7 [.ref r0] [] h Q := by
  refine st_aload (pc' := 8) rfl rfl rfl ?_
  refine st_new rfl (pc' := 11) rfl ?_
  refine st_dup (pc' := 12) rfl rfl rfl ?_
  exact st_call (pc' := 15) (as := [.ref (h_ct h)]) (rest := [.ref (h_ct h), .ref r0]) rfl rfl (Nat.le_of_ble_eq_true rfl) rfl rfl (Nat.le_of_ble_eq_true rfl) (kd := 2) (o := 4) rfl rfl rfl k
theorem B_Ow_theReader_15 {d : Nat} {h : PH} {Q : PQ} {r0 : Nat} {q0 : Nat} {q1 : Nat} (hs0 : h_sh h q0 = some (0, 11)) (k : wpx d P_Ow_theReader 18 [.ref r0] [] (w_r h q0 8 (some q1)) Q) : wpx d P_Ow_theReader 15 [.ref r0] [.ref q1, .ref q0] h Q := by
  refine st_putf (h' := w_r h q0 8 (some q1)) (Or.inl rfl) rfl hs0 rfl rfl rfl (pc' := 18) rfl ?_
  exact k
theorem B_Ow_theReader_18 {d : Nat} {h : PH} {Q : PQ} {r0 : Nat} {a0 : Nat} (hs0 : h_sh h r0 = some (0, 11)) (hr1 : h_r h r0 8 = some a0) (k : Q (some (.ref a0)) h) : wpx d P_Ow_theReader 18 [.ref r0] [] h Q := by
  refine st_aload (pc' := 19) rfl rfl rfl ?_
  refine st_getfr (x := some a0) (Or.inl rfl) rfl hs0 rfl hr1 (pc' := 22) rfl ?_
  exact st_areturn rfl k
theorem B_Ow_theCures_0 {d : Nat} {h : PH} {Q : PQ} {r0 : Nat} (hs0 : h_sh h r0 = some (0, 11)) (kt : ∀ a, h_r h r0 12 = some a → wpx d P_Ow_theCures 18 [.ref r0] [] h Q) (kf : h_r h r0 12 = none → wpx d P_Ow_theCures 7 [.ref r0] [] h Q) : wpx d P_Ow_theCures 0 [.ref r0] [] h Q := by
  refine st_aload (pc' := 1) rfl rfl rfl ?_
  refine st_getfr (x := h_r h r0 12) (Or.inl rfl) rfl hs0 rfl rfl (pc' := 4) rfl ?_
  exact st_nonnull rfl kt (pc' := 7) rfl kf
theorem B_Ow_theCures_7 {d : Nat} {h : PH} {Q : PQ} {r0 : Nat}  (k : wpm d 25 [.ref (h_ct h)] (h_new h (0, 2) (fN 2)) (fun r h' => wpx d P_Ow_theCures 15 [.ref r0] (r.toList ++ [.ref (h_ct h), .ref r0]) h' Q)) : wpx d P_Ow_theCures 7 [.ref r0] [] h Q := by
  refine st_aload (pc' := 8) rfl rfl rfl ?_
  refine st_new rfl (pc' := 11) rfl ?_
  refine st_dup (pc' := 12) rfl rfl rfl ?_
  exact st_call (pc' := 15) (as := [.ref (h_ct h)]) (rest := [.ref (h_ct h), .ref r0]) rfl rfl (Nat.le_of_ble_eq_true rfl) rfl rfl (Nat.le_of_ble_eq_true rfl) (kd := 2) (o := 2) rfl rfl rfl k
theorem B_Ow_theCures_15 {d : Nat} {h : PH} {Q : PQ} {r0 : Nat} {q0 : Nat} {q1 : Nat} (hs0 : h_sh h q0 = some (0, 11)) (k : wpx d P_Ow_theCures 18 [.ref r0] [] (w_r h q0 12 (some q1)) Q) : wpx d P_Ow_theCures 15 [.ref r0] [.ref q1, .ref q0] h Q := by
  refine st_putf (h' := w_r h q0 12 (some q1)) (Or.inl rfl) rfl hs0 rfl rfl rfl (pc' := 18) rfl ?_
  exact k
theorem B_Ow_theCures_18 {d : Nat} {h : PH} {Q : PQ} {r0 : Nat} {a0 : Nat} (hs0 : h_sh h r0 = some (0, 11)) (hr1 : h_r h r0 12 = some a0) (k : Q (some (.ref a0)) h) : wpx d P_Ow_theCures 18 [.ref r0] [] h Q := by
  refine st_aload (pc' := 19) rfl rfl rfl ?_
  refine st_getfr (x := some a0) (Or.inl rfl) rfl hs0 rfl hr1 (pc' := 22) rfl ?_
  exact st_areturn rfl k
theorem B_Ow_put_0 {d : Nat} {h : PH} {Q : PQ} {r0 : Nat} {x1 : Int32} {v2 : Value}  (k : wpx d P_Ow_put 3 [.ref r0, .int x1, .int 24] [] h Q) : wpx d P_Ow_put 0 [.ref r0, .int x1, v2] [] h Q := by
  refine st_ipush (pc' := 2) (v := 24) rfl rfl (by decide) ?_
  refine st_istore (pc' := 3) (ls' := [.ref r0, .int x1, .int 24]) rfl rfl (Nat.le_of_ble_eq_true rfl) rfl ?_
  exact k
theorem B_Ow_put_3 {d : Nat} {h : PH} {Q : PQ} {r0 : Nat} {x1 : Int32} {x2 : Int32}  (kt : x2 < 0 → wpx d P_Ow_put 46 [.ref r0, .int x1, .int x2] [] h Q) (kf : ¬ (x2 < 0) → wpx d P_Ow_put 7 [.ref r0, .int x1, .int x2] [] h Q) : wpx d P_Ow_put 3 [.ref r0, .int x1, .int x2] [] h Q := by
  refine st_iload (pc' := 4) rfl rfl rfl ?_
  exact st_if_lt (pc' := 7) rfl rfl kt kf
theorem B_Ow_put_7 {d : Nat} {h : PH} {Q : PQ} {r0 : Nat} {x1 : Int32} {x2 : Int32} (hs0 : h_sh h r0 = some (0, 11)) (kt : (600 : Int32) ≤ (h_i h r0 1) → wpx d P_Ow_put 46 [.ref r0, .int x1, .int x2] [] h Q) (kf : ¬ ((600 : Int32) ≤ (h_i h r0 1)) → wpx d P_Ow_put 17 [.ref r0, .int x1, .int x2] [] h Q) : wpx d P_Ow_put 7 [.ref r0, .int x1, .int x2] [] h Q := by
  refine st_aload (pc' := 8) rfl rfl rfl ?_
  refine st_getfi (Or.inl rfl) rfl hs0 rfl (pc' := 11) rfl ?_
  refine st_ipush (pc' := 14) (v := 600) rfl rfl (by decide) ?_
  exact st_icmp_ge (pc' := 17) rfl rfl kt kf
theorem B_Ow_put_17 {d : Nat} {h : PH} {Q : PQ} {r0 : Nat} {x1 : Int32} {x2 : Int32} {a0 : Nat} {n1 : Nat} (hs0 : h_sh h r0 = some (0, 11)) (hr1 : h_r h r0 0 = some a0) (hs2 : h_sh h a0 = some (2, n1)) (hb3 : vp_in (h_i h r0 1) n1) (k : wpx d P_Ow_put 40 [.ref r0, .int x1, .int x2] [] (w_i (w_i h a0 ((h_i h r0 1).toNatClampNeg) ((((x1.toUInt32 >>> (x2.toUInt32 &&& Int32.toUInt32 31)).toInt32).toInt8.toInt32).toInt8.toInt32)) r0 1 ((h_i (w_i h a0 ((h_i h r0 1).toNatClampNeg) ((((x1.toUInt32 >>> (x2.toUInt32 &&& Int32.toUInt32 31)).toInt32).toInt8.toInt32).toInt8.toInt32)) r0 1) + (1 : Int32))) Q) : wpx d P_Ow_put 17 [.ref r0, .int x1, .int x2] [] h Q := by
  refine st_aload (pc' := 18) rfl rfl rfl ?_
  refine st_getfr (x := some a0) (Or.inl rfl) rfl hs0 rfl hr1 (pc' := 21) rfl ?_
  refine st_aload (pc' := 22) rfl rfl rfl ?_
  refine st_getfi (Or.inl rfl) rfl hs0 rfl (pc' := 25) rfl ?_
  refine st_iload (pc' := 26) rfl rfl rfl ?_
  refine st_iload (pc' := 27) rfl rfl rfl ?_
  refine st_iushr (pc' := 28) rfl rfl ?_
  refine st_i2b (pc' := 29) rfl rfl ?_
  refine st_bastore rfl hs2 hb3 (j := (h_i h r0 1).toNatClampNeg) rfl (pc' := 30) rfl ?_
  refine st_aload (pc' := 31) rfl rfl rfl ?_
  refine st_dup (pc' := 32) rfl rfl rfl ?_
  refine st_getfi (Or.inl rfl) rfl hs0 rfl (pc' := 35) rfl ?_
  refine st_ipush (pc' := 36) (v := 1) rfl rfl (by decide) ?_
  refine st_iadd (pc' := 37) rfl rfl ?_
  refine st_putf (h' := w_i (w_i h a0 ((h_i h r0 1).toNatClampNeg) ((((x1.toUInt32 >>> (x2.toUInt32 &&& Int32.toUInt32 31)).toInt32).toInt8.toInt32).toInt8.toInt32)) r0 1 ((h_i (w_i h a0 ((h_i h r0 1).toNatClampNeg) ((((x1.toUInt32 >>> (x2.toUInt32 &&& Int32.toUInt32 31)).toInt32).toInt8.toInt32).toInt8.toInt32)) r0 1) + (1 : Int32))) (Or.inl rfl) rfl hs0 rfl rfl rfl (pc' := 40) rfl ?_
  exact k
theorem B_Ow_put_46 {d : Nat} {h : PH} {Q : PQ} {r0 : Nat} {x1 : Int32} {x2 : Int32}  (k : Q none h) : wpx d P_Ow_put 46 [.ref r0, .int x1, .int x2] [] h Q := by
  exact st_return rfl k
theorem B_Ow_put_40 {d : Nat} {h : PH} {Q : PQ} {r0 : Nat} {x1 : Int32} {x2 : Int32}  (k : wpx d P_Ow_put 3 [.ref r0, .int x1, .int (x2 + (-8))] [] h Q) : wpx d P_Ow_put 40 [.ref r0, .int x1, .int x2] [] h Q := by
  refine st_iinc (pc' := 43) (v := (-8)) (ls' := [.ref r0, .int x1, .int (x2 + (-8))]) rfl rfl rfl (by decide) rfl ?_
  exact st_goto rfl k
theorem B_Ow_power_0 {d : Nat} {h : PH} {Q : PQ} {l0 : Int64} {x2 : Int32} {v3 : Value} {v4 : Value} {v5 : Value}  (k : wpx d P_Ow_power 5 [.long l0, .retAddr 2, .int x2, .long 1, .retAddr 2, .int 0] [] h Q) : wpx d P_Ow_power 0 [.long l0, .retAddr 2, .int x2, v3, v4, v5] [] h Q := by
  refine st_lpush (pc' := 1) (v := 1) rfl rfl (by decide) ?_
  refine st_lstore (pc' := 2) (ls' := [.long l0, .retAddr 2, .int x2, .long 1, .retAddr 2, v5]) rfl rfl (Nat.le_of_ble_eq_true rfl) rfl ?_
  refine st_ipush (pc' := 3) (v := 0) rfl rfl (by decide) ?_
  refine st_istore (pc' := 5) (ls' := [.long l0, .retAddr 2, .int x2, .long 1, .retAddr 2, .int 0]) rfl rfl (Nat.le_of_ble_eq_true rfl) rfl ?_
  exact k
theorem B_Ow_power_5 {d : Nat} {h : PH} {Q : PQ} {l0 : Int64} {x2 : Int32} {l3 : Int64} {x5 : Int32}  (kt : x2 ≤ x5 → wpx d P_Ow_power 21 [.long l0, .retAddr 2, .int x2, .long l3, .retAddr 2, .int x5] [] h Q) (kf : ¬ (x2 ≤ x5) → wpx d P_Ow_power 11 [.long l0, .retAddr 2, .int x2, .long l3, .retAddr 2, .int x5] [] h Q) : wpx d P_Ow_power 5 [.long l0, .retAddr 2, .int x2, .long l3, .retAddr 2, .int x5] [] h Q := by
  refine st_iload (pc' := 7) rfl rfl rfl ?_
  refine st_iload (pc' := 8) rfl rfl rfl ?_
  exact st_icmp_ge (pc' := 11) rfl rfl kt kf
theorem B_Ow_power_11 {d : Nat} {h : PH} {Q : PQ} {l0 : Int64} {x2 : Int32} {l3 : Int64} {x5 : Int32}  (k : wpx d P_Ow_power 5 [.long l0, .retAddr 2, .int x2, .long (l3 * l0), .retAddr 2, .int (x5 + 1)] [] h Q) : wpx d P_Ow_power 11 [.long l0, .retAddr 2, .int x2, .long l3, .retAddr 2, .int x5] [] h Q := by
  refine st_lload (pc' := 12) rfl rfl rfl rfl ?_
  refine st_lload (pc' := 13) rfl rfl rfl rfl ?_
  refine st_lmul (pc' := 14) rfl rfl ?_
  refine st_lstore (pc' := 15) (ls' := [.long l0, .retAddr 2, .int x2, .long (l3 * l0), .retAddr 2, .int x5]) rfl rfl (Nat.le_of_ble_eq_true rfl) rfl ?_
  refine st_iinc (pc' := 18) (v := 1) (ls' := [.long l0, .retAddr 2, .int x2, .long (l3 * l0), .retAddr 2, .int (x5 + 1)]) rfl rfl rfl (by decide) rfl ?_
  exact st_goto rfl k
theorem B_Ow_power_21 {d : Nat} {h : PH} {Q : PQ} {l0 : Int64} {x2 : Int32} {l3 : Int64} {x5 : Int32}  (k : Q (some (.long l3)) h) : wpx d P_Ow_power 21 [.long l0, .retAddr 2, .int x2, .long l3, .retAddr 2, .int x5] [] h Q := by
  refine st_lload (pc' := 22) rfl rfl rfl rfl ?_
  exact st_lreturn rfl k
theorem B_Ow_commonDivisor_0 {d : Nat} {h : PH} {Q : PQ} {l0 : Int64} {l2 : Int64} {v4 : Value} {v5 : Value} {v6 : Value}  (k : wpx d P_Ow_commonDivisor 3 [.long l0, .retAddr 2, .long l2, .retAddr 2, .int 0, v5, v6] [] h Q) : wpx d P_Ow_commonDivisor 0 [.long l0, .retAddr 2, .long l2, .retAddr 2, v4, v5, v6] [] h Q := by
  refine st_ipush (pc' := 1) (v := 0) rfl rfl (by decide) ?_
  refine st_istore (pc' := 3) (ls' := [.long l0, .retAddr 2, .long l2, .retAddr 2, .int 0, v5, v6]) rfl rfl (Nat.le_of_ble_eq_true rfl) rfl ?_
  exact k
theorem B_Ow_commonDivisor_3 {d : Nat} {h : PH} {Q : PQ} {l0 : Int64} {l2 : Int64} {x4 : Int32} {v5 : Value} {v6 : Value}  (kt : (100 : Int32) ≤ x4 → wpx d P_Ow_commonDivisor 32 [.long l0, .retAddr 2, .long l2, .retAddr 2, .int x4, v5, v6] [] h Q) (kf : ¬ ((100 : Int32) ≤ x4) → wpx d P_Ow_commonDivisor 10 [.long l0, .retAddr 2, .long l2, .retAddr 2, .int x4, v5, v6] [] h Q) : wpx d P_Ow_commonDivisor 3 [.long l0, .retAddr 2, .long l2, .retAddr 2, .int x4, v5, v6] [] h Q := by
  refine st_iload (pc' := 5) rfl rfl rfl ?_
  refine st_ipush (pc' := 7) (v := 100) rfl rfl (by decide) ?_
  exact st_icmp_ge (pc' := 10) rfl rfl kt kf
theorem B_Ow_commonDivisor_10 {d : Nat} {h : PH} {Q : PQ} {l0 : Int64} {l2 : Int64} {x4 : Int32} {v5 : Value} {v6 : Value}  (kt : (lg_cmp l2 (0 : Int64)) = 0 → wpx d P_Ow_commonDivisor 32 [.long l0, .retAddr 2, .long l2, .retAddr 2, .int x4, v5, v6] [] h Q) (kf : ¬ ((lg_cmp l2 (0 : Int64)) = 0) → wpx d P_Ow_commonDivisor 16 [.long l0, .retAddr 2, .long l2, .retAddr 2, .int x4, v5, v6] [] h Q) : wpx d P_Ow_commonDivisor 10 [.long l0, .retAddr 2, .long l2, .retAddr 2, .int x4, v5, v6] [] h Q := by
  refine st_lload (pc' := 11) rfl rfl rfl rfl ?_
  refine st_lpush (pc' := 12) (v := 0) rfl rfl (by decide) ?_
  refine st_lcmp (pc' := 13) rfl rfl ?_
  exact st_if_eq (pc' := 16) rfl rfl kt kf
theorem B_Ow_commonDivisor_16 {d : Nat} {h : PH} {Q : PQ} {l0 : Int64} {l2 : Int64} {x4 : Int32} {v5 : Value} {v6 : Value} (hz0 : ¬ l2 = 0) (k : wpx d P_Ow_commonDivisor 3 [.long l2, .retAddr 2, .long (l0 - l0 / l2 * l2), .retAddr 2, .int (x4 + 1), .long (l0 - l0 / l2 * l2), .retAddr 2] [] h Q) : wpx d P_Ow_commonDivisor 16 [.long l0, .retAddr 2, .long l2, .retAddr 2, .int x4, v5, v6] [] h Q := by
  refine st_lload (pc' := 17) rfl rfl rfl rfl ?_
  refine st_lload (pc' := 18) rfl rfl rfl rfl ?_
  refine st_lrem rfl hz0 (pc' := 19) rfl ?_
  refine st_lstore (pc' := 21) (ls' := [.long l0, .retAddr 2, .long l2, .retAddr 2, .int x4, .long (l0 - l0 / l2 * l2), .retAddr 2]) rfl rfl (Nat.le_of_ble_eq_true rfl) rfl ?_
  refine st_lload (pc' := 22) rfl rfl rfl rfl ?_
  refine st_lstore (pc' := 23) (ls' := [.long l2, .retAddr 2, .long l2, .retAddr 2, .int x4, .long (l0 - l0 / l2 * l2), .retAddr 2]) rfl rfl (Nat.le_of_ble_eq_true rfl) rfl ?_
  refine st_lload (pc' := 25) rfl rfl rfl rfl ?_
  refine st_lstore (pc' := 26) (ls' := [.long l2, .retAddr 2, .long (l0 - l0 / l2 * l2), .retAddr 2, .int x4, .long (l0 - l0 / l2 * l2), .retAddr 2]) rfl rfl (Nat.le_of_ble_eq_true rfl) rfl ?_
  refine st_iinc (pc' := 29) (v := 1) (ls' := [.long l2, .retAddr 2, .long (l0 - l0 / l2 * l2), .retAddr 2, .int (x4 + 1), .long (l0 - l0 / l2 * l2), .retAddr 2]) rfl rfl rfl (by decide) rfl ?_
  exact st_goto rfl k
theorem B_Ow_commonDivisor_32 {d : Nat} {h : PH} {Q : PQ} {l0 : Int64} {l2 : Int64} {x4 : Int32} {v5 : Value} {v6 : Value}  (k : Q (some (.long l0)) h) : wpx d P_Ow_commonDivisor 32 [.long l0, .retAddr 2, .long l2, .retAddr 2, .int x4, v5, v6] [] h Q := by
  refine st_lload (pc' := 33) rfl rfl rfl rfl ?_
  exact st_lreturn rfl k
theorem B_Ow_lower_0 {d : Nat} {h : PH} {Q : PQ} {r0 : Nat} {x1 : Int32} {v2 : Value}  (k : wpx d P_Ow_lower 2 [.ref r0, .int x1, .int 0] [] h Q) : wpx d P_Ow_lower 0 [.ref r0, .int x1, v2] [] h Q := by
  refine st_ipush (pc' := 1) (v := 0) rfl rfl (by decide) ?_
  refine st_istore (pc' := 2) (ls' := [.ref r0, .int x1, .int 0]) rfl rfl (Nat.le_of_ble_eq_true rfl) rfl ?_
  exact k
theorem B_Ow_lower_2 {d : Nat} {h : PH} {Q : PQ} {r0 : Nat} {x1 : Int32} {x2 : Int32}  (kt : x1 ≤ x2 → wpx d P_Ow_lower 23 [.ref r0, .int x1, .int x2] [] h Q) (kf : ¬ (x1 ≤ x2) → wpx d P_Ow_lower 7 [.ref r0, .int x1, .int x2] [] h Q) : wpx d P_Ow_lower 2 [.ref r0, .int x1, .int x2] [] h Q := by
  refine st_iload (pc' := 3) rfl rfl rfl ?_
  refine st_iload (pc' := 4) rfl rfl rfl ?_
  exact st_icmp_ge (pc' := 7) rfl rfl kt kf
theorem B_Ow_lower_7 {d : Nat} {h : PH} {Q : PQ} {r0 : Nat} {x1 : Int32} {x2 : Int32} {n0 : Nat} (hs0 : h_sh h r0 = some (3, n0)) (kt : (Int32.ofNat n0) ≤ x2 → wpx d P_Ow_lower 23 [.ref r0, .int x1, .int x2] [] h Q) (kf : ¬ ((Int32.ofNat n0) ≤ x2) → wpx d P_Ow_lower 13 [.ref r0, .int x1, .int x2] [] h Q) : wpx d P_Ow_lower 7 [.ref r0, .int x1, .int x2] [] h Q := by
  refine st_iload (pc' := 8) rfl rfl rfl ?_
  refine st_aload (pc' := 9) rfl rfl rfl ?_
  refine st_alen rfl hs0 (by decide) (pc' := 10) rfl ?_
  exact st_icmp_ge (pc' := 13) rfl rfl kt kf
theorem B_Ow_lower_13 {d : Nat} {h : PH} {Q : PQ} {r0 : Nat} {x1 : Int32} {x2 : Int32} {n0 : Nat} (hs0 : h_sh h r0 = some (3, n0)) (hb1 : vp_in x2 n0) (k : wpx d P_Ow_lower 2 [.ref r0, .int x1, .int (x2 + 1)] [] (w_i h r0 x2.toNatClampNeg ((0 : Int32) &&& 1)) Q) : wpx d P_Ow_lower 13 [.ref r0, .int x1, .int x2] [] h Q := by
  refine st_aload (pc' := 14) rfl rfl rfl ?_
  refine st_iload (pc' := 15) rfl rfl rfl ?_
  refine st_ipush (pc' := 16) (v := 0) rfl rfl (by decide) ?_
  refine st_zastore rfl hs0 hb1 (j := x2.toNatClampNeg) rfl (pc' := 17) rfl ?_
  refine st_iinc (pc' := 20) (v := 1) (ls' := [.ref r0, .int x1, .int (x2 + 1)]) rfl rfl rfl (by decide) rfl ?_
  exact st_goto rfl k
theorem B_Ow_lower_23 {d : Nat} {h : PH} {Q : PQ} {r0 : Nat} {x1 : Int32} {x2 : Int32}  (k : Q none h) : wpx d P_Ow_lower 23 [.ref r0, .int x1, .int x2] [] h Q := by
  exact st_return rfl k
theorem B_Ow_begins_0 {d : Nat} {h : PH} {Q : PQ} {l0 : Int64} {x2 : Int32} {l3 : Int64} {x5 : Int32}  (kt : x5 < x2 → wpx d P_Ow_begins 23 [.long l0, .retAddr 2, .int x2, .long l3, .retAddr 2, .int x5] [] h Q) (kf : ¬ (x5 < x2) → wpx d P_Ow_begins 6 [.long l0, .retAddr 2, .int x2, .long l3, .retAddr 2, .int x5] [] h Q) : wpx d P_Ow_begins 0 [.long l0, .retAddr 2, .int x2, .long l3, .retAddr 2, .int x5] [] h Q := by
  refine st_iload (pc' := 1) rfl rfl rfl ?_
  refine st_iload (pc' := 3) rfl rfl rfl ?_
  exact st_icmp_gt (pc' := 6) rfl rfl kt kf
theorem B_Ow_begins_6 {d : Nat} {h : PH} {Q : PQ} {l0 : Int64} {x2 : Int32} {l3 : Int64} {x5 : Int32}  (kt : ¬ ((lg_cmp ((l3.toUInt64 >>> (((5 : Int32) * (x5 - x2)).toInt64.toUInt64 &&& Int64.toUInt64 63)).toInt64) l0) = 0) → wpx d P_Ow_begins 23 [.long l0, .retAddr 2, .int x2, .long l3, .retAddr 2, .int x5] [] h Q) (kf : (lg_cmp ((l3.toUInt64 >>> (((5 : Int32) * (x5 - x2)).toInt64.toUInt64 &&& Int64.toUInt64 63)).toInt64) l0) = 0 → wpx d P_Ow_begins 19 [.long l0, .retAddr 2, .int x2, .long l3, .retAddr 2, .int x5] [] h Q) : wpx d P_Ow_begins 6 [.long l0, .retAddr 2, .int x2, .long l3, .retAddr 2, .int x5] [] h Q := by
  refine st_lload (pc' := 7) rfl rfl rfl rfl ?_
  refine st_ipush (pc' := 8) (v := 5) rfl rfl (by decide) ?_
  refine st_iload (pc' := 10) rfl rfl rfl ?_
  refine st_iload (pc' := 11) rfl rfl rfl ?_
  refine st_isub (pc' := 12) rfl rfl ?_
  refine st_imul (pc' := 13) rfl rfl ?_
  refine st_lushr (pc' := 14) rfl rfl ?_
  refine st_lload (pc' := 15) rfl rfl rfl rfl ?_
  refine st_lcmp (pc' := 16) rfl rfl ?_
  exact st_if_ne (pc' := 19) rfl rfl kt kf
theorem B_Ow_begins_19 {d : Nat} {h : PH} {Q : PQ} {l0 : Int64} {x2 : Int32} {l3 : Int64} {x5 : Int32}  (k : wpx d P_Ow_begins 24 [.long l0, .retAddr 2, .int x2, .long l3, .retAddr 2, .int x5] [.int 1] h Q) : wpx d P_Ow_begins 19 [.long l0, .retAddr 2, .int x2, .long l3, .retAddr 2, .int x5] [] h Q := by
  refine st_ipush (pc' := 20) (v := 1) rfl rfl (by decide) ?_
  exact st_goto rfl k
theorem B_Ow_begins_23 {d : Nat} {h : PH} {Q : PQ} {l0 : Int64} {x2 : Int32} {l3 : Int64} {x5 : Int32}  (k : wpx d P_Ow_begins 24 [.long l0, .retAddr 2, .int x2, .long l3, .retAddr 2, .int x5] [.int 0] h Q) : wpx d P_Ow_begins 23 [.long l0, .retAddr 2, .int x2, .long l3, .retAddr 2, .int x5] [] h Q := by
  refine st_ipush (pc' := 24) (v := 0) rfl rfl (by decide) ?_
  exact k
theorem B_Ow_begins_24 {d : Nat} {h : PH} {Q : PQ} {l0 : Int64} {x2 : Int32} {l3 : Int64} {x5 : Int32} {s0 : Int32} (hz0 : narrow .boolean (.int s0) = .int s0) (k : Q (some (.int s0)) h) : wpx d P_Ow_begins 24 [.long l0, .retAddr 2, .int x2, .long l3, .retAddr 2, .int x5] [.int s0] h Q := by
  exact st_ireturn (ty := .boolean) rfl rfl hz0 k
theorem B_Ow_ends_0 {d : Nat} {h : PH} {Q : PQ} {l0 : Int64} {x2 : Int32} {l3 : Int64} {x5 : Int32}  (kt : x5 < x2 → wpx d P_Ow_ends 20 [.long l0, .retAddr 2, .int x2, .long l3, .retAddr 2, .int x5] [] h Q) (kf : ¬ (x5 < x2) → wpx d P_Ow_ends 6 [.long l0, .retAddr 2, .int x2, .long l3, .retAddr 2, .int x5] [] h Q) : wpx d P_Ow_ends 0 [.long l0, .retAddr 2, .int x2, .long l3, .retAddr 2, .int x5] [] h Q := by
  refine st_iload (pc' := 1) rfl rfl rfl ?_
  refine st_iload (pc' := 3) rfl rfl rfl ?_
  exact st_icmp_gt (pc' := 6) rfl rfl kt kf
theorem B_Ow_ends_6 {d : Nat} {h : PH} {Q : PQ} {l0 : Int64} {x2 : Int32} {l3 : Int64} {x5 : Int32}  (k : wpm d 164 [.long l3, .int x2] h (fun r h' => wpx d P_Ow_ends 11 [.long l0, .retAddr 2, .int x2, .long l3, .retAddr 2, .int x5] (r.toList ++ []) h' Q)) : wpx d P_Ow_ends 6 [.long l0, .retAddr 2, .int x2, .long l3, .retAddr 2, .int x5] [] h Q := by
  refine st_lload (pc' := 7) rfl rfl rfl rfl ?_
  refine st_iload (pc' := 8) rfl rfl rfl ?_
  exact st_call (pc' := 11) (as := [.long l3, .int x2]) (rest := []) rfl rfl (Nat.le_of_ble_eq_true rfl) rfl rfl (Nat.le_of_ble_eq_true rfl) (kd := 0) (o := 11) rfl rfl rfl k
theorem B_Ow_ends_11 {d : Nat} {h : PH} {Q : PQ} {l0 : Int64} {x2 : Int32} {l3 : Int64} {x5 : Int32} {t0 : Int64}  (kt : ¬ ((lg_cmp t0 l0) = 0) → wpx d P_Ow_ends 20 [.long l0, .retAddr 2, .int x2, .long l3, .retAddr 2, .int x5] [] h Q) (kf : (lg_cmp t0 l0) = 0 → wpx d P_Ow_ends 16 [.long l0, .retAddr 2, .int x2, .long l3, .retAddr 2, .int x5] [] h Q) : wpx d P_Ow_ends 11 [.long l0, .retAddr 2, .int x2, .long l3, .retAddr 2, .int x5] [.long t0] h Q := by
  refine st_lload (pc' := 12) rfl rfl rfl rfl ?_
  refine st_lcmp (pc' := 13) rfl rfl ?_
  exact st_if_ne (pc' := 16) rfl rfl kt kf
theorem B_Ow_ends_16 {d : Nat} {h : PH} {Q : PQ} {l0 : Int64} {x2 : Int32} {l3 : Int64} {x5 : Int32}  (k : wpx d P_Ow_ends 21 [.long l0, .retAddr 2, .int x2, .long l3, .retAddr 2, .int x5] [.int 1] h Q) : wpx d P_Ow_ends 16 [.long l0, .retAddr 2, .int x2, .long l3, .retAddr 2, .int x5] [] h Q := by
  refine st_ipush (pc' := 17) (v := 1) rfl rfl (by decide) ?_
  exact st_goto rfl k
theorem B_Ow_ends_20 {d : Nat} {h : PH} {Q : PQ} {l0 : Int64} {x2 : Int32} {l3 : Int64} {x5 : Int32}  (k : wpx d P_Ow_ends 21 [.long l0, .retAddr 2, .int x2, .long l3, .retAddr 2, .int x5] [.int 0] h Q) : wpx d P_Ow_ends 20 [.long l0, .retAddr 2, .int x2, .long l3, .retAddr 2, .int x5] [] h Q := by
  refine st_ipush (pc' := 21) (v := 0) rfl rfl (by decide) ?_
  exact k
theorem B_Ow_ends_21 {d : Nat} {h : PH} {Q : PQ} {l0 : Int64} {x2 : Int32} {l3 : Int64} {x5 : Int32} {s0 : Int32} (hz0 : narrow .boolean (.int s0) = .int s0) (k : Q (some (.int s0)) h) : wpx d P_Ow_ends 21 [.long l0, .retAddr 2, .int x2, .long l3, .retAddr 2, .int x5] [.int s0] h Q := by
  exact st_ireturn (ty := .boolean) rfl rfl hz0 k
theorem B_Ow_lastOf_0 {d : Nat} {h : PH} {Q : PQ} {l0 : Int64} {x2 : Int32}  (k : Q (some (.long (l0 &&& (((1 : Int64) <<< (((5 : Int32) * x2).toInt64 &&& 63)) - (1 : Int64))))) h) : wpx d P_Ow_lastOf 0 [.long l0, .retAddr 2, .int x2] [] h Q := by
  refine st_lload (pc' := 1) rfl rfl rfl rfl ?_
  refine st_lpush (pc' := 2) (v := 1) rfl rfl (by decide) ?_
  refine st_ipush (pc' := 3) (v := 5) rfl rfl (by decide) ?_
  refine st_iload (pc' := 4) rfl rfl rfl ?_
  refine st_imul (pc' := 5) rfl rfl ?_
  refine st_lshl (pc' := 6) rfl rfl ?_
  refine st_lpush (pc' := 7) (v := 1) rfl rfl (by decide) ?_
  refine st_lsub (pc' := 8) rfl rfl ?_
  refine st_land (pc' := 9) rfl rfl ?_
  exact st_lreturn rfl k
theorem B_Ow_signOf_0 {d : Nat} {h : PH} {Q : PQ} {l0 : Int64} {x2 : Int32} {x3 : Int32}  (kt : x3 < 0 → wpx d P_Ow_signOf 9 [.long l0, .retAddr 2, .int x2, .int x3] [] h Q) (kf : ¬ (x3 < 0) → wpx d P_Ow_signOf 4 [.long l0, .retAddr 2, .int x2, .int x3] [] h Q) : wpx d P_Ow_signOf 0 [.long l0, .retAddr 2, .int x2, .int x3] [] h Q := by
  refine st_iload (pc' := 1) rfl rfl rfl ?_
  exact st_if_lt (pc' := 4) rfl rfl kt kf
theorem B_Ow_signOf_4 {d : Nat} {h : PH} {Q : PQ} {l0 : Int64} {x2 : Int32} {x3 : Int32}  (kt : x3 < x2 → wpx d P_Ow_signOf 13 [.long l0, .retAddr 2, .int x2, .int x3] [] h Q) (kf : ¬ (x3 < x2) → wpx d P_Ow_signOf 9 [.long l0, .retAddr 2, .int x2, .int x3] [] h Q) : wpx d P_Ow_signOf 4 [.long l0, .retAddr 2, .int x2, .int x3] [] h Q := by
  refine st_iload (pc' := 5) rfl rfl rfl ?_
  refine st_iload (pc' := 6) rfl rfl rfl ?_
  exact st_icmp_lt (pc' := 9) rfl rfl kt kf
theorem B_Ow_signOf_9 {d : Nat} {h : PH} {Q : PQ} {l0 : Int64} {x2 : Int32} {x3 : Int32}  (k : wpx d P_Ow_signOf 26 [.long l0, .retAddr 2, .int x2, .int x3] [.int 0] h Q) : wpx d P_Ow_signOf 9 [.long l0, .retAddr 2, .int x2, .int x3] [] h Q := by
  refine st_ipush (pc' := 10) (v := 0) rfl rfl (by decide) ?_
  exact st_goto rfl k
theorem B_Ow_signOf_13 {d : Nat} {h : PH} {Q : PQ} {l0 : Int64} {x2 : Int32} {x3 : Int32}  (k : wpx d P_Ow_signOf 26 [.long l0, .retAddr 2, .int x2, .int x3] [.int ((((l0.toUInt64 >>> (((5 : Int32) * ((x2 - (1 : Int32)) - x3)).toInt64.toUInt64 &&& Int64.toUInt64 63)).toInt64).toInt32) &&& (31 : Int32))] h Q) : wpx d P_Ow_signOf 13 [.long l0, .retAddr 2, .int x2, .int x3] [] h Q := by
  refine st_lload (pc' := 14) rfl rfl rfl rfl ?_
  refine st_ipush (pc' := 15) (v := 5) rfl rfl (by decide) ?_
  refine st_iload (pc' := 16) rfl rfl rfl ?_
  refine st_ipush (pc' := 17) (v := 1) rfl rfl (by decide) ?_
  refine st_isub (pc' := 18) rfl rfl ?_
  refine st_iload (pc' := 19) rfl rfl rfl ?_
  refine st_isub (pc' := 20) rfl rfl ?_
  refine st_imul (pc' := 21) rfl rfl ?_
  refine st_lushr (pc' := 22) rfl rfl ?_
  refine st_l2i (pc' := 23) rfl rfl ?_
  refine st_ipush (pc' := 25) (v := 31) rfl rfl (by decide) ?_
  refine st_iand (pc' := 26) rfl rfl ?_
  exact k
theorem B_Ow_signOf_26 {d : Nat} {h : PH} {Q : PQ} {l0 : Int64} {x2 : Int32} {x3 : Int32} {s0 : Int32}  (k : Q (some (.int s0)) h) : wpx d P_Ow_signOf 26 [.long l0, .retAddr 2, .int x2, .int x3] [.int s0] h Q := by
  exact st_ireturn (ty := .int) rfl rfl rfl k
theorem B_Ow_shown_0 {d : Nat} {h : PH} {Q : PQ} {l0 : Int64} {x2 : Int32} {x3 : Int32}  (kt : x3 < 0 → wpx d P_Ow_shown 9 [.long l0, .retAddr 2, .int x2, .int x3] [] h Q) (kf : ¬ (x3 < 0) → wpx d P_Ow_shown 4 [.long l0, .retAddr 2, .int x2, .int x3] [] h Q) : wpx d P_Ow_shown 0 [.long l0, .retAddr 2, .int x2, .int x3] [] h Q := by
  refine st_iload (pc' := 1) rfl rfl rfl ?_
  exact st_if_lt (pc' := 4) rfl rfl kt kf
theorem B_Ow_shown_4 {d : Nat} {h : PH} {Q : PQ} {l0 : Int64} {x2 : Int32} {x3 : Int32}  (kt : x3 < x2 → wpx d P_Ow_shown 13 [.long l0, .retAddr 2, .int x2, .int x3] [] h Q) (kf : ¬ (x3 < x2) → wpx d P_Ow_shown 9 [.long l0, .retAddr 2, .int x2, .int x3] [] h Q) : wpx d P_Ow_shown 4 [.long l0, .retAddr 2, .int x2, .int x3] [] h Q := by
  refine st_iload (pc' := 5) rfl rfl rfl ?_
  refine st_iload (pc' := 6) rfl rfl rfl ?_
  exact st_icmp_lt (pc' := 9) rfl rfl kt kf
theorem B_Ow_shown_9 {d : Nat} {h : PH} {Q : PQ} {l0 : Int64} {x2 : Int32} {x3 : Int32}  (k : wpx d P_Ow_shown 22 [.long l0, .retAddr 2, .int x2, .int x3] [.int (-1)] h Q) : wpx d P_Ow_shown 9 [.long l0, .retAddr 2, .int x2, .int x3] [] h Q := by
  refine st_ipush (pc' := 10) (v := (-1)) rfl rfl (by decide) ?_
  exact st_goto rfl k
theorem B_Ow_shown_13 {d : Nat} {h : PH} {Q : PQ} {l0 : Int64} {x2 : Int32} {x3 : Int32}  (k : wpm d 165 [.long l0, .int x2, .int x3] h (fun r h' => wpx d P_Ow_shown 19 [.long l0, .retAddr 2, .int x2, .int x3] (r.toList ++ []) h' Q)) : wpx d P_Ow_shown 13 [.long l0, .retAddr 2, .int x2, .int x3] [] h Q := by
  refine st_lload (pc' := 14) rfl rfl rfl rfl ?_
  refine st_iload (pc' := 15) rfl rfl rfl ?_
  refine st_iload (pc' := 16) rfl rfl rfl ?_
  exact st_call (pc' := 19) (as := [.long l0, .int x2, .int x3]) (rest := []) rfl rfl (Nat.le_of_ble_eq_true rfl) rfl rfl (Nat.le_of_ble_eq_true rfl) (kd := 0) (o := 11) rfl rfl rfl k
theorem B_Ow_shown_19 {d : Nat} {h : PH} {Q : PQ} {l0 : Int64} {x2 : Int32} {x3 : Int32} {s0 : Int32}  (k : wpx d P_Ow_shown 22 [.long l0, .retAddr 2, .int x2, .int x3] [.int (s0 + (96 : Int32))] h Q) : wpx d P_Ow_shown 19 [.long l0, .retAddr 2, .int x2, .int x3] [.int s0] h Q := by
  refine st_ipush (pc' := 21) (v := 96) rfl rfl (by decide) ?_
  refine st_iadd (pc' := 22) rfl rfl ?_
  exact k
theorem B_Ow_shown_22 {d : Nat} {h : PH} {Q : PQ} {l0 : Int64} {x2 : Int32} {x3 : Int32} {s0 : Int32}  (k : Q (some (.int s0)) h) : wpx d P_Ow_shown 22 [.long l0, .retAddr 2, .int x2, .int x3] [.int s0] h Q := by
  exact st_ireturn (ty := .int) rfl rfl rfl k
theorem B_Ow_flushLeft_0 {d : Nat} {h : PH} {Q : PQ} {l0 : Int64} {x2 : Int32}  (k : Q (some (.long (l0 <<< (((5 : Int32) * ((7 : Int32) - x2)).toInt64 &&& 63)))) h) : wpx d P_Ow_flushLeft 0 [.long l0, .retAddr 2, .int x2] [] h Q := by
  refine st_lload (pc' := 1) rfl rfl rfl rfl ?_
  refine st_ipush (pc' := 2) (v := 5) rfl rfl (by decide) ?_
  refine st_ipush (pc' := 4) (v := 7) rfl rfl (by decide) ?_
  refine st_iload (pc' := 5) rfl rfl rfl ?_
  refine st_isub (pc' := 6) rfl rfl ?_
  refine st_imul (pc' := 7) rfl rfl ?_
  refine st_lshl (pc' := 8) rfl rfl ?_
  exact st_lreturn rfl k
theorem B_Ow_commonLetters_0 {d : Nat} {h : PH} {Q : PQ} {l0 : Int64} {x2 : Int32} {l3 : Int64} {x5 : Int32} {v6 : Value} {v7 : Value}  (k : wpx d P_Ow_commonLetters 11 [.long l0, .retAddr 2, .int x2, .long l3, .retAddr 2, .int x5, .int (if x5 < x2 then x5 else x2), .int 0] [] h Q) : wpx d P_Ow_commonLetters 0 [.long l0, .retAddr 2, .int x2, .long l3, .retAddr 2, .int x5, v6, v7] [] h Q := by
  refine st_iload (pc' := 1) rfl rfl rfl ?_
  refine st_iload (pc' := 3) rfl rfl rfl ?_
  refine st_mmin (pc' := 6) rfl rfl (Nat.le_of_ble_eq_true rfl) ?_
  refine st_istore (pc' := 8) (ls' := [.long l0, .retAddr 2, .int x2, .long l3, .retAddr 2, .int x5, .int (if x5 < x2 then x5 else x2), v7]) rfl rfl (Nat.le_of_ble_eq_true rfl) rfl ?_
  refine st_ipush (pc' := 9) (v := 0) rfl rfl (by decide) ?_
  refine st_istore (pc' := 11) (ls' := [.long l0, .retAddr 2, .int x2, .long l3, .retAddr 2, .int x5, .int (if x5 < x2 then x5 else x2), .int 0]) rfl rfl (Nat.le_of_ble_eq_true rfl) rfl ?_
  exact k
theorem B_Ow_commonLetters_11 {d : Nat} {h : PH} {Q : PQ} {l0 : Int64} {x2 : Int32} {l3 : Int64} {x5 : Int32} {x6 : Int32} {x7 : Int32}  (kt : x6 ≤ x7 → wpx d P_Ow_commonLetters 42 [.long l0, .retAddr 2, .int x2, .long l3, .retAddr 2, .int x5, .int x6, .int x7] [] h Q) (kf : ¬ (x6 ≤ x7) → wpx d P_Ow_commonLetters 18 [.long l0, .retAddr 2, .int x2, .long l3, .retAddr 2, .int x5, .int x6, .int x7] [] h Q) : wpx d P_Ow_commonLetters 11 [.long l0, .retAddr 2, .int x2, .long l3, .retAddr 2, .int x5, .int x6, .int x7] [] h Q := by
  refine st_iload (pc' := 13) rfl rfl rfl ?_
  refine st_iload (pc' := 15) rfl rfl rfl ?_
  exact st_icmp_ge (pc' := 18) rfl rfl kt kf
theorem B_Ow_commonLetters_18 {d : Nat} {h : PH} {Q : PQ} {l0 : Int64} {x2 : Int32} {l3 : Int64} {x5 : Int32} {x6 : Int32} {x7 : Int32}  (k : wpm d 165 [.long l0, .int x2, .int x7] h (fun r h' => wpx d P_Ow_commonLetters 25 [.long l0, .retAddr 2, .int x2, .long l3, .retAddr 2, .int x5, .int x6, .int x7] (r.toList ++ []) h' Q)) : wpx d P_Ow_commonLetters 18 [.long l0, .retAddr 2, .int x2, .long l3, .retAddr 2, .int x5, .int x6, .int x7] [] h Q := by
  refine st_lload (pc' := 19) rfl rfl rfl rfl ?_
  refine st_iload (pc' := 20) rfl rfl rfl ?_
  refine st_iload (pc' := 22) rfl rfl rfl ?_
  exact st_call (pc' := 25) (as := [.long l0, .int x2, .int x7]) (rest := []) rfl rfl (Nat.le_of_ble_eq_true rfl) rfl rfl (Nat.le_of_ble_eq_true rfl) (kd := 0) (o := 11) rfl rfl rfl k
theorem B_Ow_commonLetters_25 {d : Nat} {h : PH} {Q : PQ} {l0 : Int64} {x2 : Int32} {l3 : Int64} {x5 : Int32} {x6 : Int32} {x7 : Int32} {s0 : Int32}  (k : wpm d 165 [.long l3, .int x5, .int x7] h (fun r h' => wpx d P_Ow_commonLetters 33 [.long l0, .retAddr 2, .int x2, .long l3, .retAddr 2, .int x5, .int x6, .int x7] (r.toList ++ [.int s0]) h' Q)) : wpx d P_Ow_commonLetters 25 [.long l0, .retAddr 2, .int x2, .long l3, .retAddr 2, .int x5, .int x6, .int x7] [.int s0] h Q := by
  refine st_lload (pc' := 26) rfl rfl rfl rfl ?_
  refine st_iload (pc' := 28) rfl rfl rfl ?_
  refine st_iload (pc' := 30) rfl rfl rfl ?_
  exact st_call (pc' := 33) (as := [.long l3, .int x5, .int x7]) (rest := [.int s0]) rfl rfl (Nat.le_of_ble_eq_true rfl) rfl rfl (Nat.le_of_ble_eq_true rfl) (kd := 0) (o := 11) rfl rfl rfl k
theorem B_Ow_commonLetters_33 {d : Nat} {h : PH} {Q : PQ} {l0 : Int64} {x2 : Int32} {l3 : Int64} {x5 : Int32} {x6 : Int32} {x7 : Int32} {s0 : Int32} {s1 : Int32}  (kt : ¬ (s0 = s1) → wpx d P_Ow_commonLetters 42 [.long l0, .retAddr 2, .int x2, .long l3, .retAddr 2, .int x5, .int x6, .int x7] [] h Q) (kf : s0 = s1 → wpx d P_Ow_commonLetters 36 [.long l0, .retAddr 2, .int x2, .long l3, .retAddr 2, .int x5, .int x6, .int x7] [] h Q) : wpx d P_Ow_commonLetters 33 [.long l0, .retAddr 2, .int x2, .long l3, .retAddr 2, .int x5, .int x6, .int x7] [.int s1, .int s0] h Q := by
  exact st_icmp_ne (pc' := 36) rfl rfl kt kf
theorem B_Ow_commonLetters_36 {d : Nat} {h : PH} {Q : PQ} {l0 : Int64} {x2 : Int32} {l3 : Int64} {x5 : Int32} {x6 : Int32} {x7 : Int32}  (k : wpx d P_Ow_commonLetters 11 [.long l0, .retAddr 2, .int x2, .long l3, .retAddr 2, .int x5, .int x6, .int (x7 + 1)] [] h Q) : wpx d P_Ow_commonLetters 36 [.long l0, .retAddr 2, .int x2, .long l3, .retAddr 2, .int x5, .int x6, .int x7] [] h Q := by
  refine st_iinc (pc' := 39) (v := 1) (ls' := [.long l0, .retAddr 2, .int x2, .long l3, .retAddr 2, .int x5, .int x6, .int (x7 + 1)]) rfl rfl rfl (by decide) rfl ?_
  exact st_goto rfl k
theorem B_Ow_commonLetters_42 {d : Nat} {h : PH} {Q : PQ} {l0 : Int64} {x2 : Int32} {l3 : Int64} {x5 : Int32} {x6 : Int32} {x7 : Int32}  (k : Q (some (.int x7)) h) : wpx d P_Ow_commonLetters 42 [.long l0, .retAddr 2, .int x2, .long l3, .retAddr 2, .int x5, .int x6, .int x7] [] h Q := by
  refine st_iload (pc' := 44) rfl rfl rfl ?_
  exact st_ireturn (ty := .int) rfl rfl rfl k
