/-! stretches of methods -/
theorem B_Md_share_0 {d : Nat} {h : PH} {Q : PQ} {r0 : Nat} {x1 : Int32} {v2 : Value} {v3 : Value} {v4 : Value} {v5 : Value} {v6 : Value} {v7 : Value} {v8 : Value} {v9 : Value} {v10 : Value} (hs0 : h_sh h r0 = some (0, 12)) (k : wpm d 170 [.int x1, .int 0, .int 1] (w_i h r0 0 0) (fun r h' => wpx d P_Md_share 11 [.ref r0, .int x1, v2, v3, v4, v5, v6, v7, v8, v9, v10] (r.toList ++ []) h' Q)) : wpx d P_Md_share 0 [.ref r0, .int x1, v2, v3, v4, v5, v6, v7, v8, v9, v10] [] h Q := by
  refine st_aload (pc' := 1) rfl rfl rfl ?_
  refine st_ipush (pc' := 2) (v := 0) rfl rfl (by decide) ?_
  refine st_putf (h' := w_i h r0 0 0) (Or.inl rfl) rfl hs0 rfl rfl rfl (pc' := 5) rfl ?_
  refine st_iload (pc' := 6) rfl rfl rfl ?_
  refine st_ipush (pc' := 7) (v := 0) rfl rfl (by decide) ?_
  refine st_ipush (pc' := 8) (v := 1) rfl rfl (by decide) ?_
  exact st_call (pc' := 11) (as := [.int x1, .int 0, .int 1]) (rest := []) rfl rfl (Nat.le_of_ble_eq_true rfl) rfl rfl (Nat.le_of_ble_eq_true rfl) (kd := 0) (o := 12) rfl rfl rfl k
theorem B_Md_share_11 {d : Nat} {h : PH} {Q : PQ} {r0 : Nat} {x1 : Int32} {v2 : Value} {v3 : Value} {v4 : Value} {v5 : Value} {v6 : Value} {v7 : Value} {v8 : Value} {v9 : Value} {v10 : Value} {s0 : Int32}  (kt : ¬ (s0 = 0) → wpx d P_Md_share 18 [.ref r0, .int x1, v2, v3, v4, v5, v6, v7, v8, v9, v10] [] h Q) (kf : s0 = 0 → wpx d P_Md_share 14 [.ref r0, .int x1, v2, v3, v4, v5, v6, v7, v8, v9, v10] [] h Q) : wpx d P_Md_share 11 [.ref r0, .int x1, v2, v3, v4, v5, v6, v7, v8, v9, v10] [.int s0] h Q := by
  exact st_if_ne (pc' := 14) rfl rfl kt kf
theorem B_Md_share_14 {d : Nat} {h : PH} {Q : PQ} {r0 : Nat} {x1 : Int32} {v2 : Value} {v3 : Value} {v4 : Value} {v5 : Value} {v6 : Value} {v7 : Value} {v8 : Value} {v9 : Value} {v10 : Value}  (k : Q (some (.long (-1))) h) : wpx d P_Md_share 14 [.ref r0, .int x1, v2, v3, v4, v5, v6, v7, v8, v9, v10] [] h Q := by
  refine st_ldc2 (pc' := 17) (v := (-1)) rfl rfl (by decide) ?_
  exact st_lreturn rfl k
theorem B_Md_share_18 {d : Nat} {h : PH} {Q : PQ} {r0 : Nat} {x1 : Int32} {v2 : Value} {v3 : Value} {v4 : Value} {v5 : Value} {v6 : Value} {v7 : Value} {v8 : Value} {v9 : Value} {v10 : Value} (hs0 : h_sh h r0 = some (0, 12)) (k : wpm d 199 [.ref r0] h (fun r h' => wpx d P_Md_share 30 [.ref r0, .int x1, .long 0, .retAddr 2, .long 1, .retAddr 2, .long 1, .retAddr 2, v8, v9, v10] (r.toList ++ []) h' Q)) : wpx d P_Md_share 18 [.ref r0, .int x1, v2, v3, v4, v5, v6, v7, v8, v9, v10] [] h Q := by
  refine st_lpush (pc' := 19) (v := 0) rfl rfl (by decide) ?_
  refine st_lstore (pc' := 20) (ls' := [.ref r0, .int x1, .long 0, .retAddr 2, v4, v5, v6, v7, v8, v9, v10]) rfl rfl (Nat.le_of_ble_eq_true rfl) rfl ?_
  refine st_lpush (pc' := 21) (v := 1) rfl rfl (by decide) ?_
  refine st_lstore (pc' := 23) (ls' := [.ref r0, .int x1, .long 0, .retAddr 2, .long 1, .retAddr 2, v6, v7, v8, v9, v10]) rfl rfl (Nat.le_of_ble_eq_true rfl) rfl ?_
  refine st_lpush (pc' := 24) (v := 1) rfl rfl (by decide) ?_
  refine st_lstore (pc' := 26) (ls' := [.ref r0, .int x1, .long 0, .retAddr 2, .long 1, .retAddr 2, .long 1, .retAddr 2, v8, v9, v10]) rfl rfl (Nat.le_of_ble_eq_true rfl) rfl ?_
  refine st_aload (pc' := 27) rfl rfl rfl ?_
  exact st_call (pc' := 30) (as := [.ref r0]) (rest := []) rfl rfl (Nat.le_of_ble_eq_true rfl) rfl rfl (Nat.le_of_ble_eq_true rfl) (kd := 1) (o := 12) rfl rfl (beq_iff_eq.mpr hs0) k
theorem B_Md_share_30 {d : Nat} {h : PH} {Q : PQ} {r0 : Nat} {x1 : Int32} {l2 : Int64} {l4 : Int64} {l6 : Int64} {v8 : Value} {v9 : Value} {v10 : Value} {s0 : Int32}  (k : wpx d P_Md_share 35 [.ref r0, .int x1, .long l2, .retAddr 2, .long l4, .retAddr 2, .long l6, .retAddr 2, .int s0, .int 1, v10] [] h Q) : wpx d P_Md_share 30 [.ref r0, .int x1, .long l2, .retAddr 2, .long l4, .retAddr 2, .long l6, .retAddr 2, v8, v9, v10] [.int s0] h Q := by
  refine st_istore (pc' := 32) (ls' := [.ref r0, .int x1, .long l2, .retAddr 2, .long l4, .retAddr 2, .long l6, .retAddr 2, .int s0, v9, v10]) rfl rfl (Nat.le_of_ble_eq_true rfl) rfl ?_
  refine st_ipush (pc' := 33) (v := 1) rfl rfl (by decide) ?_
  refine st_istore (pc' := 35) (ls' := [.ref r0, .int x1, .long l2, .retAddr 2, .long l4, .retAddr 2, .long l6, .retAddr 2, .int s0, .int 1, v10]) rfl rfl (Nat.le_of_ble_eq_true rfl) rfl ?_
  exact k
theorem B_Md_share_35 {d : Nat} {h : PH} {Q : PQ} {r0 : Nat} {x1 : Int32} {l2 : Int64} {l4 : Int64} {l6 : Int64} {x8 : Int32} {x9 : Int32} {v10 : Value}  (kt : (7 : Int32) < x9 → wpx d P_Md_share 113 [.ref r0, .int x1, .long l2, .retAddr 2, .long l4, .retAddr 2, .long l6, .retAddr 2, .int x8, .int x9, v10] [] h Q) (kf : ¬ ((7 : Int32) < x9) → wpx d P_Md_share 42 [.ref r0, .int x1, .long l2, .retAddr 2, .long l4, .retAddr 2, .long l6, .retAddr 2, .int x8, .int x9, v10] [] h Q) : wpx d P_Md_share 35 [.ref r0, .int x1, .long l2, .retAddr 2, .long l4, .retAddr 2, .long l6, .retAddr 2, .int x8, .int x9, v10] [] h Q := by
  refine st_iload (pc' := 37) rfl rfl rfl ?_
  refine st_ipush (pc' := 39) (v := 7) rfl rfl (by decide) ?_
  exact st_icmp_gt (pc' := 42) rfl rfl kt kf
theorem B_Md_share_42 {d : Nat} {h : PH} {Q : PQ} {r0 : Nat} {x1 : Int32} {l2 : Int64} {l4 : Int64} {l6 : Int64} {x8 : Int32} {x9 : Int32} {v10 : Value}  (k : wpx d P_Md_share 59 [.ref r0, .int x1, .long (l2 * x8.toInt64), .retAddr 2, .long (l4 * x8.toInt64), .retAddr 2, .long l6, .retAddr 2, .int x8, .int x9, .int 0] [] h Q) : wpx d P_Md_share 42 [.ref r0, .int x1, .long l2, .retAddr 2, .long l4, .retAddr 2, .long l6, .retAddr 2, .int x8, .int x9, v10] [] h Q := by
  refine st_lload (pc' := 43) rfl rfl rfl rfl ?_
  refine st_iload (pc' := 45) rfl rfl rfl ?_
  refine st_i2l (pc' := 46) rfl rfl ?_
  refine st_lmul (pc' := 47) rfl rfl ?_
  refine st_lstore (pc' := 48) (ls' := [.ref r0, .int x1, .long (l2 * x8.toInt64), .retAddr 2, .long l4, .retAddr 2, .long l6, .retAddr 2, .int x8, .int x9, v10]) rfl rfl (Nat.le_of_ble_eq_true rfl) rfl ?_
  refine st_lload (pc' := 50) rfl rfl rfl rfl ?_
  refine st_iload (pc' := 52) rfl rfl rfl ?_
  refine st_i2l (pc' := 53) rfl rfl ?_
  refine st_lmul (pc' := 54) rfl rfl ?_
  refine st_lstore (pc' := 56) (ls' := [.ref r0, .int x1, .long (l2 * x8.toInt64), .retAddr 2, .long (l4 * x8.toInt64), .retAddr 2, .long l6, .retAddr 2, .int x8, .int x9, v10]) rfl rfl (Nat.le_of_ble_eq_true rfl) rfl ?_
  refine st_ipush (pc' := 57) (v := 0) rfl rfl (by decide) ?_
  refine st_istore (pc' := 59) (ls' := [.ref r0, .int x1, .long (l2 * x8.toInt64), .retAddr 2, .long (l4 * x8.toInt64), .retAddr 2, .long l6, .retAddr 2, .int x8, .int x9, .int 0]) rfl rfl (Nat.le_of_ble_eq_true rfl) rfl ?_
  exact k
theorem B_Md_share_59 {d : Nat} {h : PH} {Q : PQ} {r0 : Nat} {x1 : Int32} {l2 : Int64} {l4 : Int64} {l6 : Int64} {x8 : Int32} {x9 : Int32} {x10 : Int32} (hs0 : h_sh h r0 = some (0, 12)) (kt : (h_i h r0 4) ≤ x10 → wpx d P_Md_share 107 [.ref r0, .int x1, .long l2, .retAddr 2, .long l4, .retAddr 2, .long l6, .retAddr 2, .int x8, .int x9, .int x10] [] h Q) (kf : ¬ ((h_i h r0 4) ≤ x10) → wpx d P_Md_share 68 [.ref r0, .int x1, .long l2, .retAddr 2, .long l4, .retAddr 2, .long l6, .retAddr 2, .int x8, .int x9, .int x10] [] h Q) : wpx d P_Md_share 59 [.ref r0, .int x1, .long l2, .retAddr 2, .long l4, .retAddr 2, .long l6, .retAddr 2, .int x8, .int x9, .int x10] [] h Q := by
  refine st_iload (pc' := 61) rfl rfl rfl ?_
  refine st_aload (pc' := 62) rfl rfl rfl ?_
  refine st_getfi (Or.inl rfl) rfl hs0 rfl (pc' := 65) rfl ?_
  exact st_icmp_ge (pc' := 68) rfl rfl kt kf
theorem B_Md_share_68 {d : Nat} {h : PH} {Q : PQ} {r0 : Nat} {x1 : Int32} {l2 : Int64} {l4 : Int64} {l6 : Int64} {x8 : Int32} {x9 : Int32} {x10 : Int32} (hs0 : h_sh h r0 = some (0, 12)) (k : wpm d 171 [.int (h_i h r0 6), .int x10] h (fun r h' => wpx d P_Md_share 78 [.ref r0, .int x1, .long l2, .retAddr 2, .long l4, .retAddr 2, .long l6, .retAddr 2, .int x8, .int x9, .int x10] (r.toList ++ [.long l2]) h' Q)) : wpx d P_Md_share 68 [.ref r0, .int x1, .long l2, .retAddr 2, .long l4, .retAddr 2, .long l6, .retAddr 2, .int x8, .int x9, .int x10] [] h Q := by
  refine st_lload (pc' := 69) rfl rfl rfl rfl ?_
  refine st_aload (pc' := 70) rfl rfl rfl ?_
  refine st_getfi (Or.inl rfl) rfl hs0 rfl (pc' := 73) rfl ?_
  refine st_iload (pc' := 75) rfl rfl rfl ?_
  exact st_call (pc' := 78) (as := [.int (h_i h r0 6), .int x10]) (rest := [.long l2]) rfl rfl (Nat.le_of_ble_eq_true rfl) rfl rfl (Nat.le_of_ble_eq_true rfl) (kd := 0) (o := 12) rfl rfl rfl k
theorem B_Md_share_78 {d : Nat} {h : PH} {Q : PQ} {r0 : Nat} {x1 : Int32} {l2 : Int64} {l4 : Int64} {l6 : Int64} {x8 : Int32} {x9 : Int32} {x10 : Int32} {t0 : Int64} {s1 : Int32}  (kt : s1 = 0 → wpx d P_Md_share 98 [.ref r0, .int x1, .long l2, .retAddr 2, .long l4, .retAddr 2, .long l6, .retAddr 2, .int x8, .int x9, .int x10] [.long t0] h Q) (kf : ¬ (s1 = 0) → wpx d P_Md_share 81 [.ref r0, .int x1, .long l2, .retAddr 2, .long l4, .retAddr 2, .long l6, .retAddr 2, .int x8, .int x9, .int x10] [.long t0] h Q) : wpx d P_Md_share 78 [.ref r0, .int x1, .long l2, .retAddr 2, .long l4, .retAddr 2, .long l6, .retAddr 2, .int x8, .int x9, .int x10] [.int s1, .long t0] h Q := by
  exact st_if_eq (pc' := 81) rfl rfl kt kf
theorem B_Md_share_81 {d : Nat} {h : PH} {Q : PQ} {r0 : Nat} {x1 : Int32} {l2 : Int64} {l4 : Int64} {l6 : Int64} {x8 : Int32} {x9 : Int32} {x10 : Int32} {t0 : Int64} {a0 : Nat} {n1 : Nat} (hs0 : h_sh h r0 = some (0, 12)) (hr1 : h_r h r0 2 = some a0) (hs2 : h_sh h a0 = some (1, n1)) (hb3 : vp_in x10 n1) (kt : ¬ ((h_i h a0 x10.toNatClampNeg) = x9) → wpx d P_Md_share 98 [.ref r0, .int x1, .long l2, .retAddr 2, .long l4, .retAddr 2, .long l6, .retAddr 2, .int x8, .int x9, .int x10] [.long t0] h Q) (kf : (h_i h a0 x10.toNatClampNeg) = x9 → wpx d P_Md_share 93 [.ref r0, .int x1, .long l2, .retAddr 2, .long l4, .retAddr 2, .long l6, .retAddr 2, .int x8, .int x9, .int x10] [.long t0] h Q) : wpx d P_Md_share 81 [.ref r0, .int x1, .long l2, .retAddr 2, .long l4, .retAddr 2, .long l6, .retAddr 2, .int x8, .int x9, .int x10] [.long t0] h Q := by
  refine st_aload (pc' := 82) rfl rfl rfl ?_
  refine st_getfr (x := some a0) (Or.inl rfl) rfl hs0 rfl hr1 (pc' := 85) rfl ?_
  refine st_iload (pc' := 87) rfl rfl rfl ?_
  refine st_iaload rfl hs2 hb3 (j := x10.toNatClampNeg) rfl (pc' := 88) rfl ?_
  refine st_iload (pc' := 90) rfl rfl rfl ?_
  exact st_icmp_ne (pc' := 93) rfl rfl kt kf
theorem B_Md_share_93 {d : Nat} {h : PH} {Q : PQ} {r0 : Nat} {x1 : Int32} {l2 : Int64} {l4 : Int64} {l6 : Int64} {x8 : Int32} {x9 : Int32} {x10 : Int32} {t0 : Int64}  (k : wpx d P_Md_share 99 [.ref r0, .int x1, .long l2, .retAddr 2, .long l4, .retAddr 2, .long l6, .retAddr 2, .int x8, .int x9, .int x10] [.long l6, .long t0] h Q) : wpx d P_Md_share 93 [.ref r0, .int x1, .long l2, .retAddr 2, .long l4, .retAddr 2, .long l6, .retAddr 2, .int x8, .int x9, .int x10] [.long t0] h Q := by
  refine st_lload (pc' := 95) rfl rfl rfl rfl ?_
  exact st_goto rfl k
theorem B_Md_share_98 {d : Nat} {h : PH} {Q : PQ} {r0 : Nat} {x1 : Int32} {l2 : Int64} {l4 : Int64} {l6 : Int64} {x8 : Int32} {x9 : Int32} {x10 : Int32} {t0 : Int64}  (k : wpx d P_Md_share 99 [.ref r0, .int x1, .long l2, .retAddr 2, .long l4, .retAddr 2, .long l6, .retAddr 2, .int x8, .int x9, .int x10] [.long 0, .long t0] h Q) : wpx d P_Md_share 98 [.ref r0, .int x1, .long l2, .retAddr 2, .long l4, .retAddr 2, .long l6, .retAddr 2, .int x8, .int x9, .int x10] [.long t0] h Q := by
  refine st_lpush (pc' := 99) (v := 0) rfl rfl (by decide) ?_
  exact k
theorem B_Md_share_99 {d : Nat} {h : PH} {Q : PQ} {r0 : Nat} {x1 : Int32} {l2 : Int64} {l4 : Int64} {l6 : Int64} {x8 : Int32} {x9 : Int32} {x10 : Int32} {t0 : Int64} {t1 : Int64}  (k : wpx d P_Md_share 59 [.ref r0, .int x1, .long (t0 + t1), .retAddr 2, .long l4, .retAddr 2, .long l6, .retAddr 2, .int x8, .int x9, .int (x10 + 1)] [] h Q) : wpx d P_Md_share 99 [.ref r0, .int x1, .long l2, .retAddr 2, .long l4, .retAddr 2, .long l6, .retAddr 2, .int x8, .int x9, .int x10] [.long t1, .long t0] h Q := by
  refine st_ladd (pc' := 100) rfl rfl ?_
  refine st_lstore (pc' := 101) (ls' := [.ref r0, .int x1, .long (t0 + t1), .retAddr 2, .long l4, .retAddr 2, .long l6, .retAddr 2, .int x8, .int x9, .int x10]) rfl rfl (Nat.le_of_ble_eq_true rfl) rfl ?_
  refine st_iinc (pc' := 104) (v := 1) (ls' := [.ref r0, .int x1, .long (t0 + t1), .retAddr 2, .long l4, .retAddr 2, .long l6, .retAddr 2, .int x8, .int x9, .int (x10 + 1)]) rfl rfl rfl (by decide) rfl ?_
  exact st_goto rfl k
theorem B_Md_share_107 {d : Nat} {h : PH} {Q : PQ} {r0 : Nat} {x1 : Int32} {l2 : Int64} {l4 : Int64} {l6 : Int64} {x8 : Int32} {x9 : Int32} {x10 : Int32}  (k : wpx d P_Md_share 35 [.ref r0, .int x1, .long l2, .retAddr 2, .long l4, .retAddr 2, .long l6, .retAddr 2, .int x8, .int (x9 + 1), .int x10] [] h Q) : wpx d P_Md_share 107 [.ref r0, .int x1, .long l2, .retAddr 2, .long l4, .retAddr 2, .long l6, .retAddr 2, .int x8, .int x9, .int x10] [] h Q := by
  refine st_iinc (pc' := 110) (v := 1) (ls' := [.ref r0, .int x1, .long l2, .retAddr 2, .long l4, .retAddr 2, .long l6, .retAddr 2, .int x8, .int (x9 + 1), .int x10]) rfl rfl rfl (by decide) rfl ?_
  exact st_goto rfl k
theorem B_Md_share_113 {d : Nat} {h : PH} {Q : PQ} {r0 : Nat} {x1 : Int32} {l2 : Int64} {l4 : Int64} {l6 : Int64} {x8 : Int32} {x9 : Int32} {v10 : Value}  (k : wpm d 224 [.long l2, .long l4] h (fun r h' => wpx d P_Md_share 119 [.ref r0, .int x1, .long l2, .retAddr 2, .long l4, .retAddr 2, .long l6, .retAddr 2, .int x8, .int x9, v10] (r.toList ++ []) h' Q)) : wpx d P_Md_share 113 [.ref r0, .int x1, .long l2, .retAddr 2, .long l4, .retAddr 2, .long l6, .retAddr 2, .int x8, .int x9, v10] [] h Q := by
  refine st_lload (pc' := 114) rfl rfl rfl rfl ?_
  refine st_lload (pc' := 116) rfl rfl rfl rfl ?_
  exact st_call (pc' := 119) (as := [.long l2, .long l4]) (rest := []) rfl rfl (Nat.le_of_ble_eq_true rfl) rfl rfl (Nat.le_of_ble_eq_true rfl) (kd := 0) (o := 12) rfl rfl rfl k
theorem B_Md_share_119 {d : Nat} {h : PH} {Q : PQ} {r0 : Nat} {x1 : Int32} {l2 : Int64} {l4 : Int64} {l6 : Int64} {x8 : Int32} {x9 : Int32} {v10 : Value} {t0 : Int64}  (kt : ¬ (x1 = 0) → wpx d P_Md_share 132 [.ref r0, .int x1, .long l2, .retAddr 2, .long l4, .retAddr 2, .long l6, .retAddr 2, .int x8, .long t0, .retAddr 2] [] h Q) (kf : x1 = 0 → wpx d P_Md_share 125 [.ref r0, .int x1, .long l2, .retAddr 2, .long l4, .retAddr 2, .long l6, .retAddr 2, .int x8, .long t0, .retAddr 2] [] h Q) : wpx d P_Md_share 119 [.ref r0, .int x1, .long l2, .retAddr 2, .long l4, .retAddr 2, .long l6, .retAddr 2, .int x8, .int x9, v10] [.long t0] h Q := by
  refine st_lstore (pc' := 121) (ls' := [.ref r0, .int x1, .long l2, .retAddr 2, .long l4, .retAddr 2, .long l6, .retAddr 2, .int x8, .long t0, .retAddr 2]) rfl rfl (Nat.le_of_ble_eq_true rfl) rfl ?_
  refine st_iload (pc' := 122) rfl rfl rfl ?_
  exact st_if_ne (pc' := 125) rfl rfl kt kf
theorem B_Md_share_125 {d : Nat} {h : PH} {Q : PQ} {r0 : Nat} {x1 : Int32} {l2 : Int64} {l4 : Int64} {l6 : Int64} {x8 : Int32} {l9 : Int64} (hz0 : ¬ l9 = 0) (k : wpx d P_Md_share 137 [.ref r0, .int x1, .long l2, .retAddr 2, .long l4, .retAddr 2, .long l6, .retAddr 2, .int x8, .long l9, .retAddr 2] [.long (l2 / l9)] h Q) : wpx d P_Md_share 125 [.ref r0, .int x1, .long l2, .retAddr 2, .long l4, .retAddr 2, .long l6, .retAddr 2, .int x8, .long l9, .retAddr 2] [] h Q := by
  refine st_lload (pc' := 126) rfl rfl rfl rfl ?_
  refine st_lload (pc' := 128) rfl rfl rfl rfl ?_
  refine st_ldiv rfl hz0 (pc' := 129) rfl ?_
  exact st_goto rfl k
theorem B_Md_share_132 {d : Nat} {h : PH} {Q : PQ} {r0 : Nat} {x1 : Int32} {l2 : Int64} {l4 : Int64} {l6 : Int64} {x8 : Int32} {l9 : Int64} (hz0 : ¬ l9 = 0) (k : wpx d P_Md_share 137 [.ref r0, .int x1, .long l2, .retAddr 2, .long l4, .retAddr 2, .long l6, .retAddr 2, .int x8, .long l9, .retAddr 2] [.long (l4 / l9)] h Q) : wpx d P_Md_share 132 [.ref r0, .int x1, .long l2, .retAddr 2, .long l4, .retAddr 2, .long l6, .retAddr 2, .int x8, .long l9, .retAddr 2] [] h Q := by
  refine st_lload (pc' := 134) rfl rfl rfl rfl ?_
  refine st_lload (pc' := 136) rfl rfl rfl rfl ?_
  refine st_ldiv rfl hz0 (pc' := 137) rfl ?_
  exact k
theorem B_Md_share_137 {d : Nat} {h : PH} {Q : PQ} {r0 : Nat} {x1 : Int32} {l2 : Int64} {l4 : Int64} {l6 : Int64} {x8 : Int32} {l9 : Int64} {t0 : Int64}  (k : Q (some (.long t0)) h) : wpx d P_Md_share 137 [.ref r0, .int x1, .long l2, .retAddr 2, .long l4, .retAddr 2, .long l6, .retAddr 2, .int x8, .long l9, .retAddr 2] [.long t0] h Q := by
  exact st_lreturn rfl k
theorem B_Md_stands_0 {d : Nat} {h : PH} {Q : PQ} {r0 : Nat} {x1 : Int32} {r2 : Nat} {x3 : Int32} {x4 : Int32} {v5 : Value} (hs0 : h_sh h r0 = some (0, 12)) (k : wpm d 171 [.int (h_i h r0 6), .int x1] h (fun r h' => wpx d P_Md_stands 8 [.ref r0, .int x1, .ref r2, .int x3, .int x4, v5] (r.toList ++ []) h' Q)) : wpx d P_Md_stands 0 [.ref r0, .int x1, .ref r2, .int x3, .int x4, v5] [] h Q := by
  refine st_aload (pc' := 1) rfl rfl rfl ?_
  refine st_getfi (Or.inl rfl) rfl hs0 rfl (pc' := 4) rfl ?_
  refine st_iload (pc' := 5) rfl rfl rfl ?_
  exact st_call (pc' := 8) (as := [.int (h_i h r0 6), .int x1]) (rest := []) rfl rfl (Nat.le_of_ble_eq_true rfl) rfl rfl (Nat.le_of_ble_eq_true rfl) (kd := 0) (o := 12) rfl rfl rfl k
theorem B_Md_stands_8 {d : Nat} {h : PH} {Q : PQ} {r0 : Nat} {x1 : Int32} {r2 : Nat} {x3 : Int32} {x4 : Int32} {v5 : Value} {s0 : Int32}  (kt : s0 = 0 → wpx d P_Md_stands 24 [.ref r0, .int x1, .ref r2, .int x3, .int x4, v5] [] h Q) (kf : ¬ (s0 = 0) → wpx d P_Md_stands 11 [.ref r0, .int x1, .ref r2, .int x3, .int x4, v5] [] h Q) : wpx d P_Md_stands 8 [.ref r0, .int x1, .ref r2, .int x3, .int x4, v5] [.int s0] h Q := by
  exact st_if_eq (pc' := 11) rfl rfl kt kf
theorem B_Md_stands_11 {d : Nat} {h : PH} {Q : PQ} {r0 : Nat} {x1 : Int32} {r2 : Nat} {x3 : Int32} {x4 : Int32} {v5 : Value} {a0 : Nat} {n1 : Nat} (hs0 : h_sh h r0 = some (0, 12)) (hr1 : h_r h r0 2 = some a0) (hs2 : h_sh h a0 = some (1, n1)) (hb3 : vp_in x1 n1) (kt : (x4 + (h_i h a0 x1.toNatClampNeg)) ≤ x3 → wpx d P_Md_stands 26 [.ref r0, .int x1, .ref r2, .int x3, .int x4, v5] [] h Q) (kf : ¬ ((x4 + (h_i h a0 x1.toNatClampNeg)) ≤ x3) → wpx d P_Md_stands 24 [.ref r0, .int x1, .ref r2, .int x3, .int x4, v5] [] h Q) : wpx d P_Md_stands 11 [.ref r0, .int x1, .ref r2, .int x3, .int x4, v5] [] h Q := by
  refine st_iload (pc' := 13) rfl rfl rfl ?_
  refine st_aload (pc' := 14) rfl rfl rfl ?_
  refine st_getfr (x := some a0) (Or.inl rfl) rfl hs0 rfl hr1 (pc' := 17) rfl ?_
  refine st_iload (pc' := 18) rfl rfl rfl ?_
  refine st_iaload rfl hs2 hb3 (j := x1.toNatClampNeg) rfl (pc' := 19) rfl ?_
  refine st_iadd (pc' := 20) rfl rfl ?_
  refine st_iload (pc' := 21) rfl rfl rfl ?_
  exact st_icmp_le (pc' := 24) rfl rfl kt kf
theorem B_Md_stands_24 {d : Nat} {h : PH} {Q : PQ} {r0 : Nat} {x1 : Int32} {r2 : Nat} {x3 : Int32} {x4 : Int32} {v5 : Value}  (k : Q (some (.int 0)) h) : wpx d P_Md_stands 24 [.ref r0, .int x1, .ref r2, .int x3, .int x4, v5] [] h Q := by
  refine st_ipush (pc' := 25) (v := 0) rfl rfl (by decide) ?_
  exact st_ireturn (ty := .boolean) rfl rfl (by decide) k
theorem B_Md_stands_26 {d : Nat} {h : PH} {Q : PQ} {r0 : Nat} {x1 : Int32} {r2 : Nat} {x3 : Int32} {x4 : Int32} {v5 : Value}  (k : wpx d P_Md_stands 29 [.ref r0, .int x1, .ref r2, .int x3, .int x4, .int 0] [] h Q) : wpx d P_Md_stands 26 [.ref r0, .int x1, .ref r2, .int x3, .int x4, v5] [] h Q := by
  refine st_ipush (pc' := 27) (v := 0) rfl rfl (by decide) ?_
  refine st_istore (pc' := 29) (ls' := [.ref r0, .int x1, .ref r2, .int x3, .int x4, .int 0]) rfl rfl (Nat.le_of_ble_eq_true rfl) rfl ?_
  exact k
theorem B_Md_stands_29 {d : Nat} {h : PH} {Q : PQ} {r0 : Nat} {x1 : Int32} {r2 : Nat} {x3 : Int32} {x4 : Int32} {x5 : Int32} {a0 : Nat} {n1 : Nat} (hs0 : h_sh h r0 = some (0, 12)) (hr1 : h_r h r0 2 = some a0) (hs2 : h_sh h a0 = some (1, n1)) (hb3 : vp_in x1 n1) (kt : (h_i h a0 x1.toNatClampNeg) ≤ x5 → wpx d P_Md_stands 65 [.ref r0, .int x1, .ref r2, .int x3, .int x4, .int x5] [] h Q) (kf : ¬ ((h_i h a0 x1.toNatClampNeg) ≤ x5) → wpx d P_Md_stands 40 [.ref r0, .int x1, .ref r2, .int x3, .int x4, .int x5] [] h Q) : wpx d P_Md_stands 29 [.ref r0, .int x1, .ref r2, .int x3, .int x4, .int x5] [] h Q := by
  refine st_iload (pc' := 31) rfl rfl rfl ?_
  refine st_aload (pc' := 32) rfl rfl rfl ?_
  refine st_getfr (x := some a0) (Or.inl rfl) rfl hs0 rfl hr1 (pc' := 35) rfl ?_
  refine st_iload (pc' := 36) rfl rfl rfl ?_
  refine st_iaload rfl hs2 hb3 (j := x1.toNatClampNeg) rfl (pc' := 37) rfl ?_
  exact st_icmp_ge (pc' := 40) rfl rfl kt kf
theorem B_Md_stands_40 {d : Nat} {h : PH} {Q : PQ} {r0 : Nat} {x1 : Int32} {r2 : Nat} {x3 : Int32} {x4 : Int32} {x5 : Int32} {n0 : Nat} (hs0 : h_sh h r2 = some (1, n0)) (hb1 : vp_in (x4 + x5) n0) (hs2 : h_sh h r0 = some (0, 12)) (k : wpm d 175 [.ref r0, .int x1, .int x5] h (fun r h' => wpx d P_Md_stands 54 [.ref r0, .int x1, .ref r2, .int x3, .int x4, .int x5] (r.toList ++ [.int (h_i h r2 (x4 + x5).toNatClampNeg)]) h' Q)) : wpx d P_Md_stands 40 [.ref r0, .int x1, .ref r2, .int x3, .int x4, .int x5] [] h Q := by
  refine st_aload (pc' := 41) rfl rfl rfl ?_
  refine st_iload (pc' := 43) rfl rfl rfl ?_
  refine st_iload (pc' := 45) rfl rfl rfl ?_
  refine st_iadd (pc' := 46) rfl rfl ?_
  refine st_iaload rfl hs0 hb1 (j := (x4 + x5).toNatClampNeg) rfl (pc' := 47) rfl ?_
  refine st_aload (pc' := 48) rfl rfl rfl ?_
  refine st_iload (pc' := 49) rfl rfl rfl ?_
  refine st_iload (pc' := 51) rfl rfl rfl ?_
  exact st_call (pc' := 54) (as := [.ref r0, .int x1, .int x5]) (rest := [.int (h_i h r2 (x4 + x5).toNatClampNeg)]) rfl rfl (Nat.le_of_ble_eq_true rfl) rfl rfl (Nat.le_of_ble_eq_true rfl) (kd := 1) (o := 12) rfl rfl (beq_iff_eq.mpr hs2) k
theorem B_Md_stands_54 {d : Nat} {h : PH} {Q : PQ} {r0 : Nat} {x1 : Int32} {r2 : Nat} {x3 : Int32} {x4 : Int32} {x5 : Int32} {s0 : Int32} {s1 : Int32}  (kt : s0 = s1 → wpx d P_Md_stands 59 [.ref r0, .int x1, .ref r2, .int x3, .int x4, .int x5] [] h Q) (kf : ¬ (s0 = s1) → wpx d P_Md_stands 57 [.ref r0, .int x1, .ref r2, .int x3, .int x4, .int x5] [] h Q) : wpx d P_Md_stands 54 [.ref r0, .int x1, .ref r2, .int x3, .int x4, .int x5] [.int s1, .int s0] h Q := by
  exact st_icmp_eq (pc' := 57) rfl rfl kt kf
theorem B_Md_stands_57 {d : Nat} {h : PH} {Q : PQ} {r0 : Nat} {x1 : Int32} {r2 : Nat} {x3 : Int32} {x4 : Int32} {x5 : Int32}  (k : Q (some (.int 0)) h) : wpx d P_Md_stands 57 [.ref r0, .int x1, .ref r2, .int x3, .int x4, .int x5] [] h Q := by
  refine st_ipush (pc' := 58) (v := 0) rfl rfl (by decide) ?_
  exact st_ireturn (ty := .boolean) rfl rfl (by decide) k
theorem B_Md_stands_59 {d : Nat} {h : PH} {Q : PQ} {r0 : Nat} {x1 : Int32} {r2 : Nat} {x3 : Int32} {x4 : Int32} {x5 : Int32}  (k : wpx d P_Md_stands 29 [.ref r0, .int x1, .ref r2, .int x3, .int x4, .int (x5 + 1)] [] h Q) : wpx d P_Md_stands 59 [.ref r0, .int x1, .ref r2, .int x3, .int x4, .int x5] [] h Q := by
  refine st_iinc (pc' := 62) (v := 1) (ls' := [.ref r0, .int x1, .ref r2, .int x3, .int x4, .int (x5 + 1)]) rfl rfl rfl (by decide) rfl ?_
  exact st_goto rfl k
theorem B_Md_stands_65 {d : Nat} {h : PH} {Q : PQ} {r0 : Nat} {x1 : Int32} {r2 : Nat} {x3 : Int32} {x4 : Int32} {x5 : Int32}  (k : Q (some (.int 1)) h) : wpx d P_Md_stands 65 [.ref r0, .int x1, .ref r2, .int x3, .int x4, .int x5] [] h Q := by
  refine st_ipush (pc' := 66) (v := 1) rfl rfl (by decide) ?_
  exact st_ireturn (ty := .boolean) rfl rfl (by decide) k
theorem B_Md_layWays_0 {d : Nat} {h : PH} {Q : PQ} {r0 : Nat} {r1 : Nat} {x2 : Int32} {v3 : Value} {v4 : Value} {a0 : Nat} {n1 : Nat} (hs0 : h_sh h r0 = some (0, 12)) (hr1 : h_r h r0 40 = some a0) (hs2 : h_sh h a0 = some (4, n1)) (hb3 : vp_in x2 n1) (k : wpx d P_Md_layWays 11 [.ref r0, .ref r1, .int x2, .int (x2 - (1 : Int32)), v4] [] (w_l h a0 x2.toNatClampNeg 1) Q) : wpx d P_Md_layWays 0 [.ref r0, .ref r1, .int x2, v3, v4] [] h Q := by
  refine st_aload (pc' := 1) rfl rfl rfl ?_
  refine st_getfr (x := some a0) (Or.inl rfl) rfl hs0 rfl hr1 (pc' := 4) rfl ?_
  refine st_iload (pc' := 5) rfl rfl rfl ?_
  refine st_lpush (pc' := 6) (v := 1) rfl rfl (by decide) ?_
  refine st_lastore rfl hs2 hb3 (j := x2.toNatClampNeg) rfl (pc' := 7) rfl ?_
  refine st_iload (pc' := 8) rfl rfl rfl ?_
  refine st_ipush (pc' := 9) (v := 1) rfl rfl (by decide) ?_
  refine st_isub (pc' := 10) rfl rfl ?_
  refine st_istore (pc' := 11) (ls' := [.ref r0, .ref r1, .int x2, .int (x2 - (1 : Int32)), v4]) rfl rfl (Nat.le_of_ble_eq_true rfl) rfl ?_
  exact k
theorem B_Md_layWays_11 {d : Nat} {h : PH} {Q : PQ} {r0 : Nat} {r1 : Nat} {x2 : Int32} {x3 : Int32} {v4 : Value}  (kt : x3 < 0 → wpx d P_Md_layWays 85 [.ref r0, .ref r1, .int x2, .int x3, v4] [] h Q) (kf : ¬ (x3 < 0) → wpx d P_Md_layWays 15 [.ref r0, .ref r1, .int x2, .int x3, v4] [] h Q) : wpx d P_Md_layWays 11 [.ref r0, .ref r1, .int x2, .int x3, v4] [] h Q := by
  refine st_iload (pc' := 12) rfl rfl rfl ?_
  exact st_if_lt (pc' := 15) rfl rfl kt kf
theorem B_Md_layWays_15 {d : Nat} {h : PH} {Q : PQ} {r0 : Nat} {r1 : Nat} {x2 : Int32} {x3 : Int32} {v4 : Value} {a0 : Nat} {n1 : Nat} (hs0 : h_sh h r0 = some (0, 12)) (hr1 : h_r h r0 40 = some a0) (hs2 : h_sh h a0 = some (4, n1)) (hb3 : vp_in x3 n1) (k : wpx d P_Md_layWays 25 [.ref r0, .ref r1, .int x2, .int x3, .int 0] [] (w_l h a0 x3.toNatClampNeg 0) Q) : wpx d P_Md_layWays 15 [.ref r0, .ref r1, .int x2, .int x3, v4] [] h Q := by
  refine st_aload (pc' := 16) rfl rfl rfl ?_
  refine st_getfr (x := some a0) (Or.inl rfl) rfl hs0 rfl hr1 (pc' := 19) rfl ?_
  refine st_iload (pc' := 20) rfl rfl rfl ?_
  refine st_lpush (pc' := 21) (v := 0) rfl rfl (by decide) ?_
  refine st_lastore rfl hs2 hb3 (j := x3.toNatClampNeg) rfl (pc' := 22) rfl ?_
  refine st_ipush (pc' := 23) (v := 0) rfl rfl (by decide) ?_
  refine st_istore (pc' := 25) (ls' := [.ref r0, .ref r1, .int x2, .int x3, .int 0]) rfl rfl (Nat.le_of_ble_eq_true rfl) rfl ?_
  exact k
theorem B_Md_layWays_25 {d : Nat} {h : PH} {Q : PQ} {r0 : Nat} {r1 : Nat} {x2 : Int32} {x3 : Int32} {x4 : Int32} (hs0 : h_sh h r0 = some (0, 12)) (kt : (h_i h r0 4) ≤ x4 → wpx d P_Md_layWays 79 [.ref r0, .ref r1, .int x2, .int x3, .int x4] [] h Q) (kf : ¬ ((h_i h r0 4) ≤ x4) → wpx d P_Md_layWays 34 [.ref r0, .ref r1, .int x2, .int x3, .int x4] [] h Q) : wpx d P_Md_layWays 25 [.ref r0, .ref r1, .int x2, .int x3, .int x4] [] h Q := by
  refine st_iload (pc' := 27) rfl rfl rfl ?_
  refine st_aload (pc' := 28) rfl rfl rfl ?_
  refine st_getfi (Or.inl rfl) rfl hs0 rfl (pc' := 31) rfl ?_
  exact st_icmp_ge (pc' := 34) rfl rfl kt kf
theorem B_Md_layWays_34 {d : Nat} {h : PH} {Q : PQ} {r0 : Nat} {r1 : Nat} {x2 : Int32} {x3 : Int32} {x4 : Int32} {a0 : Nat} {n1 : Nat} (hs0 : h_sh h r0 = some (0, 12)) (hr1 : h_r h r0 40 = some a0) (hs2 : h_sh h a0 = some (4, n1)) (hb3 : vp_in x3 n1) (k : wpm d 226 [.ref r0, .int x4, .ref r1, .int x2, .int x3] h (fun r h' => wpx d P_Md_layWays 50 [.ref r0, .ref r1, .int x2, .int x3, .int x4] (r.toList ++ [.long (h_l h a0 x3.toNatClampNeg), .int x3, .ref a0]) h' Q)) : wpx d P_Md_layWays 34 [.ref r0, .ref r1, .int x2, .int x3, .int x4] [] h Q := by
  refine st_aload (pc' := 35) rfl rfl rfl ?_
  refine st_getfr (x := some a0) (Or.inl rfl) rfl hs0 rfl hr1 (pc' := 38) rfl ?_
  refine st_iload (pc' := 39) rfl rfl rfl ?_
  refine st_dup211 (pc' := 40) rfl rfl ⟨rfl, rfl⟩ ?_
  refine st_laload rfl hs2 hb3 (j := x3.toNatClampNeg) rfl (pc' := 41) rfl ?_
  refine st_aload (pc' := 42) rfl rfl rfl ?_
  refine st_iload (pc' := 44) rfl rfl rfl ?_
  refine st_aload (pc' := 45) rfl rfl rfl ?_
  refine st_iload (pc' := 46) rfl rfl rfl ?_
  refine st_iload (pc' := 47) rfl rfl rfl ?_
  exact st_call (pc' := 50) (as := [.ref r0, .int x4, .ref r1, .int x2, .int x3]) (rest := [.long (h_l h a0 x3.toNatClampNeg), .int x3, .ref a0]) rfl rfl (Nat.le_of_ble_eq_true rfl) rfl rfl (Nat.le_of_ble_eq_true rfl) (kd := 1) (o := 12) rfl rfl (beq_iff_eq.mpr hs0) k
theorem B_Md_layWays_50 {d : Nat} {h : PH} {Q : PQ} {r0 : Nat} {r1 : Nat} {x2 : Int32} {x3 : Int32} {x4 : Int32} {q0 : Nat} {s1 : Int32} {t2 : Int64} {s3 : Int32}  (kt : s3 = 0 → wpx d P_Md_layWays 70 [.ref r0, .ref r1, .int x2, .int x3, .int x4] [.long t2, .int s1, .ref q0] h Q) (kf : ¬ (s3 = 0) → wpx d P_Md_layWays 53 [.ref r0, .ref r1, .int x2, .int x3, .int x4] [.long t2, .int s1, .ref q0] h Q) : wpx d P_Md_layWays 50 [.ref r0, .ref r1, .int x2, .int x3, .int x4] [.int s3, .long t2, .int s1, .ref q0] h Q := by
  exact st_if_eq (pc' := 53) rfl rfl kt kf
theorem B_Md_layWays_53 {d : Nat} {h : PH} {Q : PQ} {r0 : Nat} {r1 : Nat} {x2 : Int32} {x3 : Int32} {x4 : Int32} {q0 : Nat} {s1 : Int32} {t2 : Int64} {a0 : Nat} {a1 : Nat} {n2 : Nat} {n3 : Nat} (hs0 : h_sh h r0 = some (0, 12)) (hr1 : h_r h r0 40 = some a0) (hr2 : h_r h r0 2 = some a1) (hs3 : h_sh h a1 = some (1, n2)) (hb4 : vp_in x4 n2) (hs5 : h_sh h a0 = some (4, n3)) (hb6 : vp_in (x3 + (h_i h a1 x4.toNatClampNeg)) n3) (k : wpx d P_Md_layWays 71 [.ref r0, .ref r1, .int x2, .int x3, .int x4] [.long (h_l h a0 (x3 + (h_i h a1 x4.toNatClampNeg)).toNatClampNeg), .long t2, .int s1, .ref q0] h Q) : wpx d P_Md_layWays 53 [.ref r0, .ref r1, .int x2, .int x3, .int x4] [.long t2, .int s1, .ref q0] h Q := by
  refine st_aload (pc' := 54) rfl rfl rfl ?_
  refine st_getfr (x := some a0) (Or.inl rfl) rfl hs0 rfl hr1 (pc' := 57) rfl ?_
  refine st_iload (pc' := 58) rfl rfl rfl ?_
  refine st_aload (pc' := 59) rfl rfl rfl ?_
  refine st_getfr (x := some a1) (Or.inl rfl) rfl hs0 rfl hr2 (pc' := 62) rfl ?_
  refine st_iload (pc' := 64) rfl rfl rfl ?_
  refine st_iaload rfl hs3 hb4 (j := x4.toNatClampNeg) rfl (pc' := 65) rfl ?_
  refine st_iadd (pc' := 66) rfl rfl ?_
  refine st_laload rfl hs5 hb6 (j := (x3 + (h_i h a1 x4.toNatClampNeg)).toNatClampNeg) rfl (pc' := 67) rfl ?_
  exact st_goto rfl k
theorem B_Md_layWays_70 {d : Nat} {h : PH} {Q : PQ} {r0 : Nat} {r1 : Nat} {x2 : Int32} {x3 : Int32} {x4 : Int32} {q0 : Nat} {s1 : Int32} {t2 : Int64}  (k : wpx d P_Md_layWays 71 [.ref r0, .ref r1, .int x2, .int x3, .int x4] [.long 0, .long t2, .int s1, .ref q0] h Q) : wpx d P_Md_layWays 70 [.ref r0, .ref r1, .int x2, .int x3, .int x4] [.long t2, .int s1, .ref q0] h Q := by
  refine st_lpush (pc' := 71) (v := 0) rfl rfl (by decide) ?_
  exact k
theorem B_Md_layWays_71 {d : Nat} {h : PH} {Q : PQ} {r0 : Nat} {r1 : Nat} {x2 : Int32} {x3 : Int32} {x4 : Int32} {q0 : Nat} {s1 : Int32} {t2 : Int64} {t3 : Int64} {n0 : Nat} (hs0 : h_sh h q0 = some (4, n0)) (hb1 : vp_in s1 n0) (k : wpx d P_Md_layWays 25 [.ref r0, .ref r1, .int x2, .int x3, .int (x4 + 1)] [] (w_l h q0 s1.toNatClampNeg (t2 + t3)) Q) : wpx d P_Md_layWays 71 [.ref r0, .ref r1, .int x2, .int x3, .int x4] [.long t3, .long t2, .int s1, .ref q0] h Q := by
  refine st_ladd (pc' := 72) rfl rfl ?_
  refine st_lastore rfl hs0 hb1 (j := s1.toNatClampNeg) rfl (pc' := 73) rfl ?_
  refine st_iinc (pc' := 76) (v := 1) (ls' := [.ref r0, .ref r1, .int x2, .int x3, .int (x4 + 1)]) rfl rfl rfl (by decide) rfl ?_
  exact st_goto rfl k
theorem B_Md_layWays_79 {d : Nat} {h : PH} {Q : PQ} {r0 : Nat} {r1 : Nat} {x2 : Int32} {x3 : Int32} {x4 : Int32}  (k : wpx d P_Md_layWays 11 [.ref r0, .ref r1, .int x2, .int (x3 + (-1)), .int x4] [] h Q) : wpx d P_Md_layWays 79 [.ref r0, .ref r1, .int x2, .int x3, .int x4] [] h Q := by
  refine st_iinc (pc' := 82) (v := (-1)) (ls' := [.ref r0, .ref r1, .int x2, .int (x3 + (-1)), .int x4]) rfl rfl rfl (by decide) rfl ?_
  exact st_goto rfl k
theorem B_Md_layWays_85 {d : Nat} {h : PH} {Q : PQ} {r0 : Nat} {r1 : Nat} {x2 : Int32} {x3 : Int32} {v4 : Value}  (k : Q none h) : wpx d P_Md_layWays 85 [.ref r0, .ref r1, .int x2, .int x3, v4] [] h Q := by
  exact st_return rfl k
theorem B_Md_word_0 {d : Nat} {h : PH} {Q : PQ} {r0 : Nat} {v1 : Value} {v2 : Value} {v3 : Value} (hs0 : h_sh h r0 = some (0, 12)) (kt : (40 : Int32) < (h_i (w_i h r0 0 0) r0 12) → wpx d P_Md_word 25 [.ref r0, .int (h_i (w_i h r0 0 0) r0 12), v2, v3] [] (w_i (w_i h r0 0 0) r0 12 0) Q) (kf : ¬ ((40 : Int32) < (h_i (w_i h r0 0 0) r0 12)) → wpx d P_Md_word 21 [.ref r0, .int (h_i (w_i h r0 0 0) r0 12), v2, v3] [] (w_i (w_i h r0 0 0) r0 12 0) Q) : wpx d P_Md_word 0 [.ref r0, v1, v2, v3] [] h Q := by
  refine st_aload (pc' := 1) rfl rfl rfl ?_
  refine st_ipush (pc' := 2) (v := 0) rfl rfl (by decide) ?_
  refine st_putf (h' := w_i h r0 0 0) (Or.inl rfl) rfl hs0 rfl rfl rfl (pc' := 5) rfl ?_
  refine st_aload (pc' := 6) rfl rfl rfl ?_
  refine st_getfi (Or.inl rfl) rfl hs0 rfl (pc' := 9) rfl ?_
  refine st_istore (pc' := 10) (ls' := [.ref r0, .int (h_i (w_i h r0 0 0) r0 12), v2, v3]) rfl rfl (Nat.le_of_ble_eq_true rfl) rfl ?_
  refine st_aload (pc' := 11) rfl rfl rfl ?_
  refine st_ipush (pc' := 12) (v := 0) rfl rfl (by decide) ?_
  refine st_putf (h' := w_i (w_i h r0 0 0) r0 12 0) (Or.inl rfl) rfl hs0 rfl rfl rfl (pc' := 15) rfl ?_
  refine st_iload (pc' := 16) rfl rfl rfl ?_
  refine st_ipush (pc' := 18) (v := 40) rfl rfl (by decide) ?_
  exact st_icmp_gt (pc' := 21) rfl rfl kt kf
theorem B_Md_word_21 {d : Nat} {h : PH} {Q : PQ} {r0 : Nat} {x1 : Int32} {v2 : Value} {v3 : Value}  (k : wpx d P_Md_word 26 [.ref r0, .int x1, v2, v3] [.int 1] h Q) : wpx d P_Md_word 21 [.ref r0, .int x1, v2, v3] [] h Q := by
  refine st_ipush (pc' := 22) (v := 1) rfl rfl (by decide) ?_
  exact st_goto rfl k
theorem B_Md_word_25 {d : Nat} {h : PH} {Q : PQ} {r0 : Nat} {x1 : Int32} {v2 : Value} {v3 : Value}  (k : wpx d P_Md_word 26 [.ref r0, .int x1, v2, v3] [.int 0] h Q) : wpx d P_Md_word 25 [.ref r0, .int x1, v2, v3] [] h Q := by
  refine st_ipush (pc' := 26) (v := 0) rfl rfl (by decide) ?_
  exact k
theorem B_Md_word_26 {d : Nat} {h : PH} {Q : PQ} {r0 : Nat} {x1 : Int32} {v2 : Value} {v3 : Value} {s0 : Int32}  (k : wpx d P_Md_word 29 [.ref r0, .int x1, .int s0, .int 0] [] h Q) : wpx d P_Md_word 26 [.ref r0, .int x1, v2, v3] [.int s0] h Q := by
  refine st_istore (pc' := 27) (ls' := [.ref r0, .int x1, .int s0, v3]) rfl rfl (Nat.le_of_ble_eq_true rfl) rfl ?_
  refine st_ipush (pc' := 28) (v := 0) rfl rfl (by decide) ?_
  refine st_istore (pc' := 29) (ls' := [.ref r0, .int x1, .int s0, .int 0]) rfl rfl (Nat.le_of_ble_eq_true rfl) rfl ?_
  exact k
theorem B_Md_word_29 {d : Nat} {h : PH} {Q : PQ} {r0 : Nat} {x1 : Int32} {x2 : Int32} {x3 : Int32}  (kt : x1 ≤ x3 → wpx d P_Md_word 70 [.ref r0, .int x1, .int x2, .int x3] [] h Q) (kf : ¬ (x1 ≤ x3) → wpx d P_Md_word 34 [.ref r0, .int x1, .int x2, .int x3] [] h Q) : wpx d P_Md_word 29 [.ref r0, .int x1, .int x2, .int x3] [] h Q := by
  refine st_iload (pc' := 30) rfl rfl rfl ?_
  refine st_iload (pc' := 31) rfl rfl rfl ?_
  exact st_icmp_ge (pc' := 34) rfl rfl kt kf
theorem B_Md_word_34 {d : Nat} {h : PH} {Q : PQ} {r0 : Nat} {x1 : Int32} {x2 : Int32} {x3 : Int32} {a0 : Nat} {n1 : Nat} (hs0 : h_sh h r0 = some (0, 12)) (hr1 : h_r h r0 7 = some a0) (hs2 : h_sh h a0 = some (1, n1)) (hb3 : vp_in x3 n1) (kt : (h_i h a0 x3.toNatClampNeg) < (97 : Int32) → wpx d P_Md_word 61 [.ref r0, .int x1, .int x2, .int x3] [.int x2] h Q) (kf : ¬ ((h_i h a0 x3.toNatClampNeg) < (97 : Int32)) → wpx d P_Md_word 46 [.ref r0, .int x1, .int x2, .int x3] [.int x2] h Q) : wpx d P_Md_word 34 [.ref r0, .int x1, .int x2, .int x3] [] h Q := by
  refine st_iload (pc' := 35) rfl rfl rfl ?_
  refine st_aload (pc' := 36) rfl rfl rfl ?_
  refine st_getfr (x := some a0) (Or.inl rfl) rfl hs0 rfl hr1 (pc' := 39) rfl ?_
  refine st_iload (pc' := 40) rfl rfl rfl ?_
  refine st_iaload rfl hs2 hb3 (j := x3.toNatClampNeg) rfl (pc' := 41) rfl ?_
  refine st_ipush (pc' := 43) (v := 97) rfl rfl (by decide) ?_
  exact st_icmp_lt (pc' := 46) rfl rfl kt kf
theorem B_Md_word_46 {d : Nat} {h : PH} {Q : PQ} {r0 : Nat} {x1 : Int32} {x2 : Int32} {x3 : Int32} {s0 : Int32} {a0 : Nat} {n1 : Nat} (hs0 : h_sh h r0 = some (0, 12)) (hr1 : h_r h r0 7 = some a0) (hs2 : h_sh h a0 = some (1, n1)) (hb3 : vp_in x3 n1) (kt : (123 : Int32) < (h_i h a0 x3.toNatClampNeg) → wpx d P_Md_word 61 [.ref r0, .int x1, .int x2, .int x3] [.int s0] h Q) (kf : ¬ ((123 : Int32) < (h_i h a0 x3.toNatClampNeg)) → wpx d P_Md_word 57 [.ref r0, .int x1, .int x2, .int x3] [.int s0] h Q) : wpx d P_Md_word 46 [.ref r0, .int x1, .int x2, .int x3] [.int s0] h Q := by
  refine st_aload (pc' := 47) rfl rfl rfl ?_
  refine st_getfr (x := some a0) (Or.inl rfl) rfl hs0 rfl hr1 (pc' := 50) rfl ?_
  refine st_iload (pc' := 51) rfl rfl rfl ?_
  refine st_iaload rfl hs2 hb3 (j := x3.toNatClampNeg) rfl (pc' := 52) rfl ?_
  refine st_ipush (pc' := 54) (v := 123) rfl rfl (by decide) ?_
  exact st_icmp_gt (pc' := 57) rfl rfl kt kf
theorem B_Md_word_57 {d : Nat} {h : PH} {Q : PQ} {r0 : Nat} {x1 : Int32} {x2 : Int32} {x3 : Int32} {s0 : Int32}  (k : wpx d P_Md_word 62 [.ref r0, .int x1, .int x2, .int x3] [.int 1, .int s0] h Q) : wpx d P_Md_word 57 [.ref r0, .int x1, .int x2, .int x3] [.int s0] h Q := by
  refine st_ipush (pc' := 58) (v := 1) rfl rfl (by decide) ?_
  exact st_goto rfl k
theorem B_Md_word_61 {d : Nat} {h : PH} {Q : PQ} {r0 : Nat} {x1 : Int32} {x2 : Int32} {x3 : Int32} {s0 : Int32}  (k : wpx d P_Md_word 62 [.ref r0, .int x1, .int x2, .int x3] [.int 0, .int s0] h Q) : wpx d P_Md_word 61 [.ref r0, .int x1, .int x2, .int x3] [.int s0] h Q := by
  refine st_ipush (pc' := 62) (v := 0) rfl rfl (by decide) ?_
  exact k
theorem B_Md_word_62 {d : Nat} {h : PH} {Q : PQ} {r0 : Nat} {x1 : Int32} {x2 : Int32} {x3 : Int32} {s0 : Int32} {s1 : Int32}  (k : wpx d P_Md_word 29 [.ref r0, .int x1, .int (s0 &&& s1), .int (x3 + 1)] [] h Q) : wpx d P_Md_word 62 [.ref r0, .int x1, .int x2, .int x3] [.int s1, .int s0] h Q := by
  refine st_iand (pc' := 63) rfl rfl ?_
  refine st_istore (pc' := 64) (ls' := [.ref r0, .int x1, .int (s0 &&& s1), .int x3]) rfl rfl (Nat.le_of_ble_eq_true rfl) rfl ?_
  refine st_iinc (pc' := 67) (v := 1) (ls' := [.ref r0, .int x1, .int (s0 &&& s1), .int (x3 + 1)]) rfl rfl rfl (by decide) rfl ?_
  exact st_goto rfl k
theorem B_Md_word_70 {d : Nat} {h : PH} {Q : PQ} {r0 : Nat} {x1 : Int32} {x2 : Int32} {x3 : Int32}  (kt : ¬ (x2 = 0) → wpx d P_Md_word 76 [.ref r0, .int x1, .int x2, .int x3] [] h Q) (kf : x2 = 0 → wpx d P_Md_word 74 [.ref r0, .int x1, .int x2, .int x3] [] h Q) : wpx d P_Md_word 70 [.ref r0, .int x1, .int x2, .int x3] [] h Q := by
  refine st_iload (pc' := 71) rfl rfl rfl ?_
  exact st_if_ne (pc' := 74) rfl rfl kt kf
theorem B_Md_word_74 {d : Nat} {h : PH} {Q : PQ} {r0 : Nat} {x1 : Int32} {x2 : Int32} {x3 : Int32}  (k : Q (some (.int (-1))) h) : wpx d P_Md_word 74 [.ref r0, .int x1, .int x2, .int x3] [] h Q := by
  refine st_ipush (pc' := 75) (v := (-1)) rfl rfl (by decide) ?_
  exact st_ireturn (ty := .int) rfl rfl rfl k
theorem B_Md_word_76 {d : Nat} {h : PH} {Q : PQ} {r0 : Nat} {x1 : Int32} {x2 : Int32} {x3 : Int32} {a0 : Nat} (hs0 : h_sh h r0 = some (0, 12)) (hr1 : h_r h r0 7 = some a0) (k : wpm d 221 [.ref r0, .ref a0, .int 0, .int x1] h (fun r h' => wpx d P_Md_word 86 [.ref r0, .int x1, .int x2, .int x3] (r.toList ++ []) h' Q)) : wpx d P_Md_word 76 [.ref r0, .int x1, .int x2, .int x3] [] h Q := by
  refine st_aload (pc' := 77) rfl rfl rfl ?_
  refine st_aload (pc' := 78) rfl rfl rfl ?_
  refine st_getfr (x := some a0) (Or.inl rfl) rfl hs0 rfl hr1 (pc' := 81) rfl ?_
  refine st_ipush (pc' := 82) (v := 0) rfl rfl (by decide) ?_
  refine st_iload (pc' := 83) rfl rfl rfl ?_
  exact st_call (pc' := 86) (as := [.ref r0, .ref a0, .int 0, .int x1]) (rest := []) rfl rfl (Nat.le_of_ble_eq_true rfl) rfl rfl (Nat.le_of_ble_eq_true rfl) (kd := 1) (o := 12) rfl rfl (beq_iff_eq.mpr hs0) k
theorem B_Md_word_86 {d : Nat} {h : PH} {Q : PQ} {r0 : Nat} {x1 : Int32} {x2 : Int32} {x3 : Int32}  (k : Q (some (.int x1)) h) : wpx d P_Md_word 86 [.ref r0, .int x1, .int x2, .int x3] [] h Q := by
  refine st_iload (pc' := 87) rfl rfl rfl ?_
  exact st_ireturn (ty := .int) rfl rfl rfl k
theorem B_Md_letter_0 {d : Nat} {h : PH} {Q : PQ} {r0 : Nat} {x1 : Int32} (hs0 : h_sh h r0 = some (0, 12)) (k : wpm d 170 [.int x1, .int 0, .int ((h_i (w_i h r0 0 0) r0 24) - (1 : Int32))] (w_i h r0 0 0) (fun r h' => wpx d P_Md_letter 16 [.ref r0, .int x1] (r.toList ++ []) h' Q)) : wpx d P_Md_letter 0 [.ref r0, .int x1] [] h Q := by
  refine st_aload (pc' := 1) rfl rfl rfl ?_
  refine st_ipush (pc' := 2) (v := 0) rfl rfl (by decide) ?_
  refine st_putf (h' := w_i h r0 0 0) (Or.inl rfl) rfl hs0 rfl rfl rfl (pc' := 5) rfl ?_
  refine st_iload (pc' := 6) rfl rfl rfl ?_
  refine st_ipush (pc' := 7) (v := 0) rfl rfl (by decide) ?_
  refine st_aload (pc' := 8) rfl rfl rfl ?_
  refine st_getfi (Or.inl rfl) rfl hs0 rfl (pc' := 11) rfl ?_
  refine st_ipush (pc' := 12) (v := 1) rfl rfl (by decide) ?_
  refine st_isub (pc' := 13) rfl rfl ?_
  exact st_call (pc' := 16) (as := [.int x1, .int 0, .int ((h_i (w_i h r0 0 0) r0 24) - (1 : Int32))]) (rest := []) rfl rfl (Nat.le_of_ble_eq_true rfl) rfl rfl (Nat.le_of_ble_eq_true rfl) (kd := 0) (o := 12) rfl rfl rfl k
theorem B_Md_letter_16 {d : Nat} {h : PH} {Q : PQ} {r0 : Nat} {x1 : Int32} {s0 : Int32}  (kt : s0 = 0 → wpx d P_Md_letter 28 [.ref r0, .int x1] [] h Q) (kf : ¬ (s0 = 0) → wpx d P_Md_letter 19 [.ref r0, .int x1] [] h Q) : wpx d P_Md_letter 16 [.ref r0, .int x1] [.int s0] h Q := by
  exact st_if_eq (pc' := 19) rfl rfl kt kf
theorem B_Md_letter_19 {d : Nat} {h : PH} {Q : PQ} {r0 : Nat} {x1 : Int32} {a0 : Nat} {n1 : Nat} (hs0 : h_sh h r0 = some (0, 12)) (hr1 : h_r h r0 23 = some a0) (hs2 : h_sh h a0 = some (1, n1)) (hb3 : vp_in x1 n1) (k : wpx d P_Md_letter 29 [.ref r0, .int x1] [.int (h_i h a0 x1.toNatClampNeg)] h Q) : wpx d P_Md_letter 19 [.ref r0, .int x1] [] h Q := by
  refine st_aload (pc' := 20) rfl rfl rfl ?_
  refine st_getfr (x := some a0) (Or.inl rfl) rfl hs0 rfl hr1 (pc' := 23) rfl ?_
  refine st_iload (pc' := 24) rfl rfl rfl ?_
  refine st_iaload rfl hs2 hb3 (j := x1.toNatClampNeg) rfl (pc' := 25) rfl ?_
  exact st_goto rfl k
theorem B_Md_letter_28 {d : Nat} {h : PH} {Q : PQ} {r0 : Nat} {x1 : Int32}  (k : wpx d P_Md_letter 29 [.ref r0, .int x1] [.int (-1)] h Q) : wpx d P_Md_letter 28 [.ref r0, .int x1] [] h Q := by
  refine st_ipush (pc' := 29) (v := (-1)) rfl rfl (by decide) ?_
  exact k
theorem B_Md_letter_29 {d : Nat} {h : PH} {Q : PQ} {r0 : Nat} {x1 : Int32} {s0 : Int32}  (k : Q (some (.int s0)) h) : wpx d P_Md_letter 29 [.ref r0, .int x1] [.int s0] h Q := by
  exact st_ireturn (ty := .int) rfl rfl rfl k
theorem B_Md_readings_0 {d : Nat} {h : PH} {Q : PQ} {r0 : Nat} {a0 : Nat} (hs0 : h_sh h r0 = some (0, 12)) (hr1 : h_r h r0 23 = some a0) (k : wpm d 227 [.ref r0, .ref a0, .int (h_i (w_i h r0 0 0) r0 24)] (w_i h r0 0 0) (fun r h' => wpx d P_Md_readings 17 [.ref r0] (r.toList ++ []) h' Q)) : wpx d P_Md_readings 0 [.ref r0] [] h Q := by
  refine st_aload (pc' := 1) rfl rfl rfl ?_
  refine st_ipush (pc' := 2) (v := 0) rfl rfl (by decide) ?_
  refine st_putf (h' := w_i h r0 0 0) (Or.inl rfl) rfl hs0 rfl rfl rfl (pc' := 5) rfl ?_
  refine st_aload (pc' := 6) rfl rfl rfl ?_
  refine st_aload (pc' := 7) rfl rfl rfl ?_
  refine st_getfr (x := some a0) (Or.inl rfl) rfl hs0 rfl hr1 (pc' := 10) rfl ?_
  refine st_aload (pc' := 11) rfl rfl rfl ?_
  refine st_getfi (Or.inl rfl) rfl hs0 rfl (pc' := 14) rfl ?_
  exact st_call (pc' := 17) (as := [.ref r0, .ref a0, .int (h_i (w_i h r0 0 0) r0 24)]) (rest := []) rfl rfl (Nat.le_of_ble_eq_true rfl) rfl rfl (Nat.le_of_ble_eq_true rfl) (kd := 1) (o := 12) rfl rfl (beq_iff_eq.mpr hs0) k
theorem B_Md_readings_17 {d : Nat} {h : PH} {Q : PQ} {r0 : Nat} {a0 : Nat} {n1 : Nat} (hs0 : h_sh h r0 = some (0, 12)) (hr1 : h_r h r0 40 = some a0) (hs2 : h_sh h a0 = some (4, n1)) (hb3 : vp_in 0 n1) (k : Q (some (.long (h_l h a0 0))) h) : wpx d P_Md_readings 17 [.ref r0] [] h Q := by
  refine st_aload (pc' := 18) rfl rfl rfl ?_
  refine st_getfr (x := some a0) (Or.inl rfl) rfl hs0 rfl hr1 (pc' := 21) rfl ?_
  refine st_ipush (pc' := 22) (v := 0) rfl rfl (by decide) ?_
  refine st_laload rfl hs2 hb3 (j := 0) (by decide) (pc' := 23) rfl ?_
  exact st_lreturn rfl k
theorem B_Md_goesBy_0 {d : Nat} {h : PH} {Q : PQ} {r0 : Nat} {l1 : Int64} {v3 : Value} {v4 : Value} {v5 : Value} {v6 : Value} {v7 : Value}  (k : wpx d P_Md_goesBy 5 [.ref r0, .long l1, .retAddr 2, .long l1, .retAddr 2, .int 0, v6, v7] [] h Q) : wpx d P_Md_goesBy 0 [.ref r0, .long l1, .retAddr 2, v3, v4, v5, v6, v7] [] h Q := by
  refine st_lload (pc' := 1) rfl rfl rfl rfl ?_
  refine st_lstore (pc' := 2) (ls' := [.ref r0, .long l1, .retAddr 2, .long l1, .retAddr 2, v5, v6, v7]) rfl rfl (Nat.le_of_ble_eq_true rfl) rfl ?_
  refine st_ipush (pc' := 3) (v := 0) rfl rfl (by decide) ?_
  refine st_istore (pc' := 5) (ls' := [.ref r0, .long l1, .retAddr 2, .long l1, .retAddr 2, .int 0, v6, v7]) rfl rfl (Nat.le_of_ble_eq_true rfl) rfl ?_
  exact k
theorem B_Md_goesBy_5 {d : Nat} {h : PH} {Q : PQ} {r0 : Nat} {l1 : Int64} {l3 : Int64} {x5 : Int32} {v6 : Value} {v7 : Value} (hs0 : h_sh h r0 = some (0, 12)) (kt : (h_i h r0 4) ≤ x5 → wpx d P_Md_goesBy 100 [.ref r0, .long l1, .retAddr 2, .long l3, .retAddr 2, .int x5, v6, v7] [] h Q) (kf : ¬ ((h_i h r0 4) ≤ x5) → wpx d P_Md_goesBy 14 [.ref r0, .long l1, .retAddr 2, .long l3, .retAddr 2, .int x5, v6, v7] [] h Q) : wpx d P_Md_goesBy 5 [.ref r0, .long l1, .retAddr 2, .long l3, .retAddr 2, .int x5, v6, v7] [] h Q := by
  refine st_iload (pc' := 7) rfl rfl rfl ?_
  refine st_aload (pc' := 8) rfl rfl rfl ?_
  refine st_getfi (Or.inl rfl) rfl hs0 rfl (pc' := 11) rfl ?_
  exact st_icmp_ge (pc' := 14) rfl rfl kt kf
theorem B_Md_goesBy_14 {d : Nat} {h : PH} {Q : PQ} {r0 : Nat} {l1 : Int64} {l3 : Int64} {x5 : Int32} {v6 : Value} {v7 : Value} {a0 : Nat} (hs0 : h_sh h r0 = some (0, 12)) (hr1 : h_r h r0 23 = some a0) (k : wpm d 226 [.ref r0, .int x5, .ref a0, .int (h_i h r0 24), .int (h_i h r0 41)] h (fun r h' => wpx d P_Md_goesBy 32 [.ref r0, .long l1, .retAddr 2, .long l3, .retAddr 2, .int x5, v6, v7] (r.toList ++ []) h' Q)) : wpx d P_Md_goesBy 14 [.ref r0, .long l1, .retAddr 2, .long l3, .retAddr 2, .int x5, v6, v7] [] h Q := by
  refine st_aload (pc' := 15) rfl rfl rfl ?_
  refine st_iload (pc' := 17) rfl rfl rfl ?_
  refine st_aload (pc' := 18) rfl rfl rfl ?_
  refine st_getfr (x := some a0) (Or.inl rfl) rfl hs0 rfl hr1 (pc' := 21) rfl ?_
  refine st_aload (pc' := 22) rfl rfl rfl ?_
  refine st_getfi (Or.inl rfl) rfl hs0 rfl (pc' := 25) rfl ?_
  refine st_aload (pc' := 26) rfl rfl rfl ?_
  refine st_getfi (Or.inl rfl) rfl hs0 rfl (pc' := 29) rfl ?_
  exact st_call (pc' := 32) (as := [.ref r0, .int x5, .ref a0, .int (h_i h r0 24), .int (h_i h r0 41)]) (rest := []) rfl rfl (Nat.le_of_ble_eq_true rfl) rfl rfl (Nat.le_of_ble_eq_true rfl) (kd := 1) (o := 12) rfl rfl (beq_iff_eq.mpr hs0) k
theorem B_Md_goesBy_32 {d : Nat} {h : PH} {Q : PQ} {r0 : Nat} {l1 : Int64} {l3 : Int64} {x5 : Int32} {v6 : Value} {v7 : Value} {s0 : Int32}  (kt : s0 = 0 → wpx d P_Md_goesBy 55 [.ref r0, .long l1, .retAddr 2, .long l3, .retAddr 2, .int x5, v6, v7] [] h Q) (kf : ¬ (s0 = 0) → wpx d P_Md_goesBy 35 [.ref r0, .long l1, .retAddr 2, .long l3, .retAddr 2, .int x5, v6, v7] [] h Q) : wpx d P_Md_goesBy 32 [.ref r0, .long l1, .retAddr 2, .long l3, .retAddr 2, .int x5, v6, v7] [.int s0] h Q := by
  exact st_if_eq (pc' := 35) rfl rfl kt kf
theorem B_Md_goesBy_35 {d : Nat} {h : PH} {Q : PQ} {r0 : Nat} {l1 : Int64} {l3 : Int64} {x5 : Int32} {v6 : Value} {v7 : Value} {a0 : Nat} {a1 : Nat} {n2 : Nat} {n3 : Nat} (hs0 : h_sh h r0 = some (0, 12)) (hr1 : h_r h r0 40 = some a0) (hr2 : h_r h r0 2 = some a1) (hs3 : h_sh h a1 = some (1, n2)) (hb4 : vp_in x5 n2) (hs5 : h_sh h a0 = some (4, n3)) (hb6 : vp_in ((h_i h r0 41) + (h_i h a1 x5.toNatClampNeg)) n3) (k : wpx d P_Md_goesBy 56 [.ref r0, .long l1, .retAddr 2, .long l3, .retAddr 2, .int x5, v6, v7] [.long (h_l h a0 ((h_i h r0 41) + (h_i h a1 x5.toNatClampNeg)).toNatClampNeg)] h Q) : wpx d P_Md_goesBy 35 [.ref r0, .long l1, .retAddr 2, .long l3, .retAddr 2, .int x5, v6, v7] [] h Q := by
  refine st_aload (pc' := 36) rfl rfl rfl ?_
  refine st_getfr (x := some a0) (Or.inl rfl) rfl hs0 rfl hr1 (pc' := 39) rfl ?_
  refine st_aload (pc' := 40) rfl rfl rfl ?_
  refine st_getfi (Or.inl rfl) rfl hs0 rfl (pc' := 43) rfl ?_
  refine st_aload (pc' := 44) rfl rfl rfl ?_
  refine st_getfr (x := some a1) (Or.inl rfl) rfl hs0 rfl hr2 (pc' := 47) rfl ?_
  refine st_iload (pc' := 49) rfl rfl rfl ?_
  refine st_iaload rfl hs3 hb4 (j := x5.toNatClampNeg) rfl (pc' := 50) rfl ?_
  refine st_iadd (pc' := 51) rfl rfl ?_
  refine st_laload rfl hs5 hb6 (j := ((h_i h r0 41) + (h_i h a1 x5.toNatClampNeg)).toNatClampNeg) rfl (pc' := 52) rfl ?_
  exact st_goto rfl k
theorem B_Md_goesBy_55 {d : Nat} {h : PH} {Q : PQ} {r0 : Nat} {l1 : Int64} {l3 : Int64} {x5 : Int32} {v6 : Value} {v7 : Value}  (k : wpx d P_Md_goesBy 56 [.ref r0, .long l1, .retAddr 2, .long l3, .retAddr 2, .int x5, v6, v7] [.long 0] h Q) : wpx d P_Md_goesBy 55 [.ref r0, .long l1, .retAddr 2, .long l3, .retAddr 2, .int x5, v6, v7] [] h Q := by
  refine st_lpush (pc' := 56) (v := 0) rfl rfl (by decide) ?_
  exact k
theorem B_Md_goesBy_56 {d : Nat} {h : PH} {Q : PQ} {r0 : Nat} {l1 : Int64} {l3 : Int64} {x5 : Int32} {v6 : Value} {v7 : Value} {t0 : Int64}  (kt : 0 ≤ (lg_cmp l3 t0) → wpx d P_Md_goesBy 89 [.ref r0, .long l1, .retAddr 2, .long l3, .retAddr 2, .int x5, .long t0, .retAddr 2] [] h Q) (kf : ¬ (0 ≤ (lg_cmp l3 t0)) → wpx d P_Md_goesBy 65 [.ref r0, .long l1, .retAddr 2, .long l3, .retAddr 2, .int x5, .long t0, .retAddr 2] [] h Q) : wpx d P_Md_goesBy 56 [.ref r0, .long l1, .retAddr 2, .long l3, .retAddr 2, .int x5, v6, v7] [.long t0] h Q := by
  refine st_lstore (pc' := 58) (ls' := [.ref r0, .long l1, .retAddr 2, .long l3, .retAddr 2, .int x5, .long t0, .retAddr 2]) rfl rfl (Nat.le_of_ble_eq_true rfl) rfl ?_
  refine st_lload (pc' := 59) rfl rfl rfl rfl ?_
  refine st_lload (pc' := 61) rfl rfl rfl rfl ?_
  refine st_lcmp (pc' := 62) rfl rfl ?_
  exact st_if_ge (pc' := 65) rfl rfl kt kf
theorem B_Md_goesBy_65 {d : Nat} {h : PH} {Q : PQ} {r0 : Nat} {l1 : Int64} {l3 : Int64} {x5 : Int32} {l6 : Int64} {a0 : Nat} {n1 : Nat} (hs0 : h_sh h r0 = some (0, 12)) (hr1 : h_r h r0 2 = some a0) (hs2 : h_sh h a0 = some (1, n1)) (hb3 : vp_in x5 n1) (k : Q (some (.long l3)) (w_i (w_i h r0 42 x5) r0 41 ((h_i (w_i h r0 42 x5) r0 41) + (h_i (w_i h r0 42 x5) a0 x5.toNatClampNeg)))) : wpx d P_Md_goesBy 65 [.ref r0, .long l1, .retAddr 2, .long l3, .retAddr 2, .int x5, .long l6, .retAddr 2] [] h Q := by
  refine st_aload (pc' := 66) rfl rfl rfl ?_
  refine st_iload (pc' := 68) rfl rfl rfl ?_
  refine st_putf (h' := w_i h r0 42 x5) (Or.inl rfl) rfl hs0 rfl rfl rfl (pc' := 71) rfl ?_
  refine st_aload (pc' := 72) rfl rfl rfl ?_
  refine st_dup (pc' := 73) rfl rfl rfl ?_
  refine st_getfi (Or.inl rfl) rfl hs0 rfl (pc' := 76) rfl ?_
  refine st_aload (pc' := 77) rfl rfl rfl ?_
  refine st_getfr (x := some a0) (Or.inl rfl) rfl hs0 rfl hr1 (pc' := 80) rfl ?_
  refine st_iload (pc' := 82) rfl rfl rfl ?_
  refine st_iaload rfl hs2 hb3 (j := x5.toNatClampNeg) rfl (pc' := 83) rfl ?_
  refine st_iadd (pc' := 84) rfl rfl ?_
  refine st_putf (h' := w_i (w_i h r0 42 x5) r0 41 ((h_i (w_i h r0 42 x5) r0 41) + (h_i (w_i h r0 42 x5) a0 x5.toNatClampNeg))) (Or.inl rfl) rfl hs0 rfl rfl rfl (pc' := 87) rfl ?_
  refine st_lload (pc' := 88) rfl rfl rfl rfl ?_
  exact st_lreturn rfl k
theorem B_Md_goesBy_89 {d : Nat} {h : PH} {Q : PQ} {r0 : Nat} {l1 : Int64} {l3 : Int64} {x5 : Int32} {l6 : Int64}  (k : wpx d P_Md_goesBy 5 [.ref r0, .long l1, .retAddr 2, .long (l3 - l6), .retAddr 2, .int (x5 + 1), .long l6, .retAddr 2] [] h Q) : wpx d P_Md_goesBy 89 [.ref r0, .long l1, .retAddr 2, .long l3, .retAddr 2, .int x5, .long l6, .retAddr 2] [] h Q := by
  refine st_lload (pc' := 90) rfl rfl rfl rfl ?_
  refine st_lload (pc' := 92) rfl rfl rfl rfl ?_
  refine st_lsub (pc' := 93) rfl rfl ?_
  refine st_lstore (pc' := 94) (ls' := [.ref r0, .long l1, .retAddr 2, .long (l3 - l6), .retAddr 2, .int x5, .long l6, .retAddr 2]) rfl rfl (Nat.le_of_ble_eq_true rfl) rfl ?_
  refine st_iinc (pc' := 97) (v := 1) (ls' := [.ref r0, .long l1, .retAddr 2, .long (l3 - l6), .retAddr 2, .int (x5 + 1), .long l6, .retAddr 2]) rfl rfl rfl (by decide) rfl ?_
  exact st_goto rfl k
theorem B_Md_goesBy_100 {d : Nat} {h : PH} {Q : PQ} {r0 : Nat} {l1 : Int64} {l3 : Int64} {x5 : Int32} {v6 : Value} {v7 : Value} (hs0 : h_sh h r0 = some (0, 12)) (k : Q (some (.long l3)) (w_i h r0 42 (-1))) : wpx d P_Md_goesBy 100 [.ref r0, .long l1, .retAddr 2, .long l3, .retAddr 2, .int x5, v6, v7] [] h Q := by
  refine st_aload (pc' := 101) rfl rfl rfl ?_
  refine st_ipush (pc' := 102) (v := (-1)) rfl rfl (by decide) ?_
  refine st_putf (h' := w_i h r0 42 (-1)) (Or.inl rfl) rfl hs0 rfl rfl rfl (pc' := 105) rfl ?_
  refine st_lload (pc' := 106) rfl rfl rfl rfl ?_
  exact st_lreturn rfl k
theorem B_Md_reading_0 {d : Nat} {h : PH} {Q : PQ} {r0 : Nat} {x1 : Int32} {x2 : Int32} {v3 : Value} {v4 : Value} {v5 : Value} {a0 : Nat} (hs0 : h_sh h r0 = some (0, 12)) (hr1 : h_r h r0 23 = some a0) (k : wpm d 227 [.ref r0, .ref a0, .int (h_i (w_i h r0 0 0) r0 24)] (w_i h r0 0 0) (fun r h' => wpx d P_Md_reading 17 [.ref r0, .int x1, .int x2, v3, v4, v5] (r.toList ++ []) h' Q)) : wpx d P_Md_reading 0 [.ref r0, .int x1, .int x2, v3, v4, v5] [] h Q := by
  refine st_aload (pc' := 1) rfl rfl rfl ?_
  refine st_ipush (pc' := 2) (v := 0) rfl rfl (by decide) ?_
  refine st_putf (h' := w_i h r0 0 0) (Or.inl rfl) rfl hs0 rfl rfl rfl (pc' := 5) rfl ?_
  refine st_aload (pc' := 6) rfl rfl rfl ?_
  refine st_aload (pc' := 7) rfl rfl rfl ?_
  refine st_getfr (x := some a0) (Or.inl rfl) rfl hs0 rfl hr1 (pc' := 10) rfl ?_
  refine st_aload (pc' := 11) rfl rfl rfl ?_
  refine st_getfi (Or.inl rfl) rfl hs0 rfl (pc' := 14) rfl ?_
  exact st_call (pc' := 17) (as := [.ref r0, .ref a0, .int (h_i (w_i h r0 0 0) r0 24)]) (rest := []) rfl rfl (Nat.le_of_ble_eq_true rfl) rfl rfl (Nat.le_of_ble_eq_true rfl) (kd := 1) (o := 12) rfl rfl (beq_iff_eq.mpr hs0) k
theorem B_Md_reading_17 {d : Nat} {h : PH} {Q : PQ} {r0 : Nat} {x1 : Int32} {x2 : Int32} {v3 : Value} {v4 : Value} {v5 : Value}  (kt : x1 < 0 → wpx d P_Md_reading 37 [.ref r0, .int x1, .int x2, v3, v4, v5] [] h Q) (kf : ¬ (x1 < 0) → wpx d P_Md_reading 21 [.ref r0, .int x1, .int x2, v3, v4, v5] [] h Q) : wpx d P_Md_reading 17 [.ref r0, .int x1, .int x2, v3, v4, v5] [] h Q := by
  refine st_iload (pc' := 18) rfl rfl rfl ?_
  exact st_if_lt (pc' := 21) rfl rfl kt kf
theorem B_Md_reading_21 {d : Nat} {h : PH} {Q : PQ} {r0 : Nat} {x1 : Int32} {x2 : Int32} {v3 : Value} {v4 : Value} {v5 : Value} {a0 : Nat} {n1 : Nat} (hs0 : h_sh h r0 = some (0, 12)) (hr1 : h_r h r0 40 = some a0) (hs2 : h_sh h a0 = some (4, n1)) (hb3 : vp_in 0 n1) (kt : 0 ≤ (lg_cmp x1.toInt64 (h_l h a0 0)) → wpx d P_Md_reading 37 [.ref r0, .int x1, .int x2, v3, v4, v5] [] h Q) (kf : ¬ (0 ≤ (lg_cmp x1.toInt64 (h_l h a0 0))) → wpx d P_Md_reading 33 [.ref r0, .int x1, .int x2, v3, v4, v5] [] h Q) : wpx d P_Md_reading 21 [.ref r0, .int x1, .int x2, v3, v4, v5] [] h Q := by
  refine st_iload (pc' := 22) rfl rfl rfl ?_
  refine st_i2l (pc' := 23) rfl rfl ?_
  refine st_aload (pc' := 24) rfl rfl rfl ?_
  refine st_getfr (x := some a0) (Or.inl rfl) rfl hs0 rfl hr1 (pc' := 27) rfl ?_
  refine st_ipush (pc' := 28) (v := 0) rfl rfl (by decide) ?_
  refine st_laload rfl hs2 hb3 (j := 0) (by decide) (pc' := 29) rfl ?_
  refine st_lcmp (pc' := 30) rfl rfl ?_
  exact st_if_ge (pc' := 33) rfl rfl kt kf
theorem B_Md_reading_33 {d : Nat} {h : PH} {Q : PQ} {r0 : Nat} {x1 : Int32} {x2 : Int32} {v3 : Value} {v4 : Value} {v5 : Value}  (kt : 0 ≤ x2 → wpx d P_Md_reading 39 [.ref r0, .int x1, .int x2, v3, v4, v5] [] h Q) (kf : ¬ (0 ≤ x2) → wpx d P_Md_reading 37 [.ref r0, .int x1, .int x2, v3, v4, v5] [] h Q) : wpx d P_Md_reading 33 [.ref r0, .int x1, .int x2, v3, v4, v5] [] h Q := by
  refine st_iload (pc' := 34) rfl rfl rfl ?_
  exact st_if_ge (pc' := 37) rfl rfl kt kf
theorem B_Md_reading_37 {d : Nat} {h : PH} {Q : PQ} {r0 : Nat} {x1 : Int32} {x2 : Int32} {v3 : Value} {v4 : Value} {v5 : Value}  (k : Q (some (.int (-1))) h) : wpx d P_Md_reading 37 [.ref r0, .int x1, .int x2, v3, v4, v5] [] h Q := by
  refine st_ipush (pc' := 38) (v := (-1)) rfl rfl (by decide) ?_
  exact st_ireturn (ty := .int) rfl rfl rfl k
theorem B_Md_reading_39 {d : Nat} {h : PH} {Q : PQ} {r0 : Nat} {x1 : Int32} {x2 : Int32} {v3 : Value} {v4 : Value} {v5 : Value} (hs0 : h_sh h r0 = some (0, 12)) (k : wpx d P_Md_reading 50 [.ref r0, .int x1, .int x2, .long x1.toInt64, .retAddr 2, .int 0] [] (w_i h r0 41 0) Q) : wpx d P_Md_reading 39 [.ref r0, .int x1, .int x2, v3, v4, v5] [] h Q := by
  refine st_iload (pc' := 40) rfl rfl rfl ?_
  refine st_i2l (pc' := 41) rfl rfl ?_
  refine st_lstore (pc' := 42) (ls' := [.ref r0, .int x1, .int x2, .long x1.toInt64, .retAddr 2, v5]) rfl rfl (Nat.le_of_ble_eq_true rfl) rfl ?_
  refine st_aload (pc' := 43) rfl rfl rfl ?_
  refine st_ipush (pc' := 44) (v := 0) rfl rfl (by decide) ?_
  refine st_putf (h' := w_i h r0 41 0) (Or.inl rfl) rfl hs0 rfl rfl rfl (pc' := 47) rfl ?_
  refine st_ipush (pc' := 48) (v := 0) rfl rfl (by decide) ?_
  refine st_istore (pc' := 50) (ls' := [.ref r0, .int x1, .int x2, .long x1.toInt64, .retAddr 2, .int 0]) rfl rfl (Nat.le_of_ble_eq_true rfl) rfl ?_
  exact k
theorem B_Md_reading_50 {d : Nat} {h : PH} {Q : PQ} {r0 : Nat} {x1 : Int32} {x2 : Int32} {l3 : Int64} {x5 : Int32}  (kt : x2 < x5 → wpx d P_Md_reading 81 [.ref r0, .int x1, .int x2, .long l3, .retAddr 2, .int x5] [] h Q) (kf : ¬ (x2 < x5) → wpx d P_Md_reading 56 [.ref r0, .int x1, .int x2, .long l3, .retAddr 2, .int x5] [] h Q) : wpx d P_Md_reading 50 [.ref r0, .int x1, .int x2, .long l3, .retAddr 2, .int x5] [] h Q := by
  refine st_iload (pc' := 52) rfl rfl rfl ?_
  refine st_iload (pc' := 53) rfl rfl rfl ?_
  exact st_icmp_gt (pc' := 56) rfl rfl kt kf
theorem B_Md_reading_56 {d : Nat} {h : PH} {Q : PQ} {r0 : Nat} {x1 : Int32} {x2 : Int32} {l3 : Int64} {x5 : Int32} (hs0 : h_sh h r0 = some (0, 12)) (kt : ¬ ((h_i h r0 41) = (h_i h r0 24)) → wpx d P_Md_reading 69 [.ref r0, .int x1, .int x2, .long l3, .retAddr 2, .int x5] [] h Q) (kf : (h_i h r0 41) = (h_i h r0 24) → wpx d P_Md_reading 67 [.ref r0, .int x1, .int x2, .long l3, .retAddr 2, .int x5] [] h Q) : wpx d P_Md_reading 56 [.ref r0, .int x1, .int x2, .long l3, .retAddr 2, .int x5] [] h Q := by
  refine st_aload (pc' := 57) rfl rfl rfl ?_
  refine st_getfi (Or.inl rfl) rfl hs0 rfl (pc' := 60) rfl ?_
  refine st_aload (pc' := 61) rfl rfl rfl ?_
  refine st_getfi (Or.inl rfl) rfl hs0 rfl (pc' := 64) rfl ?_
  exact st_icmp_ne (pc' := 67) rfl rfl kt kf
theorem B_Md_reading_67 {d : Nat} {h : PH} {Q : PQ} {r0 : Nat} {x1 : Int32} {x2 : Int32} {l3 : Int64} {x5 : Int32}  (k : Q (some (.int (-1))) h) : wpx d P_Md_reading 67 [.ref r0, .int x1, .int x2, .long l3, .retAddr 2, .int x5] [] h Q := by
  refine st_ipush (pc' := 68) (v := (-1)) rfl rfl (by decide) ?_
  exact st_ireturn (ty := .int) rfl rfl rfl k
theorem B_Md_reading_69 {d : Nat} {h : PH} {Q : PQ} {r0 : Nat} {x1 : Int32} {x2 : Int32} {l3 : Int64} {x5 : Int32} (hs0 : h_sh h r0 = some (0, 12)) (k : wpm d 231 [.ref r0, .long l3] h (fun r h' => wpx d P_Md_reading 74 [.ref r0, .int x1, .int x2, .long l3, .retAddr 2, .int x5] (r.toList ++ []) h' Q)) : wpx d P_Md_reading 69 [.ref r0, .int x1, .int x2, .long l3, .retAddr 2, .int x5] [] h Q := by
  refine st_aload (pc' := 70) rfl rfl rfl ?_
  refine st_lload (pc' := 71) rfl rfl rfl rfl ?_
  exact st_call (pc' := 74) (as := [.ref r0, .long l3]) (rest := []) rfl rfl (Nat.le_of_ble_eq_true rfl) rfl rfl (Nat.le_of_ble_eq_true rfl) (kd := 1) (o := 12) rfl rfl (beq_iff_eq.mpr hs0) k
theorem B_Md_reading_74 {d : Nat} {h : PH} {Q : PQ} {r0 : Nat} {x1 : Int32} {x2 : Int32} {l3 : Int64} {x5 : Int32} {t0 : Int64}  (k : wpx d P_Md_reading 50 [.ref r0, .int x1, .int x2, .long t0, .retAddr 2, .int (x5 + 1)] [] h Q) : wpx d P_Md_reading 74 [.ref r0, .int x1, .int x2, .long l3, .retAddr 2, .int x5] [.long t0] h Q := by
  refine st_lstore (pc' := 75) (ls' := [.ref r0, .int x1, .int x2, .long t0, .retAddr 2, .int x5]) rfl rfl (Nat.le_of_ble_eq_true rfl) rfl ?_
  refine st_iinc (pc' := 78) (v := 1) (ls' := [.ref r0, .int x1, .int x2, .long t0, .retAddr 2, .int (x5 + 1)]) rfl rfl rfl (by decide) rfl ?_
  exact st_goto rfl k
theorem B_Md_reading_81 {d : Nat} {h : PH} {Q : PQ} {r0 : Nat} {x1 : Int32} {x2 : Int32} {l3 : Int64} {x5 : Int32} (hs0 : h_sh h r0 = some (0, 12)) (k : Q (some (.int (h_i h r0 42))) h) : wpx d P_Md_reading 81 [.ref r0, .int x1, .int x2, .long l3, .retAddr 2, .int x5] [] h Q := by
  refine st_aload (pc' := 82) rfl rfl rfl ?_
  refine st_getfi (Or.inl rfl) rfl hs0 rfl (pc' := 85) rfl ?_
  exact st_ireturn (ty := .int) rfl rfl rfl k
theorem B_Md_sounds_0 {d : Nat} {h : PH} {Q : PQ} {r0 : Nat} {v1 : Value} {v2 : Value} {v3 : Value} {v4 : Value} {a0 : Nat} (hs0 : h_sh h r0 = some (0, 12)) (hr1 : h_r h r0 23 = some a0) (k : wpm d 227 [.ref r0, .ref a0, .int (h_i (w_i h r0 0 0) r0 24)] (w_i h r0 0 0) (fun r h' => wpx d P_Md_sounds 17 [.ref r0, v1, v2, v3, v4] (r.toList ++ []) h' Q)) : wpx d P_Md_sounds 0 [.ref r0, v1, v2, v3, v4] [] h Q := by
  refine st_aload (pc' := 1) rfl rfl rfl ?_
  refine st_ipush (pc' := 2) (v := 0) rfl rfl (by decide) ?_
  refine st_putf (h' := w_i h r0 0 0) (Or.inl rfl) rfl hs0 rfl rfl rfl (pc' := 5) rfl ?_
  refine st_aload (pc' := 6) rfl rfl rfl ?_
  refine st_aload (pc' := 7) rfl rfl rfl ?_
  refine st_getfr (x := some a0) (Or.inl rfl) rfl hs0 rfl hr1 (pc' := 10) rfl ?_
  refine st_aload (pc' := 11) rfl rfl rfl ?_
  refine st_getfi (Or.inl rfl) rfl hs0 rfl (pc' := 14) rfl ?_
  exact st_call (pc' := 17) (as := [.ref r0, .ref a0, .int (h_i (w_i h r0 0 0) r0 24)]) (rest := []) rfl rfl (Nat.le_of_ble_eq_true rfl) rfl rfl (Nat.le_of_ble_eq_true rfl) (kd := 1) (o := 12) rfl rfl (beq_iff_eq.mpr hs0) k
theorem B_Md_sounds_17 {d : Nat} {h : PH} {Q : PQ} {r0 : Nat} {v1 : Value} {v2 : Value} {v3 : Value} {v4 : Value} {a0 : Nat} {n1 : Nat} (hs0 : h_sh h r0 = some (0, 12)) (hr1 : h_r h r0 40 = some a0) (hs2 : h_sh h a0 = some (4, n1)) (hb3 : vp_in 0 n1) (kt : 0 ≤ (lg_cmp (h_l h a0 0) (2 : Int64)) → wpx d P_Md_sounds 38 [.ref r0, v1, v2, v3, v4] [] h Q) (kf : ¬ (0 ≤ (lg_cmp (h_l h a0 0) (2 : Int64))) → wpx d P_Md_sounds 30 [.ref r0, v1, v2, v3, v4] [] h Q) : wpx d P_Md_sounds 17 [.ref r0, v1, v2, v3, v4] [] h Q := by
  refine st_aload (pc' := 18) rfl rfl rfl ?_
  refine st_getfr (x := some a0) (Or.inl rfl) rfl hs0 rfl hr1 (pc' := 21) rfl ?_
  refine st_ipush (pc' := 22) (v := 0) rfl rfl (by decide) ?_
  refine st_laload rfl hs2 hb3 (j := 0) (by decide) (pc' := 23) rfl ?_
  refine st_ldc2 (pc' := 26) (v := 2) rfl rfl (by decide) ?_
  refine st_lcmp (pc' := 27) rfl rfl ?_
  exact st_if_ge (pc' := 30) rfl rfl kt kf
theorem B_Md_sounds_30 {d : Nat} {h : PH} {Q : PQ} {r0 : Nat} {v1 : Value} {v2 : Value} {v3 : Value} {v4 : Value} {a0 : Nat} {n1 : Nat} (hs0 : h_sh h r0 = some (0, 12)) (hr1 : h_r h r0 40 = some a0) (hs2 : h_sh h a0 = some (4, n1)) (hb3 : vp_in 0 n1) (k : Q (some (.int ((h_l h a0 0).toInt32))) h) : wpx d P_Md_sounds 30 [.ref r0, v1, v2, v3, v4] [] h Q := by
  refine st_aload (pc' := 31) rfl rfl rfl ?_
  refine st_getfr (x := some a0) (Or.inl rfl) rfl hs0 rfl hr1 (pc' := 34) rfl ?_
  refine st_ipush (pc' := 35) (v := 0) rfl rfl (by decide) ?_
  refine st_laload rfl hs2 hb3 (j := 0) (by decide) (pc' := 36) rfl ?_
  refine st_l2i (pc' := 37) rfl rfl ?_
  exact st_ireturn (ty := .int) rfl rfl rfl k
theorem B_Md_sounds_38 {d : Nat} {h : PH} {Q : PQ} {r0 : Nat} {v1 : Value} {v2 : Value} {v3 : Value} {v4 : Value} (hs0 : h_sh h r0 = some (0, 12)) (k : wpx d P_Md_sounds 47 [.ref r0, .int 0, .long 0, .retAddr 2, v4] [] (w_i h r0 41 0) Q) : wpx d P_Md_sounds 38 [.ref r0, v1, v2, v3, v4] [] h Q := by
  refine st_ipush (pc' := 39) (v := 0) rfl rfl (by decide) ?_
  refine st_istore (pc' := 40) (ls' := [.ref r0, .int 0, v2, v3, v4]) rfl rfl (Nat.le_of_ble_eq_true rfl) rfl ?_
  refine st_lpush (pc' := 41) (v := 0) rfl rfl (by decide) ?_
  refine st_lstore (pc' := 42) (ls' := [.ref r0, .int 0, .long 0, .retAddr 2, v4]) rfl rfl (Nat.le_of_ble_eq_true rfl) rfl ?_
  refine st_aload (pc' := 43) rfl rfl rfl ?_
  refine st_ipush (pc' := 44) (v := 0) rfl rfl (by decide) ?_
  refine st_putf (h' := w_i h r0 41 0) (Or.inl rfl) rfl hs0 rfl rfl rfl (pc' := 47) rfl ?_
  exact k
theorem B_Md_sounds_47 {d : Nat} {h : PH} {Q : PQ} {r0 : Nat} {x1 : Int32} {l2 : Int64} {v4 : Value} (hs0 : h_sh h r0 = some (0, 12)) (kt : (h_i h r0 24) ≤ (h_i h r0 41) → wpx d P_Md_sounds 85 [.ref r0, .int x1, .long l2, .retAddr 2, v4] [] h Q) (kf : ¬ ((h_i h r0 24) ≤ (h_i h r0 41)) → wpx d P_Md_sounds 58 [.ref r0, .int x1, .long l2, .retAddr 2, v4] [] h Q) : wpx d P_Md_sounds 47 [.ref r0, .int x1, .long l2, .retAddr 2, v4] [] h Q := by
  refine st_aload (pc' := 48) rfl rfl rfl ?_
  refine st_getfi (Or.inl rfl) rfl hs0 rfl (pc' := 51) rfl ?_
  refine st_aload (pc' := 52) rfl rfl rfl ?_
  refine st_getfi (Or.inl rfl) rfl hs0 rfl (pc' := 55) rfl ?_
  exact st_icmp_ge (pc' := 58) rfl rfl kt kf
theorem B_Md_sounds_58 {d : Nat} {h : PH} {Q : PQ} {r0 : Nat} {x1 : Int32} {l2 : Int64} {v4 : Value} (hs0 : h_sh h r0 = some (0, 12)) (k : wpm d 231 [.ref r0, .long l2] h (fun r h' => wpx d P_Md_sounds 63 [.ref r0, .int x1, .long l2, .retAddr 2, v4] (r.toList ++ []) h' Q)) : wpx d P_Md_sounds 58 [.ref r0, .int x1, .long l2, .retAddr 2, v4] [] h Q := by
  refine st_aload (pc' := 59) rfl rfl rfl ?_
  refine st_lload (pc' := 60) rfl rfl rfl rfl ?_
  exact st_call (pc' := 63) (as := [.ref r0, .long l2]) (rest := []) rfl rfl (Nat.le_of_ble_eq_true rfl) rfl rfl (Nat.le_of_ble_eq_true rfl) (kd := 1) (o := 12) rfl rfl (beq_iff_eq.mpr hs0) k
theorem B_Md_sounds_63 {d : Nat} {h : PH} {Q : PQ} {r0 : Nat} {x1 : Int32} {l2 : Int64} {v4 : Value} {t0 : Int64} {a0 : Nat} {a1 : Nat} {n2 : Nat} {n3 : Nat} (hs0 : h_sh h r0 = some (0, 12)) (hr1 : h_r h r0 43 = some a0) (hr2 : h_r h r0 3 = some a1) (hs3 : h_sh h a1 = some (1, n2)) (hb4 : vp_in (h_i h r0 42) n2) (hs5 : h_sh h a0 = some (1, n3)) (hb6 : vp_in x1 n3) (k : wpx d P_Md_sounds 47 [.ref r0, .int (x1 + 1), .long t0, .retAddr 2, v4] [] (w_i h a0 x1.toNatClampNeg (h_i h a1 (h_i h r0 42).toNatClampNeg)) Q) : wpx d P_Md_sounds 63 [.ref r0, .int x1, .long l2, .retAddr 2, v4] [.long t0] h Q := by
  refine st_lstore (pc' := 64) (ls' := [.ref r0, .int x1, .long t0, .retAddr 2, v4]) rfl rfl (Nat.le_of_ble_eq_true rfl) rfl ?_
  refine st_aload (pc' := 65) rfl rfl rfl ?_
  refine st_getfr (x := some a0) (Or.inl rfl) rfl hs0 rfl hr1 (pc' := 68) rfl ?_
  refine st_iload (pc' := 69) rfl rfl rfl ?_
  refine st_aload (pc' := 70) rfl rfl rfl ?_
  refine st_getfr (x := some a1) (Or.inl rfl) rfl hs0 rfl hr2 (pc' := 73) rfl ?_
  refine st_aload (pc' := 74) rfl rfl rfl ?_
  refine st_getfi (Or.inl rfl) rfl hs0 rfl (pc' := 77) rfl ?_
  refine st_iaload rfl hs3 hb4 (j := (h_i h r0 42).toNatClampNeg) rfl (pc' := 78) rfl ?_
  refine st_iastore rfl hs5 hb6 (j := x1.toNatClampNeg) rfl (pc' := 79) rfl ?_
  refine st_iinc (pc' := 82) (v := 1) (ls' := [.ref r0, .int (x1 + 1), .long t0, .retAddr 2, v4]) rfl rfl rfl (by decide) rfl ?_
  exact st_goto rfl k
theorem B_Md_sounds_85 {d : Nat} {h : PH} {Q : PQ} {r0 : Nat} {x1 : Int32} {l2 : Int64} {v4 : Value} (hs0 : h_sh h r0 = some (0, 12)) (k : wpx d P_Md_sounds 95 [.ref r0, .int x1, .long 1, .retAddr 2, .int 0] [] (w_i h r0 41 0) Q) : wpx d P_Md_sounds 85 [.ref r0, .int x1, .long l2, .retAddr 2, v4] [] h Q := by
  refine st_ipush (pc' := 86) (v := 0) rfl rfl (by decide) ?_
  refine st_istore (pc' := 88) (ls' := [.ref r0, .int x1, .long l2, .retAddr 2, .int 0]) rfl rfl (Nat.le_of_ble_eq_true rfl) rfl ?_
  refine st_lpush (pc' := 89) (v := 1) rfl rfl (by decide) ?_
  refine st_lstore (pc' := 90) (ls' := [.ref r0, .int x1, .long 1, .retAddr 2, .int 0]) rfl rfl (Nat.le_of_ble_eq_true rfl) rfl ?_
  refine st_aload (pc' := 91) rfl rfl rfl ?_
  refine st_ipush (pc' := 92) (v := 0) rfl rfl (by decide) ?_
  refine st_putf (h' := w_i h r0 41 0) (Or.inl rfl) rfl hs0 rfl rfl rfl (pc' := 95) rfl ?_
  exact k
theorem B_Md_sounds_95 {d : Nat} {h : PH} {Q : PQ} {r0 : Nat} {x1 : Int32} {l2 : Int64} {x4 : Int32} (hs0 : h_sh h r0 = some (0, 12)) (kt : (h_i h r0 24) ≤ (h_i h r0 41) → wpx d P_Md_sounds 145 [.ref r0, .int x1, .long l2, .retAddr 2, .int x4] [] h Q) (kf : ¬ ((h_i h r0 24) ≤ (h_i h r0 41)) → wpx d P_Md_sounds 106 [.ref r0, .int x1, .long l2, .retAddr 2, .int x4] [] h Q) : wpx d P_Md_sounds 95 [.ref r0, .int x1, .long l2, .retAddr 2, .int x4] [] h Q := by
  refine st_aload (pc' := 96) rfl rfl rfl ?_
  refine st_getfi (Or.inl rfl) rfl hs0 rfl (pc' := 99) rfl ?_
  refine st_aload (pc' := 100) rfl rfl rfl ?_
  refine st_getfi (Or.inl rfl) rfl hs0 rfl (pc' := 103) rfl ?_
  exact st_icmp_ge (pc' := 106) rfl rfl kt kf
theorem B_Md_sounds_106 {d : Nat} {h : PH} {Q : PQ} {r0 : Nat} {x1 : Int32} {l2 : Int64} {x4 : Int32} (hs0 : h_sh h r0 = some (0, 12)) (k : wpm d 231 [.ref r0, .long l2] h (fun r h' => wpx d P_Md_sounds 111 [.ref r0, .int x1, .long l2, .retAddr 2, .int x4] (r.toList ++ []) h' Q)) : wpx d P_Md_sounds 106 [.ref r0, .int x1, .long l2, .retAddr 2, .int x4] [] h Q := by
  refine st_aload (pc' := 107) rfl rfl rfl ?_
  refine st_lload (pc' := 108) rfl rfl rfl rfl ?_
  exact st_call (pc' := 111) (as := [.ref r0, .long l2]) (rest := []) rfl rfl (Nat.le_of_ble_eq_true rfl) rfl rfl (Nat.le_of_ble_eq_true rfl) (kd := 1) (o := 12) rfl rfl (beq_iff_eq.mpr hs0) k
theorem B_Md_sounds_111 {d : Nat} {h : PH} {Q : PQ} {r0 : Nat} {x1 : Int32} {l2 : Int64} {x4 : Int32} {t0 : Int64}  (kt : x1 ≤ x4 → wpx d P_Md_sounds 137 [.ref r0, .int x1, .long t0, .retAddr 2, .int x4] [] h Q) (kf : ¬ (x1 ≤ x4) → wpx d P_Md_sounds 118 [.ref r0, .int x1, .long t0, .retAddr 2, .int x4] [] h Q) : wpx d P_Md_sounds 111 [.ref r0, .int x1, .long l2, .retAddr 2, .int x4] [.long t0] h Q := by
  refine st_lstore (pc' := 112) (ls' := [.ref r0, .int x1, .long t0, .retAddr 2, .int x4]) rfl rfl (Nat.le_of_ble_eq_true rfl) rfl ?_
  refine st_iload (pc' := 114) rfl rfl rfl ?_
  refine st_iload (pc' := 115) rfl rfl rfl ?_
  exact st_icmp_ge (pc' := 118) rfl rfl kt kf
theorem B_Md_sounds_118 {d : Nat} {h : PH} {Q : PQ} {r0 : Nat} {x1 : Int32} {l2 : Int64} {x4 : Int32} {a0 : Nat} {n1 : Nat} {a2 : Nat} {n3 : Nat} (hs0 : h_sh h r0 = some (0, 12)) (hr1 : h_r h r0 43 = some a0) (hs2 : h_sh h a0 = some (1, n1)) (hb3 : vp_in x4 n1) (hr4 : h_r h r0 3 = some a2) (hs5 : h_sh h a2 = some (1, n3)) (hb6 : vp_in (h_i h r0 42) n3) (kt : (h_i h a0 x4.toNatClampNeg) = (h_i h a2 (h_i h r0 42).toNatClampNeg) → wpx d P_Md_sounds 139 [.ref r0, .int x1, .long l2, .retAddr 2, .int x4] [] h Q) (kf : ¬ ((h_i h a0 x4.toNatClampNeg) = (h_i h a2 (h_i h r0 42).toNatClampNeg)) → wpx d P_Md_sounds 137 [.ref r0, .int x1, .long l2, .retAddr 2, .int x4] [] h Q) : wpx d P_Md_sounds 118 [.ref r0, .int x1, .long l2, .retAddr 2, .int x4] [] h Q := by
  refine st_aload (pc' := 119) rfl rfl rfl ?_
  refine st_getfr (x := some a0) (Or.inl rfl) rfl hs0 rfl hr1 (pc' := 122) rfl ?_
  refine st_iload (pc' := 124) rfl rfl rfl ?_
  refine st_iaload rfl hs2 hb3 (j := x4.toNatClampNeg) rfl (pc' := 125) rfl ?_
  refine st_aload (pc' := 126) rfl rfl rfl ?_
  refine st_getfr (x := some a2) (Or.inl rfl) rfl hs0 rfl hr4 (pc' := 129) rfl ?_
  refine st_aload (pc' := 130) rfl rfl rfl ?_
  refine st_getfi (Or.inl rfl) rfl hs0 rfl (pc' := 133) rfl ?_
  refine st_iaload rfl hs5 hb6 (j := (h_i h r0 42).toNatClampNeg) rfl (pc' := 134) rfl ?_
  exact st_icmp_eq (pc' := 137) rfl rfl kt kf
theorem B_Md_sounds_137 {d : Nat} {h : PH} {Q : PQ} {r0 : Nat} {x1 : Int32} {l2 : Int64} {x4 : Int32}  (k : Q (some (.int 2)) h) : wpx d P_Md_sounds 137 [.ref r0, .int x1, .long l2, .retAddr 2, .int x4] [] h Q := by
  refine st_ipush (pc' := 138) (v := 2) rfl rfl (by decide) ?_
  exact st_ireturn (ty := .int) rfl rfl rfl k
theorem B_Md_sounds_139 {d : Nat} {h : PH} {Q : PQ} {r0 : Nat} {x1 : Int32} {l2 : Int64} {x4 : Int32}  (k : wpx d P_Md_sounds 95 [.ref r0, .int x1, .long l2, .retAddr 2, .int (x4 + 1)] [] h Q) : wpx d P_Md_sounds 139 [.ref r0, .int x1, .long l2, .retAddr 2, .int x4] [] h Q := by
  refine st_iinc (pc' := 142) (v := 1) (ls' := [.ref r0, .int x1, .long l2, .retAddr 2, .int (x4 + 1)]) rfl rfl rfl (by decide) rfl ?_
  exact st_goto rfl k
theorem B_Md_sounds_145 {d : Nat} {h : PH} {Q : PQ} {r0 : Nat} {x1 : Int32} {l2 : Int64} {x4 : Int32}  (kt : ¬ (x4 = x1) → wpx d P_Md_sounds 155 [.ref r0, .int x1, .long l2, .retAddr 2, .int x4] [] h Q) (kf : x4 = x1 → wpx d P_Md_sounds 151 [.ref r0, .int x1, .long l2, .retAddr 2, .int x4] [] h Q) : wpx d P_Md_sounds 145 [.ref r0, .int x1, .long l2, .retAddr 2, .int x4] [] h Q := by
  refine st_iload (pc' := 147) rfl rfl rfl ?_
  refine st_iload (pc' := 148) rfl rfl rfl ?_
  exact st_icmp_ne (pc' := 151) rfl rfl kt kf
theorem B_Md_sounds_151 {d : Nat} {h : PH} {Q : PQ} {r0 : Nat} {x1 : Int32} {l2 : Int64} {x4 : Int32}  (k : wpx d P_Md_sounds 156 [.ref r0, .int x1, .long l2, .retAddr 2, .int x4] [.int 1] h Q) : wpx d P_Md_sounds 151 [.ref r0, .int x1, .long l2, .retAddr 2, .int x4] [] h Q := by
  refine st_ipush (pc' := 152) (v := 1) rfl rfl (by decide) ?_
  exact st_goto rfl k
theorem B_Md_sounds_155 {d : Nat} {h : PH} {Q : PQ} {r0 : Nat} {x1 : Int32} {l2 : Int64} {x4 : Int32}  (k : wpx d P_Md_sounds 156 [.ref r0, .int x1, .long l2, .retAddr 2, .int x4] [.int 2] h Q) : wpx d P_Md_sounds 155 [.ref r0, .int x1, .long l2, .retAddr 2, .int x4] [] h Q := by
  refine st_ipush (pc' := 156) (v := 2) rfl rfl (by decide) ?_
  exact k
theorem B_Md_sounds_156 {d : Nat} {h : PH} {Q : PQ} {r0 : Nat} {x1 : Int32} {l2 : Int64} {x4 : Int32} {s0 : Int32}  (k : Q (some (.int s0)) h) : wpx d P_Md_sounds 156 [.ref r0, .int x1, .long l2, .retAddr 2, .int x4] [.int s0] h Q := by
  exact st_ireturn (ty := .int) rfl rfl rfl k
theorem B_Md_takenAt_0 {d : Nat} {h : PH} {Q : PQ} {r0 : Nat} {x1 : Int32} {x2 : Int32} {v3 : Value} {v4 : Value} {v5 : Value}  (k : wpx d P_Md_takenAt 5 [.ref r0, .int x1, .int x2, .int (-1), .int 0, v5] [] h Q) : wpx d P_Md_takenAt 0 [.ref r0, .int x1, .int x2, v3, v4, v5] [] h Q := by
  refine st_ipush (pc' := 1) (v := (-1)) rfl rfl (by decide) ?_
  refine st_istore (pc' := 2) (ls' := [.ref r0, .int x1, .int x2, .int (-1), v4, v5]) rfl rfl (Nat.le_of_ble_eq_true rfl) rfl ?_
  refine st_ipush (pc' := 3) (v := 0) rfl rfl (by decide) ?_
  refine st_istore (pc' := 5) (ls' := [.ref r0, .int x1, .int x2, .int (-1), .int 0, v5]) rfl rfl (Nat.le_of_ble_eq_true rfl) rfl ?_
  exact k
theorem B_Md_takenAt_5 {d : Nat} {h : PH} {Q : PQ} {r0 : Nat} {x1 : Int32} {x2 : Int32} {x3 : Int32} {x4 : Int32} {v5 : Value} (hs0 : h_sh h r0 = some (0, 12)) (kt : (h_i h r0 4) ≤ x4 → wpx d P_Md_takenAt 102 [.ref r0, .int x1, .int x2, .int x3, .int x4, v5] [] h Q) (kf : ¬ ((h_i h r0 4) ≤ x4) → wpx d P_Md_takenAt 14 [.ref r0, .int x1, .int x2, .int x3, .int x4, v5] [] h Q) : wpx d P_Md_takenAt 5 [.ref r0, .int x1, .int x2, .int x3, .int x4, v5] [] h Q := by
  refine st_iload (pc' := 7) rfl rfl rfl ?_
  refine st_aload (pc' := 8) rfl rfl rfl ?_
  refine st_getfi (Or.inl rfl) rfl hs0 rfl (pc' := 11) rfl ?_
  exact st_icmp_ge (pc' := 14) rfl rfl kt kf
theorem B_Md_takenAt_14 {d : Nat} {h : PH} {Q : PQ} {r0 : Nat} {x1 : Int32} {x2 : Int32} {x3 : Int32} {x4 : Int32} {v5 : Value} {a0 : Nat} (hs0 : h_sh h r0 = some (0, 12)) (hr1 : h_r h r0 23 = some a0) (k : wpm d 226 [.ref r0, .int x4, .ref a0, .int (h_i h r0 24), .int x2] h (fun r h' => wpx d P_Md_takenAt 29 [.ref r0, .int x1, .int x2, .int x3, .int x4, v5] (r.toList ++ []) h' Q)) : wpx d P_Md_takenAt 14 [.ref r0, .int x1, .int x2, .int x3, .int x4, v5] [] h Q := by
  refine st_aload (pc' := 15) rfl rfl rfl ?_
  refine st_iload (pc' := 17) rfl rfl rfl ?_
  refine st_aload (pc' := 18) rfl rfl rfl ?_
  refine st_getfr (x := some a0) (Or.inl rfl) rfl hs0 rfl hr1 (pc' := 21) rfl ?_
  refine st_aload (pc' := 22) rfl rfl rfl ?_
  refine st_getfi (Or.inl rfl) rfl hs0 rfl (pc' := 25) rfl ?_
  refine st_iload (pc' := 26) rfl rfl rfl ?_
  exact st_call (pc' := 29) (as := [.ref r0, .int x4, .ref a0, .int (h_i h r0 24), .int x2]) (rest := []) rfl rfl (Nat.le_of_ble_eq_true rfl) rfl rfl (Nat.le_of_ble_eq_true rfl) (kd := 1) (o := 12) rfl rfl (beq_iff_eq.mpr hs0) k
theorem B_Md_takenAt_29 {d : Nat} {h : PH} {Q : PQ} {r0 : Nat} {x1 : Int32} {x2 : Int32} {x3 : Int32} {x4 : Int32} {v5 : Value} {s0 : Int32}  (kt : s0 = 0 → wpx d P_Md_takenAt 96 [.ref r0, .int x1, .int x2, .int x3, .int x4, v5] [] h Q) (kf : ¬ (s0 = 0) → wpx d P_Md_takenAt 32 [.ref r0, .int x1, .int x2, .int x3, .int x4, v5] [] h Q) : wpx d P_Md_takenAt 29 [.ref r0, .int x1, .int x2, .int x3, .int x4, v5] [.int s0] h Q := by
  exact st_if_eq (pc' := 32) rfl rfl kt kf
theorem B_Md_takenAt_32 {d : Nat} {h : PH} {Q : PQ} {r0 : Nat} {x1 : Int32} {x2 : Int32} {x3 : Int32} {x4 : Int32} {v5 : Value}  (kt : x3 < 0 → wpx d P_Md_takenAt 77 [.ref r0, .int x1, .int x2, .int x3, .int x4, v5] [] h Q) (kf : ¬ (x3 < 0) → wpx d P_Md_takenAt 36 [.ref r0, .int x1, .int x2, .int x3, .int x4, v5] [] h Q) : wpx d P_Md_takenAt 32 [.ref r0, .int x1, .int x2, .int x3, .int x4, v5] [] h Q := by
  refine st_iload (pc' := 33) rfl rfl rfl ?_
  exact st_if_lt (pc' := 36) rfl rfl kt kf
theorem B_Md_takenAt_36 {d : Nat} {h : PH} {Q : PQ} {r0 : Nat} {x1 : Int32} {x2 : Int32} {x3 : Int32} {x4 : Int32} {v5 : Value}  (kt : ¬ (x1 = 0) → wpx d P_Md_takenAt 56 [.ref r0, .int x1, .int x2, .int x3, .int x4, v5] [] h Q) (kf : x1 = 0 → wpx d P_Md_takenAt 40 [.ref r0, .int x1, .int x2, .int x3, .int x4, v5] [] h Q) : wpx d P_Md_takenAt 36 [.ref r0, .int x1, .int x2, .int x3, .int x4, v5] [] h Q := by
  refine st_iload (pc' := 37) rfl rfl rfl ?_
  exact st_if_ne (pc' := 40) rfl rfl kt kf
theorem B_Md_takenAt_40 {d : Nat} {h : PH} {Q : PQ} {r0 : Nat} {x1 : Int32} {x2 : Int32} {x3 : Int32} {x4 : Int32} {v5 : Value} {a0 : Nat} {n1 : Nat} (hs0 : h_sh h r0 = some (0, 12)) (hr1 : h_r h r0 2 = some a0) (hs2 : h_sh h a0 = some (1, n1)) (hb3 : vp_in x4 n1) (hb4 : vp_in x3 n1) (kt : (h_i h a0 x3.toNatClampNeg) < (h_i h a0 x4.toNatClampNeg) → wpx d P_Md_takenAt 77 [.ref r0, .int x1, .int x2, .int x3, .int x4, v5] [] h Q) (kf : ¬ ((h_i h a0 x3.toNatClampNeg) < (h_i h a0 x4.toNatClampNeg)) → wpx d P_Md_takenAt 56 [.ref r0, .int x1, .int x2, .int x3, .int x4, v5] [] h Q) : wpx d P_Md_takenAt 40 [.ref r0, .int x1, .int x2, .int x3, .int x4, v5] [] h Q := by
  refine st_aload (pc' := 41) rfl rfl rfl ?_
  refine st_getfr (x := some a0) (Or.inl rfl) rfl hs0 rfl hr1 (pc' := 44) rfl ?_
  refine st_iload (pc' := 46) rfl rfl rfl ?_
  refine st_iaload rfl hs2 hb3 (j := x4.toNatClampNeg) rfl (pc' := 47) rfl ?_
  refine st_aload (pc' := 48) rfl rfl rfl ?_
  refine st_getfr (x := some a0) (Or.inl rfl) rfl hs0 rfl hr1 (pc' := 51) rfl ?_
  refine st_iload (pc' := 52) rfl rfl rfl ?_
  refine st_iaload rfl hs2 hb4 (j := x3.toNatClampNeg) rfl (pc' := 53) rfl ?_
  exact st_icmp_gt (pc' := 56) rfl rfl kt kf
theorem B_Md_takenAt_56 {d : Nat} {h : PH} {Q : PQ} {r0 : Nat} {x1 : Int32} {x2 : Int32} {x3 : Int32} {x4 : Int32} {v5 : Value}  (kt : ¬ (x1 = (1 : Int32)) → wpx d P_Md_takenAt 81 [.ref r0, .int x1, .int x2, .int x3, .int x4, v5] [] h Q) (kf : x1 = (1 : Int32) → wpx d P_Md_takenAt 61 [.ref r0, .int x1, .int x2, .int x3, .int x4, v5] [] h Q) : wpx d P_Md_takenAt 56 [.ref r0, .int x1, .int x2, .int x3, .int x4, v5] [] h Q := by
  refine st_iload (pc' := 57) rfl rfl rfl ?_
  refine st_ipush (pc' := 58) (v := 1) rfl rfl (by decide) ?_
  exact st_icmp_ne (pc' := 61) rfl rfl kt kf
theorem B_Md_takenAt_61 {d : Nat} {h : PH} {Q : PQ} {r0 : Nat} {x1 : Int32} {x2 : Int32} {x3 : Int32} {x4 : Int32} {v5 : Value} {a0 : Nat} {n1 : Nat} (hs0 : h_sh h r0 = some (0, 12)) (hr1 : h_r h r0 2 = some a0) (hs2 : h_sh h a0 = some (1, n1)) (hb3 : vp_in x4 n1) (hb4 : vp_in x3 n1) (kt : (h_i h a0 x3.toNatClampNeg) ≤ (h_i h a0 x4.toNatClampNeg) → wpx d P_Md_takenAt 81 [.ref r0, .int x1, .int x2, .int x3, .int x4, v5] [] h Q) (kf : ¬ ((h_i h a0 x3.toNatClampNeg) ≤ (h_i h a0 x4.toNatClampNeg)) → wpx d P_Md_takenAt 77 [.ref r0, .int x1, .int x2, .int x3, .int x4, v5] [] h Q) : wpx d P_Md_takenAt 61 [.ref r0, .int x1, .int x2, .int x3, .int x4, v5] [] h Q := by
  refine st_aload (pc' := 62) rfl rfl rfl ?_
  refine st_getfr (x := some a0) (Or.inl rfl) rfl hs0 rfl hr1 (pc' := 65) rfl ?_
  refine st_iload (pc' := 67) rfl rfl rfl ?_
  refine st_iaload rfl hs2 hb3 (j := x4.toNatClampNeg) rfl (pc' := 68) rfl ?_
  refine st_aload (pc' := 69) rfl rfl rfl ?_
  refine st_getfr (x := some a0) (Or.inl rfl) rfl hs0 rfl hr1 (pc' := 72) rfl ?_
  refine st_iload (pc' := 73) rfl rfl rfl ?_
  refine st_iaload rfl hs2 hb4 (j := x3.toNatClampNeg) rfl (pc' := 74) rfl ?_
  exact st_icmp_ge (pc' := 77) rfl rfl kt kf
theorem B_Md_takenAt_77 {d : Nat} {h : PH} {Q : PQ} {r0 : Nat} {x1 : Int32} {x2 : Int32} {x3 : Int32} {x4 : Int32} {v5 : Value}  (k : wpx d P_Md_takenAt 82 [.ref r0, .int x1, .int x2, .int x3, .int x4, v5] [.int 1] h Q) : wpx d P_Md_takenAt 77 [.ref r0, .int x1, .int x2, .int x3, .int x4, v5] [] h Q := by
  refine st_ipush (pc' := 78) (v := 1) rfl rfl (by decide) ?_
  exact st_goto rfl k
theorem B_Md_takenAt_81 {d : Nat} {h : PH} {Q : PQ} {r0 : Nat} {x1 : Int32} {x2 : Int32} {x3 : Int32} {x4 : Int32} {v5 : Value}  (k : wpx d P_Md_takenAt 82 [.ref r0, .int x1, .int x2, .int x3, .int x4, v5] [.int 0] h Q) : wpx d P_Md_takenAt 81 [.ref r0, .int x1, .int x2, .int x3, .int x4, v5] [] h Q := by
  refine st_ipush (pc' := 82) (v := 0) rfl rfl (by decide) ?_
  exact k
theorem B_Md_takenAt_82 {d : Nat} {h : PH} {Q : PQ} {r0 : Nat} {x1 : Int32} {x2 : Int32} {x3 : Int32} {x4 : Int32} {v5 : Value} {s0 : Int32}  (kt : s0 = 0 → wpx d P_Md_takenAt 94 [.ref r0, .int x1, .int x2, .int x3, .int x4, .int s0] [] h Q) (kf : ¬ (s0 = 0) → wpx d P_Md_takenAt 89 [.ref r0, .int x1, .int x2, .int x3, .int x4, .int s0] [] h Q) : wpx d P_Md_takenAt 82 [.ref r0, .int x1, .int x2, .int x3, .int x4, v5] [.int s0] h Q := by
  refine st_istore (pc' := 84) (ls' := [.ref r0, .int x1, .int x2, .int x3, .int x4, .int s0]) rfl rfl (Nat.le_of_ble_eq_true rfl) rfl ?_
  refine st_iload (pc' := 86) rfl rfl rfl ?_
  exact st_if_eq (pc' := 89) rfl rfl kt kf
theorem B_Md_takenAt_89 {d : Nat} {h : PH} {Q : PQ} {r0 : Nat} {x1 : Int32} {x2 : Int32} {x3 : Int32} {x4 : Int32} {x5 : Int32}  (k : wpx d P_Md_takenAt 95 [.ref r0, .int x1, .int x2, .int x3, .int x4, .int x5] [.int x4] h Q) : wpx d P_Md_takenAt 89 [.ref r0, .int x1, .int x2, .int x3, .int x4, .int x5] [] h Q := by
  refine st_iload (pc' := 91) rfl rfl rfl ?_
  exact st_goto rfl k
theorem B_Md_takenAt_94 {d : Nat} {h : PH} {Q : PQ} {r0 : Nat} {x1 : Int32} {x2 : Int32} {x3 : Int32} {x4 : Int32} {x5 : Int32}  (k : wpx d P_Md_takenAt 95 [.ref r0, .int x1, .int x2, .int x3, .int x4, .int x5] [.int x3] h Q) : wpx d P_Md_takenAt 94 [.ref r0, .int x1, .int x2, .int x3, .int x4, .int x5] [] h Q := by
  refine st_iload (pc' := 95) rfl rfl rfl ?_
  exact k
theorem B_Md_takenAt_95 {d : Nat} {h : PH} {Q : PQ} {r0 : Nat} {x1 : Int32} {x2 : Int32} {x3 : Int32} {x4 : Int32} {x5 : Int32} {s0 : Int32}  (k : wpx d P_Md_takenAt 96 [.ref r0, .int x1, .int x2, .int s0, .int x4, .int x5] [] h Q) : wpx d P_Md_takenAt 95 [.ref r0, .int x1, .int x2, .int x3, .int x4, .int x5] [.int s0] h Q := by
  refine st_istore (pc' := 96) (ls' := [.ref r0, .int x1, .int x2, .int s0, .int x4, .int x5]) rfl rfl (Nat.le_of_ble_eq_true rfl) rfl ?_
  exact k
theorem B_Md_takenAt_96 {d : Nat} {h : PH} {Q : PQ} {r0 : Nat} {x1 : Int32} {x2 : Int32} {x3 : Int32} {x4 : Int32} {v5 : Value}  (k : wpx d P_Md_takenAt 5 [.ref r0, .int x1, .int x2, .int x3, .int (x4 + 1), v5] [] h Q) : wpx d P_Md_takenAt 96 [.ref r0, .int x1, .int x2, .int x3, .int x4, v5] [] h Q := by
  refine st_iinc (pc' := 99) (v := 1) (ls' := [.ref r0, .int x1, .int x2, .int x3, .int (x4 + 1), v5]) rfl rfl rfl (by decide) rfl ?_
  exact st_goto rfl k
theorem B_Md_takenAt_102 {d : Nat} {h : PH} {Q : PQ} {r0 : Nat} {x1 : Int32} {x2 : Int32} {x3 : Int32} {x4 : Int32} {v5 : Value}  (k : Q (some (.int x3)) h) : wpx d P_Md_takenAt 102 [.ref r0, .int x1, .int x2, .int x3, .int x4, v5] [] h Q := by
  refine st_iload (pc' := 103) rfl rfl rfl ?_
  exact st_ireturn (ty := .int) rfl rfl rfl k
theorem B_Md_reads_0 {d : Nat} {h : PH} {Q : PQ} {r0 : Nat} {x1 : Int32} {v2 : Value} {v3 : Value} {v4 : Value} (hs0 : h_sh h r0 = some (0, 12)) (k : wpm d 170 [.int x1, .int 0, .int 2] (w_i h r0 0 0) (fun r h' => wpx d P_Md_reads 11 [.ref r0, .int x1, v2, v3, v4] (r.toList ++ []) h' Q)) : wpx d P_Md_reads 0 [.ref r0, .int x1, v2, v3, v4] [] h Q := by
  refine st_aload (pc' := 1) rfl rfl rfl ?_
  refine st_ipush (pc' := 2) (v := 0) rfl rfl (by decide) ?_
  refine st_putf (h' := w_i h r0 0 0) (Or.inl rfl) rfl hs0 rfl rfl rfl (pc' := 5) rfl ?_
  refine st_iload (pc' := 6) rfl rfl rfl ?_
  refine st_ipush (pc' := 7) (v := 0) rfl rfl (by decide) ?_
  refine st_ipush (pc' := 8) (v := 2) rfl rfl (by decide) ?_
  exact st_call (pc' := 11) (as := [.int x1, .int 0, .int 2]) (rest := []) rfl rfl (Nat.le_of_ble_eq_true rfl) rfl rfl (Nat.le_of_ble_eq_true rfl) (kd := 0) (o := 12) rfl rfl rfl k
theorem B_Md_reads_11 {d : Nat} {h : PH} {Q : PQ} {r0 : Nat} {x1 : Int32} {v2 : Value} {v3 : Value} {v4 : Value} {s0 : Int32}  (kt : ¬ (s0 = 0) → wpx d P_Md_reads 17 [.ref r0, .int x1, v2, v3, v4] [] h Q) (kf : s0 = 0 → wpx d P_Md_reads 14 [.ref r0, .int x1, v2, v3, v4] [] h Q) : wpx d P_Md_reads 11 [.ref r0, .int x1, v2, v3, v4] [.int s0] h Q := by
  exact st_if_ne (pc' := 14) rfl rfl kt kf
theorem B_Md_reads_14 {d : Nat} {h : PH} {Q : PQ} {r0 : Nat} {x1 : Int32} {v2 : Value} {v3 : Value} {v4 : Value}  (k : Q (some (.int (-2))) h) : wpx d P_Md_reads 14 [.ref r0, .int x1, v2, v3, v4] [] h Q := by
  refine st_ipush (pc' := 16) (v := (-2)) rfl rfl (by decide) ?_
  exact st_ireturn (ty := .int) rfl rfl rfl k
theorem B_Md_reads_17 {d : Nat} {h : PH} {Q : PQ} {r0 : Nat} {x1 : Int32} {v2 : Value} {v3 : Value} {v4 : Value}  (k : wpx d P_Md_reads 21 [.ref r0, .int x1, .int 0, .int 0, v4] [] h Q) : wpx d P_Md_reads 17 [.ref r0, .int x1, v2, v3, v4] [] h Q := by
  refine st_ipush (pc' := 18) (v := 0) rfl rfl (by decide) ?_
  refine st_istore (pc' := 19) (ls' := [.ref r0, .int x1, .int 0, v3, v4]) rfl rfl (Nat.le_of_ble_eq_true rfl) rfl ?_
  refine st_ipush (pc' := 20) (v := 0) rfl rfl (by decide) ?_
  refine st_istore (pc' := 21) (ls' := [.ref r0, .int x1, .int 0, .int 0, v4]) rfl rfl (Nat.le_of_ble_eq_true rfl) rfl ?_
  exact k
theorem B_Md_reads_21 {d : Nat} {h : PH} {Q : PQ} {r0 : Nat} {x1 : Int32} {x2 : Int32} {x3 : Int32} {v4 : Value} (hs0 : h_sh h r0 = some (0, 12)) (kt : (h_i h r0 24) ≤ x3 → wpx d P_Md_reads 60 [.ref r0, .int x1, .int x2, .int x3, v4] [] h Q) (kf : ¬ ((h_i h r0 24) ≤ x3) → wpx d P_Md_reads 29 [.ref r0, .int x1, .int x2, .int x3, v4] [] h Q) : wpx d P_Md_reads 21 [.ref r0, .int x1, .int x2, .int x3, v4] [] h Q := by
  refine st_iload (pc' := 22) rfl rfl rfl ?_
  refine st_aload (pc' := 23) rfl rfl rfl ?_
  refine st_getfi (Or.inl rfl) rfl hs0 rfl (pc' := 26) rfl ?_
  exact st_icmp_ge (pc' := 29) rfl rfl kt kf
theorem B_Md_reads_29 {d : Nat} {h : PH} {Q : PQ} {r0 : Nat} {x1 : Int32} {x2 : Int32} {x3 : Int32} {v4 : Value} (hs0 : h_sh h r0 = some (0, 12)) (k : wpm d 234 [.ref r0, .int x1, .int x3] h (fun r h' => wpx d P_Md_reads 35 [.ref r0, .int x1, .int x2, .int x3, v4] (r.toList ++ []) h' Q)) : wpx d P_Md_reads 29 [.ref r0, .int x1, .int x2, .int x3, v4] [] h Q := by
  refine st_aload (pc' := 30) rfl rfl rfl ?_
  refine st_iload (pc' := 31) rfl rfl rfl ?_
  refine st_iload (pc' := 32) rfl rfl rfl ?_
  exact st_call (pc' := 35) (as := [.ref r0, .int x1, .int x3]) (rest := []) rfl rfl (Nat.le_of_ble_eq_true rfl) rfl rfl (Nat.le_of_ble_eq_true rfl) (kd := 1) (o := 12) rfl rfl (beq_iff_eq.mpr hs0) k
theorem B_Md_reads_35 {d : Nat} {h : PH} {Q : PQ} {r0 : Nat} {x1 : Int32} {x2 : Int32} {x3 : Int32} {v4 : Value} {s0 : Int32}  (kt : 0 ≤ s0 → wpx d P_Md_reads 44 [.ref r0, .int x1, .int x2, .int x3, .int s0] [] h Q) (kf : ¬ (0 ≤ s0) → wpx d P_Md_reads 42 [.ref r0, .int x1, .int x2, .int x3, .int s0] [] h Q) : wpx d P_Md_reads 35 [.ref r0, .int x1, .int x2, .int x3, v4] [.int s0] h Q := by
  refine st_istore (pc' := 37) (ls' := [.ref r0, .int x1, .int x2, .int x3, .int s0]) rfl rfl (Nat.le_of_ble_eq_true rfl) rfl ?_
  refine st_iload (pc' := 39) rfl rfl rfl ?_
  exact st_if_ge (pc' := 42) rfl rfl kt kf
theorem B_Md_reads_42 {d : Nat} {h : PH} {Q : PQ} {r0 : Nat} {x1 : Int32} {x2 : Int32} {x3 : Int32} {x4 : Int32}  (k : Q (some (.int (-1))) h) : wpx d P_Md_reads 42 [.ref r0, .int x1, .int x2, .int x3, .int x4] [] h Q := by
  refine st_ipush (pc' := 43) (v := (-1)) rfl rfl (by decide) ?_
  exact st_ireturn (ty := .int) rfl rfl rfl k
theorem B_Md_reads_44 {d : Nat} {h : PH} {Q : PQ} {r0 : Nat} {x1 : Int32} {x2 : Int32} {x3 : Int32} {x4 : Int32} {a0 : Nat} {n1 : Nat} (hs0 : h_sh h r0 = some (0, 12)) (hr1 : h_r h r0 2 = some a0) (hs2 : h_sh h a0 = some (1, n1)) (hb3 : vp_in x4 n1) (k : wpx d P_Md_reads 21 [.ref r0, .int x1, .int (x2 + 1), .int (x3 + (h_i h a0 x4.toNatClampNeg)), .int x4] [] h Q) : wpx d P_Md_reads 44 [.ref r0, .int x1, .int x2, .int x3, .int x4] [] h Q := by
  refine st_iload (pc' := 45) rfl rfl rfl ?_
  refine st_aload (pc' := 46) rfl rfl rfl ?_
  refine st_getfr (x := some a0) (Or.inl rfl) rfl hs0 rfl hr1 (pc' := 49) rfl ?_
  refine st_iload (pc' := 51) rfl rfl rfl ?_
  refine st_iaload rfl hs2 hb3 (j := x4.toNatClampNeg) rfl (pc' := 52) rfl ?_
  refine st_iadd (pc' := 53) rfl rfl ?_
  refine st_istore (pc' := 54) (ls' := [.ref r0, .int x1, .int x2, .int (x3 + (h_i h a0 x4.toNatClampNeg)), .int x4]) rfl rfl (Nat.le_of_ble_eq_true rfl) rfl ?_
  refine st_iinc (pc' := 57) (v := 1) (ls' := [.ref r0, .int x1, .int (x2 + 1), .int (x3 + (h_i h a0 x4.toNatClampNeg)), .int x4]) rfl rfl rfl (by decide) rfl ?_
  exact st_goto rfl k
theorem B_Md_reads_60 {d : Nat} {h : PH} {Q : PQ} {r0 : Nat} {x1 : Int32} {x2 : Int32} {x3 : Int32} {v4 : Value}  (k : Q (some (.int x2)) h) : wpx d P_Md_reads 60 [.ref r0, .int x1, .int x2, .int x3, v4] [] h Q := by
  refine st_iload (pc' := 61) rfl rfl rfl ?_
  exact st_ireturn (ty := .int) rfl rfl rfl k
theorem B_Md_took_0 {d : Nat} {h : PH} {Q : PQ} {r0 : Nat} {x1 : Int32} {x2 : Int32} {v3 : Value} {v4 : Value} {v5 : Value} (hs0 : h_sh h r0 = some (0, 12)) (k : wpm d 170 [.int x1, .int 0, .int 2] (w_i h r0 0 0) (fun r h' => wpx d P_Md_took 11 [.ref r0, .int x1, .int x2, v3, v4, v5] (r.toList ++ []) h' Q)) : wpx d P_Md_took 0 [.ref r0, .int x1, .int x2, v3, v4, v5] [] h Q := by
  refine st_aload (pc' := 1) rfl rfl rfl ?_
  refine st_ipush (pc' := 2) (v := 0) rfl rfl (by decide) ?_
  refine st_putf (h' := w_i h r0 0 0) (Or.inl rfl) rfl hs0 rfl rfl rfl (pc' := 5) rfl ?_
  refine st_iload (pc' := 6) rfl rfl rfl ?_
  refine st_ipush (pc' := 7) (v := 0) rfl rfl (by decide) ?_
  refine st_ipush (pc' := 8) (v := 2) rfl rfl (by decide) ?_
  exact st_call (pc' := 11) (as := [.int x1, .int 0, .int 2]) (rest := []) rfl rfl (Nat.le_of_ble_eq_true rfl) rfl rfl (Nat.le_of_ble_eq_true rfl) (kd := 0) (o := 12) rfl rfl rfl k
theorem B_Md_took_11 {d : Nat} {h : PH} {Q : PQ} {r0 : Nat} {x1 : Int32} {x2 : Int32} {v3 : Value} {v4 : Value} {v5 : Value} {s0 : Int32}  (kt : s0 = 0 → wpx d P_Md_took 18 [.ref r0, .int x1, .int x2, v3, v4, v5] [] h Q) (kf : ¬ (s0 = 0) → wpx d P_Md_took 14 [.ref r0, .int x1, .int x2, v3, v4, v5] [] h Q) : wpx d P_Md_took 11 [.ref r0, .int x1, .int x2, v3, v4, v5] [.int s0] h Q := by
  exact st_if_eq (pc' := 14) rfl rfl kt kf
theorem B_Md_took_14 {d : Nat} {h : PH} {Q : PQ} {r0 : Nat} {x1 : Int32} {x2 : Int32} {v3 : Value} {v4 : Value} {v5 : Value}  (kt : 0 ≤ x2 → wpx d P_Md_took 20 [.ref r0, .int x1, .int x2, v3, v4, v5] [] h Q) (kf : ¬ (0 ≤ x2) → wpx d P_Md_took 18 [.ref r0, .int x1, .int x2, v3, v4, v5] [] h Q) : wpx d P_Md_took 14 [.ref r0, .int x1, .int x2, v3, v4, v5] [] h Q := by
  refine st_iload (pc' := 15) rfl rfl rfl ?_
  exact st_if_ge (pc' := 18) rfl rfl kt kf
theorem B_Md_took_18 {d : Nat} {h : PH} {Q : PQ} {r0 : Nat} {x1 : Int32} {x2 : Int32} {v3 : Value} {v4 : Value} {v5 : Value}  (k : Q (some (.int (-1))) h) : wpx d P_Md_took 18 [.ref r0, .int x1, .int x2, v3, v4, v5] [] h Q := by
  refine st_ipush (pc' := 19) (v := (-1)) rfl rfl (by decide) ?_
  exact st_ireturn (ty := .int) rfl rfl rfl k
theorem B_Md_took_20 {d : Nat} {h : PH} {Q : PQ} {r0 : Nat} {x1 : Int32} {x2 : Int32} {v3 : Value} {v4 : Value} {v5 : Value}  (k : wpx d P_Md_took 25 [.ref r0, .int x1, .int x2, .int 0, .int 0, v5] [] h Q) : wpx d P_Md_took 20 [.ref r0, .int x1, .int x2, v3, v4, v5] [] h Q := by
  refine st_ipush (pc' := 21) (v := 0) rfl rfl (by decide) ?_
  refine st_istore (pc' := 22) (ls' := [.ref r0, .int x1, .int x2, .int 0, v4, v5]) rfl rfl (Nat.le_of_ble_eq_true rfl) rfl ?_
  refine st_ipush (pc' := 23) (v := 0) rfl rfl (by decide) ?_
  refine st_istore (pc' := 25) (ls' := [.ref r0, .int x1, .int x2, .int 0, .int 0, v5]) rfl rfl (Nat.le_of_ble_eq_true rfl) rfl ?_
  exact k
theorem B_Md_took_25 {d : Nat} {h : PH} {Q : PQ} {r0 : Nat} {x1 : Int32} {x2 : Int32} {x3 : Int32} {x4 : Int32} {v5 : Value} (hs0 : h_sh h r0 = some (0, 12)) (kt : (h_i h r0 24) ≤ x3 → wpx d P_Md_took 71 [.ref r0, .int x1, .int x2, .int x3, .int x4, v5] [] h Q) (kf : ¬ ((h_i h r0 24) ≤ x3) → wpx d P_Md_took 33 [.ref r0, .int x1, .int x2, .int x3, .int x4, v5] [] h Q) : wpx d P_Md_took 25 [.ref r0, .int x1, .int x2, .int x3, .int x4, v5] [] h Q := by
  refine st_iload (pc' := 26) rfl rfl rfl ?_
  refine st_aload (pc' := 27) rfl rfl rfl ?_
  refine st_getfi (Or.inl rfl) rfl hs0 rfl (pc' := 30) rfl ?_
  exact st_icmp_ge (pc' := 33) rfl rfl kt kf
theorem B_Md_took_33 {d : Nat} {h : PH} {Q : PQ} {r0 : Nat} {x1 : Int32} {x2 : Int32} {x3 : Int32} {x4 : Int32} {v5 : Value} (hs0 : h_sh h r0 = some (0, 12)) (k : wpm d 234 [.ref r0, .int x1, .int x3] h (fun r h' => wpx d P_Md_took 39 [.ref r0, .int x1, .int x2, .int x3, .int x4, v5] (r.toList ++ []) h' Q)) : wpx d P_Md_took 33 [.ref r0, .int x1, .int x2, .int x3, .int x4, v5] [] h Q := by
  refine st_aload (pc' := 34) rfl rfl rfl ?_
  refine st_iload (pc' := 35) rfl rfl rfl ?_
  refine st_iload (pc' := 36) rfl rfl rfl ?_
  exact st_call (pc' := 39) (as := [.ref r0, .int x1, .int x3]) (rest := []) rfl rfl (Nat.le_of_ble_eq_true rfl) rfl rfl (Nat.le_of_ble_eq_true rfl) (kd := 1) (o := 12) rfl rfl (beq_iff_eq.mpr hs0) k
theorem B_Md_took_39 {d : Nat} {h : PH} {Q : PQ} {r0 : Nat} {x1 : Int32} {x2 : Int32} {x3 : Int32} {x4 : Int32} {v5 : Value} {s0 : Int32}  (kt : s0 < 0 → wpx d P_Md_took 52 [.ref r0, .int x1, .int x2, .int x3, .int x4, .int s0] [] h Q) (kf : ¬ (s0 < 0) → wpx d P_Md_took 46 [.ref r0, .int x1, .int x2, .int x3, .int x4, .int s0] [] h Q) : wpx d P_Md_took 39 [.ref r0, .int x1, .int x2, .int x3, .int x4, v5] [.int s0] h Q := by
  refine st_istore (pc' := 41) (ls' := [.ref r0, .int x1, .int x2, .int x3, .int x4, .int s0]) rfl rfl (Nat.le_of_ble_eq_true rfl) rfl ?_
  refine st_iload (pc' := 43) rfl rfl rfl ?_
  exact st_if_lt (pc' := 46) rfl rfl kt kf
theorem B_Md_took_46 {d : Nat} {h : PH} {Q : PQ} {r0 : Nat} {x1 : Int32} {x2 : Int32} {x3 : Int32} {x4 : Int32} {x5 : Int32}  (kt : ¬ (x4 = x2) → wpx d P_Md_took 55 [.ref r0, .int x1, .int x2, .int x3, .int x4, .int x5] [] h Q) (kf : x4 = x2 → wpx d P_Md_took 52 [.ref r0, .int x1, .int x2, .int x3, .int x4, .int x5] [] h Q) : wpx d P_Md_took 46 [.ref r0, .int x1, .int x2, .int x3, .int x4, .int x5] [] h Q := by
  refine st_iload (pc' := 48) rfl rfl rfl ?_
  refine st_iload (pc' := 49) rfl rfl rfl ?_
  exact st_icmp_ne (pc' := 52) rfl rfl kt kf
theorem B_Md_took_52 {d : Nat} {h : PH} {Q : PQ} {r0 : Nat} {x1 : Int32} {x2 : Int32} {x3 : Int32} {x4 : Int32} {x5 : Int32}  (k : Q (some (.int x5)) h) : wpx d P_Md_took 52 [.ref r0, .int x1, .int x2, .int x3, .int x4, .int x5] [] h Q := by
  refine st_iload (pc' := 54) rfl rfl rfl ?_
  exact st_ireturn (ty := .int) rfl rfl rfl k
theorem B_Md_took_55 {d : Nat} {h : PH} {Q : PQ} {r0 : Nat} {x1 : Int32} {x2 : Int32} {x3 : Int32} {x4 : Int32} {x5 : Int32} {a0 : Nat} {n1 : Nat} (hs0 : h_sh h r0 = some (0, 12)) (hr1 : h_r h r0 2 = some a0) (hs2 : h_sh h a0 = some (1, n1)) (hb3 : vp_in x5 n1) (k : wpx d P_Md_took 25 [.ref r0, .int x1, .int x2, .int (x3 + (h_i h a0 x5.toNatClampNeg)), .int (x4 + 1), .int x5] [] h Q) : wpx d P_Md_took 55 [.ref r0, .int x1, .int x2, .int x3, .int x4, .int x5] [] h Q := by
  refine st_iload (pc' := 56) rfl rfl rfl ?_
  refine st_aload (pc' := 57) rfl rfl rfl ?_
  refine st_getfr (x := some a0) (Or.inl rfl) rfl hs0 rfl hr1 (pc' := 60) rfl ?_
  refine st_iload (pc' := 62) rfl rfl rfl ?_
  refine st_iaload rfl hs2 hb3 (j := x5.toNatClampNeg) rfl (pc' := 63) rfl ?_
  refine st_iadd (pc' := 64) rfl rfl ?_
  refine st_istore (pc' := 65) (ls' := [.ref r0, .int x1, .int x2, .int (x3 + (h_i h a0 x5.toNatClampNeg)), .int x4, .int x5]) rfl rfl (Nat.le_of_ble_eq_true rfl) rfl ?_
  refine st_iinc (pc' := 68) (v := 1) (ls' := [.ref r0, .int x1, .int x2, .int (x3 + (h_i h a0 x5.toNatClampNeg)), .int (x4 + 1), .int x5]) rfl rfl rfl (by decide) rfl ?_
  exact st_goto rfl k
theorem B_Md_took_71 {d : Nat} {h : PH} {Q : PQ} {r0 : Nat} {x1 : Int32} {x2 : Int32} {x3 : Int32} {x4 : Int32} {v5 : Value}  (k : Q (some (.int (-1))) h) : wpx d P_Md_took 71 [.ref r0, .int x1, .int x2, .int x3, .int x4, v5] [] h Q := by
  refine st_ipush (pc' := 72) (v := (-1)) rfl rfl (by decide) ?_
  exact st_ireturn (ty := .int) rfl rfl rfl k
theorem B_Md_layCover_0 {d : Nat} {h : PH} {Q : PQ} {r0 : Nat} {v1 : Value} {v2 : Value} {v3 : Value}  (k : wpx d P_Md_layCover 2 [.ref r0, .int 1, v2, v3] [] h Q) : wpx d P_Md_layCover 0 [.ref r0, v1, v2, v3] [] h Q := by
  refine st_ipush (pc' := 1) (v := 1) rfl rfl (by decide) ?_
  refine st_istore (pc' := 2) (ls' := [.ref r0, .int 1, v2, v3]) rfl rfl (Nat.le_of_ble_eq_true rfl) rfl ?_
  exact k
theorem B_Md_layCover_2 {d : Nat} {h : PH} {Q : PQ} {r0 : Nat} {x1 : Int32} {v2 : Value} {v3 : Value}  (kt : (6 : Int32) < x1 → wpx d P_Md_layCover 71 [.ref r0, .int x1, v2, v3] [] h Q) (kf : ¬ ((6 : Int32) < x1) → wpx d P_Md_layCover 8 [.ref r0, .int x1, v2, v3] [] h Q) : wpx d P_Md_layCover 2 [.ref r0, .int x1, v2, v3] [] h Q := by
  refine st_iload (pc' := 3) rfl rfl rfl ?_
  refine st_ipush (pc' := 5) (v := 6) rfl rfl (by decide) ?_
  exact st_icmp_gt (pc' := 8) rfl rfl kt kf
theorem B_Md_layCover_8 {d : Nat} {h : PH} {Q : PQ} {r0 : Nat} {x1 : Int32} {v2 : Value} {v3 : Value}  (k : wpx d P_Md_layCover 10 [.ref r0, .int x1, .int 0, v3] [] h Q) : wpx d P_Md_layCover 8 [.ref r0, .int x1, v2, v3] [] h Q := by
  refine st_ipush (pc' := 9) (v := 0) rfl rfl (by decide) ?_
  refine st_istore (pc' := 10) (ls' := [.ref r0, .int x1, .int 0, v3]) rfl rfl (Nat.le_of_ble_eq_true rfl) rfl ?_
  exact k
theorem B_Md_layCover_10 {d : Nat} {h : PH} {Q : PQ} {r0 : Nat} {x1 : Int32} {x2 : Int32} {v3 : Value} (hs0 : h_sh h r0 = some (0, 12)) (kt : (h_i h r0 32) ≤ x2 → wpx d P_Md_layCover 65 [.ref r0, .int x1, .int x2, v3] [] h Q) (kf : ¬ ((h_i h r0 32) ≤ x2) → wpx d P_Md_layCover 18 [.ref r0, .int x1, .int x2, v3] [] h Q) : wpx d P_Md_layCover 10 [.ref r0, .int x1, .int x2, v3] [] h Q := by
  refine st_iload (pc' := 11) rfl rfl rfl ?_
  refine st_aload (pc' := 12) rfl rfl rfl ?_
  refine st_getfi (Or.inl rfl) rfl hs0 rfl (pc' := 15) rfl ?_
  exact st_icmp_ge (pc' := 18) rfl rfl kt kf
theorem B_Md_layCover_18 {d : Nat} {h : PH} {Q : PQ} {r0 : Nat} {x1 : Int32} {x2 : Int32} {v3 : Value} (hs0 : h_sh h r0 = some (0, 12)) (k : wpm d 206 [.ref r0, .int x2] h (fun r h' => wpx d P_Md_layCover 23 [.ref r0, .int x1, .int x2, v3] (r.toList ++ []) h' Q)) : wpx d P_Md_layCover 18 [.ref r0, .int x1, .int x2, v3] [] h Q := by
  refine st_aload (pc' := 19) rfl rfl rfl ?_
  refine st_iload (pc' := 20) rfl rfl rfl ?_
  exact st_call (pc' := 23) (as := [.ref r0, .int x2]) (rest := []) rfl rfl (Nat.le_of_ble_eq_true rfl) rfl rfl (Nat.le_of_ble_eq_true rfl) (kd := 1) (o := 12) rfl rfl (beq_iff_eq.mpr hs0) k
theorem B_Md_layCover_23 {d : Nat} {h : PH} {Q : PQ} {r0 : Nat} {x1 : Int32} {x2 : Int32} {v3 : Value} {s0 : Int32}  (kt : s0 = x1 → wpx d P_Md_layCover 30 [.ref r0, .int x1, .int x2, v3] [] h Q) (kf : ¬ (s0 = x1) → wpx d P_Md_layCover 27 [.ref r0, .int x1, .int x2, v3] [] h Q) : wpx d P_Md_layCover 23 [.ref r0, .int x1, .int x2, v3] [.int s0] h Q := by
  refine st_iload (pc' := 24) rfl rfl rfl ?_
  exact st_icmp_eq (pc' := 27) rfl rfl kt kf
theorem B_Md_layCover_27 {d : Nat} {h : PH} {Q : PQ} {r0 : Nat} {x1 : Int32} {x2 : Int32} {v3 : Value}  (k : wpx d P_Md_layCover 59 [.ref r0, .int x1, .int x2, v3] [] h Q) : wpx d P_Md_layCover 27 [.ref r0, .int x1, .int x2, v3] [] h Q := by
  exact st_goto rfl k
theorem B_Md_layCover_30 {d : Nat} {h : PH} {Q : PQ} {r0 : Nat} {x1 : Int32} {x2 : Int32} {v3 : Value} {a0 : Nat} {n1 : Nat} (hs0 : h_sh h r0 = some (0, 12)) (hr1 : h_r h r0 45 = some a0) (hs2 : h_sh h a0 = some (1, n1)) (hb3 : vp_in x2 n1) (k : wpx d P_Md_layCover 39 [.ref r0, .int x1, .int x2, .int 0] [] (w_i h a0 x2.toNatClampNeg (-1)) Q) : wpx d P_Md_layCover 30 [.ref r0, .int x1, .int x2, v3] [] h Q := by
  refine st_aload (pc' := 31) rfl rfl rfl ?_
  refine st_getfr (x := some a0) (Or.inl rfl) rfl hs0 rfl hr1 (pc' := 34) rfl ?_
  refine st_iload (pc' := 35) rfl rfl rfl ?_
  refine st_ipush (pc' := 36) (v := (-1)) rfl rfl (by decide) ?_
  refine st_iastore rfl hs2 hb3 (j := x2.toNatClampNeg) rfl (pc' := 37) rfl ?_
  refine st_ipush (pc' := 38) (v := 0) rfl rfl (by decide) ?_
  refine st_istore (pc' := 39) (ls' := [.ref r0, .int x1, .int x2, .int 0]) rfl rfl (Nat.le_of_ble_eq_true rfl) rfl ?_
  exact k
theorem B_Md_layCover_39 {d : Nat} {h : PH} {Q : PQ} {r0 : Nat} {x1 : Int32} {x2 : Int32} {x3 : Int32} (hs0 : h_sh h r0 = some (0, 12)) (kt : (h_i h r0 4) ≤ x3 → wpx d P_Md_layCover 59 [.ref r0, .int x1, .int x2, .int x3] [] h Q) (kf : ¬ ((h_i h r0 4) ≤ x3) → wpx d P_Md_layCover 47 [.ref r0, .int x1, .int x2, .int x3] [] h Q) : wpx d P_Md_layCover 39 [.ref r0, .int x1, .int x2, .int x3] [] h Q := by
  refine st_iload (pc' := 40) rfl rfl rfl ?_
  refine st_aload (pc' := 41) rfl rfl rfl ?_
  refine st_getfi (Or.inl rfl) rfl hs0 rfl (pc' := 44) rfl ?_
  exact st_icmp_ge (pc' := 47) rfl rfl kt kf
theorem B_Md_layCover_47 {d : Nat} {h : PH} {Q : PQ} {r0 : Nat} {x1 : Int32} {x2 : Int32} {x3 : Int32} (hs0 : h_sh h r0 = some (0, 12)) (k : wpm d 238 [.ref r0, .int x2, .int x3] h (fun r h' => wpx d P_Md_layCover 53 [.ref r0, .int x1, .int x2, .int x3] (r.toList ++ []) h' Q)) : wpx d P_Md_layCover 47 [.ref r0, .int x1, .int x2, .int x3] [] h Q := by
  refine st_aload (pc' := 48) rfl rfl rfl ?_
  refine st_iload (pc' := 49) rfl rfl rfl ?_
  refine st_iload (pc' := 50) rfl rfl rfl ?_
  exact st_call (pc' := 53) (as := [.ref r0, .int x2, .int x3]) (rest := []) rfl rfl (Nat.le_of_ble_eq_true rfl) rfl rfl (Nat.le_of_ble_eq_true rfl) (kd := 1) (o := 12) rfl rfl (beq_iff_eq.mpr hs0) k
theorem B_Md_layCover_53 {d : Nat} {h : PH} {Q : PQ} {r0 : Nat} {x1 : Int32} {x2 : Int32} {x3 : Int32}  (k : wpx d P_Md_layCover 39 [.ref r0, .int x1, .int x2, .int (x3 + 1)] [] h Q) : wpx d P_Md_layCover 53 [.ref r0, .int x1, .int x2, .int x3] [] h Q := by
  refine st_iinc (pc' := 56) (v := 1) (ls' := [.ref r0, .int x1, .int x2, .int (x3 + 1)]) rfl rfl rfl (by decide) rfl ?_
  exact st_goto rfl k
theorem B_Md_layCover_59 {d : Nat} {h : PH} {Q : PQ} {r0 : Nat} {x1 : Int32} {x2 : Int32} {v3 : Value}  (k : wpx d P_Md_layCover 10 [.ref r0, .int x1, .int (x2 + 1), v3] [] h Q) : wpx d P_Md_layCover 59 [.ref r0, .int x1, .int x2, v3] [] h Q := by
  refine st_iinc (pc' := 62) (v := 1) (ls' := [.ref r0, .int x1, .int (x2 + 1), v3]) rfl rfl rfl (by decide) rfl ?_
  exact st_goto rfl k
theorem B_Md_layCover_65 {d : Nat} {h : PH} {Q : PQ} {r0 : Nat} {x1 : Int32} {x2 : Int32} {v3 : Value}  (k : wpx d P_Md_layCover 2 [.ref r0, .int (x1 + 1), .int x2, v3] [] h Q) : wpx d P_Md_layCover 65 [.ref r0, .int x1, .int x2, v3] [] h Q := by
  refine st_iinc (pc' := 68) (v := 1) (ls' := [.ref r0, .int (x1 + 1), .int x2, v3]) rfl rfl rfl (by decide) rfl ?_
  exact st_goto rfl k
theorem B_Md_layCover_71 {d : Nat} {h : PH} {Q : PQ} {r0 : Nat} {x1 : Int32} {v2 : Value} {v3 : Value}  (k : Q none h) : wpx d P_Md_layCover 71 [.ref r0, .int x1, v2, v3] [] h Q := by
  exact st_return rfl k
theorem B_Md_coversBy_0 {d : Nat} {h : PH} {Q : PQ} {r0 : Nat} {x1 : Int32} {x2 : Int32} {v3 : Value} {v4 : Value} {v5 : Value} (hs0 : h_sh h r0 = some (0, 12)) (k : wpm d 171 [.int (h_i h r0 6), .int x2] h (fun r h' => wpx d P_Md_coversBy 8 [.ref r0, .int x1, .int x2, v3, v4, v5] (r.toList ++ []) h' Q)) : wpx d P_Md_coversBy 0 [.ref r0, .int x1, .int x2, v3, v4, v5] [] h Q := by
  refine st_aload (pc' := 1) rfl rfl rfl ?_
  refine st_getfi (Or.inl rfl) rfl hs0 rfl (pc' := 4) rfl ?_
  refine st_iload (pc' := 5) rfl rfl rfl ?_
  exact st_call (pc' := 8) (as := [.int (h_i h r0 6), .int x2]) (rest := []) rfl rfl (Nat.le_of_ble_eq_true rfl) rfl rfl (Nat.le_of_ble_eq_true rfl) (kd := 0) (o := 12) rfl rfl rfl k
theorem B_Md_coversBy_8 {d : Nat} {h : PH} {Q : PQ} {r0 : Nat} {x1 : Int32} {x2 : Int32} {v3 : Value} {v4 : Value} {v5 : Value} {s0 : Int32}  (kt : ¬ (s0 = 0) → wpx d P_Md_coversBy 12 [.ref r0, .int x1, .int x2, v3, v4, v5] [] h Q) (kf : s0 = 0 → wpx d P_Md_coversBy 11 [.ref r0, .int x1, .int x2, v3, v4, v5] [] h Q) : wpx d P_Md_coversBy 8 [.ref r0, .int x1, .int x2, v3, v4, v5] [.int s0] h Q := by
  exact st_if_ne (pc' := 11) rfl rfl kt kf
theorem B_Md_coversBy_11 {d : Nat} {h : PH} {Q : PQ} {r0 : Nat} {x1 : Int32} {x2 : Int32} {v3 : Value} {v4 : Value} {v5 : Value}  (k : Q none h) : wpx d P_Md_coversBy 11 [.ref r0, .int x1, .int x2, v3, v4, v5] [] h Q := by
  exact st_return rfl k
theorem B_Md_coversBy_12 {d : Nat} {h : PH} {Q : PQ} {r0 : Nat} {x1 : Int32} {x2 : Int32} {v3 : Value} {v4 : Value} {v5 : Value} {a0 : Nat} {n1 : Nat} {a2 : Nat} {n3 : Nat} (hs0 : h_sh h r0 = some (0, 12)) (hr1 : h_r h r0 27 = some a0) (hs2 : h_sh h a0 = some (1, n1)) (hb3 : vp_in x1 n1) (hr4 : h_r h r0 28 = some a2) (hs5 : h_sh h a2 = some (1, n3)) (hb6 : vp_in x1 n3) (k : wpm d 176 [.ref r0, .int x2, .int 0, .int (h_i h a0 x1.toNatClampNeg), .int (h_i h a2 x1.toNatClampNeg)] h (fun r h' => wpx d P_Md_coversBy 30 [.ref r0, .int x1, .int x2, v3, v4, v5] (r.toList ++ []) h' Q)) : wpx d P_Md_coversBy 12 [.ref r0, .int x1, .int x2, v3, v4, v5] [] h Q := by
  refine st_aload (pc' := 13) rfl rfl rfl ?_
  refine st_iload (pc' := 14) rfl rfl rfl ?_
  refine st_ipush (pc' := 15) (v := 0) rfl rfl (by decide) ?_
  refine st_aload (pc' := 16) rfl rfl rfl ?_
  refine st_getfr (x := some a0) (Or.inl rfl) rfl hs0 rfl hr1 (pc' := 19) rfl ?_
  refine st_iload (pc' := 20) rfl rfl rfl ?_
  refine st_iaload rfl hs2 hb3 (j := x1.toNatClampNeg) rfl (pc' := 21) rfl ?_
  refine st_aload (pc' := 22) rfl rfl rfl ?_
  refine st_getfr (x := some a2) (Or.inl rfl) rfl hs0 rfl hr4 (pc' := 25) rfl ?_
  refine st_iload (pc' := 26) rfl rfl rfl ?_
  refine st_iaload rfl hs5 hb6 (j := x1.toNatClampNeg) rfl (pc' := 27) rfl ?_
  exact st_call (pc' := 30) (as := [.ref r0, .int x2, .int 0, .int (h_i h a0 x1.toNatClampNeg), .int (h_i h a2 x1.toNatClampNeg)]) (rest := []) rfl rfl (Nat.le_of_ble_eq_true rfl) rfl rfl (Nat.le_of_ble_eq_true rfl) (kd := 1) (o := 12) rfl rfl (beq_iff_eq.mpr hs0) k
theorem B_Md_coversBy_30 {d : Nat} {h : PH} {Q : PQ} {r0 : Nat} {x1 : Int32} {x2 : Int32} {v3 : Value} {v4 : Value} {v5 : Value} {s0 : Int32} {a0 : Nat} {n1 : Nat} (hs0 : h_sh h r0 = some (0, 12)) (hr1 : h_r h r0 2 = some a0) (hs2 : h_sh h a0 = some (1, n1)) (hb3 : vp_in x2 n1) (kt : ¬ (s0 = (h_i h a0 x2.toNatClampNeg)) → wpx d P_Md_coversBy 76 [.ref r0, .int x1, .int x2, .int s0, v4, v5] [] h Q) (kf : s0 = (h_i h a0 x2.toNatClampNeg) → wpx d P_Md_coversBy 41 [.ref r0, .int x1, .int x2, .int s0, v4, v5] [] h Q) : wpx d P_Md_coversBy 30 [.ref r0, .int x1, .int x2, v3, v4, v5] [.int s0] h Q := by
  refine st_istore (pc' := 31) (ls' := [.ref r0, .int x1, .int x2, .int s0, v4, v5]) rfl rfl (Nat.le_of_ble_eq_true rfl) rfl ?_
  refine st_iload (pc' := 32) rfl rfl rfl ?_
  refine st_aload (pc' := 33) rfl rfl rfl ?_
  refine st_getfr (x := some a0) (Or.inl rfl) rfl hs0 rfl hr1 (pc' := 36) rfl ?_
  refine st_iload (pc' := 37) rfl rfl rfl ?_
  refine st_iaload rfl hs2 hb3 (j := x2.toNatClampNeg) rfl (pc' := 38) rfl ?_
  exact st_icmp_ne (pc' := 41) rfl rfl kt kf
theorem B_Md_coversBy_41 {d : Nat} {h : PH} {Q : PQ} {r0 : Nat} {x1 : Int32} {x2 : Int32} {x3 : Int32} {v4 : Value} {v5 : Value} (hs0 : h_sh h r0 = some (0, 12)) (k : wpm d 206 [.ref r0, .int x1] h (fun r h' => wpx d P_Md_coversBy 47 [.ref r0, .int x1, .int x2, .int x3, v4, v5] (r.toList ++ [.int x3]) h' Q)) : wpx d P_Md_coversBy 41 [.ref r0, .int x1, .int x2, .int x3, v4, v5] [] h Q := by
  refine st_iload (pc' := 42) rfl rfl rfl ?_
  refine st_aload (pc' := 43) rfl rfl rfl ?_
  refine st_iload (pc' := 44) rfl rfl rfl ?_
  exact st_call (pc' := 47) (as := [.ref r0, .int x1]) (rest := [.int x3]) rfl rfl (Nat.le_of_ble_eq_true rfl) rfl rfl (Nat.le_of_ble_eq_true rfl) (kd := 1) (o := 12) rfl rfl (beq_iff_eq.mpr hs0) k
theorem B_Md_coversBy_47 {d : Nat} {h : PH} {Q : PQ} {r0 : Nat} {x1 : Int32} {x2 : Int32} {x3 : Int32} {v4 : Value} {v5 : Value} {s0 : Int32} {s1 : Int32}  (kt : s1 ≤ s0 → wpx d P_Md_coversBy 76 [.ref r0, .int x1, .int x2, .int x3, v4, v5] [] h Q) (kf : ¬ (s1 ≤ s0) → wpx d P_Md_coversBy 50 [.ref r0, .int x1, .int x2, .int x3, v4, v5] [] h Q) : wpx d P_Md_coversBy 47 [.ref r0, .int x1, .int x2, .int x3, v4, v5] [.int s1, .int s0] h Q := by
  exact st_icmp_ge (pc' := 50) rfl rfl kt kf
theorem B_Md_coversBy_50 {d : Nat} {h : PH} {Q : PQ} {r0 : Nat} {x1 : Int32} {x2 : Int32} {x3 : Int32} {v4 : Value} {v5 : Value} {a0 : Nat} {a1 : Nat} {n2 : Nat} {a3 : Nat} {n4 : Nat} {n5 : Nat} (hs0 : h_sh h r0 = some (0, 12)) (hr1 : h_r h r0 30 = some a0) (hr2 : h_r h r0 27 = some a1) (hs3 : h_sh h a1 = some (1, n2)) (hb4 : vp_in x1 n2) (hr5 : h_r h r0 28 = some a3) (hs6 : h_sh h a3 = some (1, n4)) (hb7 : vp_in x1 n4) (hs8 : h_sh h a0 = some (1, n5)) (hb9 : vp_in ((((8 : Int32) * (h_i h a1 x1.toNatClampNeg)) + (h_i h a3 x1.toNatClampNeg)) + x3) n5) (k : wpx d P_Md_coversBy 77 [.ref r0, .int x1, .int x2, .int x3, v4, v5] [.int (h_i h a0 ((((8 : Int32) * (h_i h a1 x1.toNatClampNeg)) + (h_i h a3 x1.toNatClampNeg)) + x3).toNatClampNeg)] h Q) : wpx d P_Md_coversBy 50 [.ref r0, .int x1, .int x2, .int x3, v4, v5] [] h Q := by
  refine st_aload (pc' := 51) rfl rfl rfl ?_
  refine st_getfr (x := some a0) (Or.inl rfl) rfl hs0 rfl hr1 (pc' := 54) rfl ?_
  refine st_ipush (pc' := 56) (v := 8) rfl rfl (by decide) ?_
  refine st_aload (pc' := 57) rfl rfl rfl ?_
  refine st_getfr (x := some a1) (Or.inl rfl) rfl hs0 rfl hr2 (pc' := 60) rfl ?_
  refine st_iload (pc' := 61) rfl rfl rfl ?_
  refine st_iaload rfl hs3 hb4 (j := x1.toNatClampNeg) rfl (pc' := 62) rfl ?_
  refine st_imul (pc' := 63) rfl rfl ?_
  refine st_aload (pc' := 64) rfl rfl rfl ?_
  refine st_getfr (x := some a3) (Or.inl rfl) rfl hs0 rfl hr5 (pc' := 67) rfl ?_
  refine st_iload (pc' := 68) rfl rfl rfl ?_
  refine st_iaload rfl hs6 hb7 (j := x1.toNatClampNeg) rfl (pc' := 69) rfl ?_
  refine st_iadd (pc' := 70) rfl rfl ?_
  refine st_iload (pc' := 71) rfl rfl rfl ?_
  refine st_iadd (pc' := 72) rfl rfl ?_
  refine st_iaload rfl hs8 hb9 (j := ((((8 : Int32) * (h_i h a1 x1.toNatClampNeg)) + (h_i h a3 x1.toNatClampNeg)) + x3).toNatClampNeg) rfl (pc' := 73) rfl ?_
  exact st_goto rfl k
theorem B_Md_coversBy_76 {d : Nat} {h : PH} {Q : PQ} {r0 : Nat} {x1 : Int32} {x2 : Int32} {x3 : Int32} {v4 : Value} {v5 : Value}  (k : wpx d P_Md_coversBy 77 [.ref r0, .int x1, .int x2, .int x3, v4, v5] [.int (-1)] h Q) : wpx d P_Md_coversBy 76 [.ref r0, .int x1, .int x2, .int x3, v4, v5] [] h Q := by
  refine st_ipush (pc' := 77) (v := (-1)) rfl rfl (by decide) ?_
  exact k
theorem B_Md_coversBy_77 {d : Nat} {h : PH} {Q : PQ} {r0 : Nat} {x1 : Int32} {x2 : Int32} {x3 : Int32} {v4 : Value} {v5 : Value} {s0 : Int32} (hs0 : h_sh h r0 = some (0, 12)) (k : wpm d 206 [.ref r0, .int x1] h (fun r h' => wpx d P_Md_coversBy 85 [.ref r0, .int x1, .int x2, .int x3, .int s0, v5] (r.toList ++ [.int x3]) h' Q)) : wpx d P_Md_coversBy 77 [.ref r0, .int x1, .int x2, .int x3, v4, v5] [.int s0] h Q := by
  refine st_istore (pc' := 79) (ls' := [.ref r0, .int x1, .int x2, .int x3, .int s0, v5]) rfl rfl (Nat.le_of_ble_eq_true rfl) rfl ?_
  refine st_iload (pc' := 80) rfl rfl rfl ?_
  refine st_aload (pc' := 81) rfl rfl rfl ?_
  refine st_iload (pc' := 82) rfl rfl rfl ?_
  exact st_call (pc' := 85) (as := [.ref r0, .int x1]) (rest := [.int x3]) rfl rfl (Nat.le_of_ble_eq_true rfl) rfl rfl (Nat.le_of_ble_eq_true rfl) (kd := 1) (o := 12) rfl rfl (beq_iff_eq.mpr hs0) k
theorem B_Md_coversBy_85 {d : Nat} {h : PH} {Q : PQ} {r0 : Nat} {x1 : Int32} {x2 : Int32} {x3 : Int32} {x4 : Int32} {v5 : Value} {s0 : Int32} {s1 : Int32}  (kt : s1 ≤ s0 → wpx d P_Md_coversBy 104 [.ref r0, .int x1, .int x2, .int x3, .int x4, v5] [] h Q) (kf : ¬ (s1 ≤ s0) → wpx d P_Md_coversBy 88 [.ref r0, .int x1, .int x2, .int x3, .int x4, v5] [] h Q) : wpx d P_Md_coversBy 85 [.ref r0, .int x1, .int x2, .int x3, .int x4, v5] [.int s1, .int s0] h Q := by
  exact st_icmp_ge (pc' := 88) rfl rfl kt kf
theorem B_Md_coversBy_88 {d : Nat} {h : PH} {Q : PQ} {r0 : Nat} {x1 : Int32} {x2 : Int32} {x3 : Int32} {x4 : Int32} {v5 : Value}  (kt : x4 < 0 → wpx d P_Md_coversBy 103 [.ref r0, .int x1, .int x2, .int x3, .int x4, v5] [] h Q) (kf : ¬ (x4 < 0) → wpx d P_Md_coversBy 93 [.ref r0, .int x1, .int x2, .int x3, .int x4, v5] [] h Q) : wpx d P_Md_coversBy 88 [.ref r0, .int x1, .int x2, .int x3, .int x4, v5] [] h Q := by
  refine st_iload (pc' := 90) rfl rfl rfl ?_
  exact st_if_lt (pc' := 93) rfl rfl kt kf
theorem B_Md_coversBy_93 {d : Nat} {h : PH} {Q : PQ} {r0 : Nat} {x1 : Int32} {x2 : Int32} {x3 : Int32} {x4 : Int32} {v5 : Value} {a0 : Nat} {n1 : Nat} (hs0 : h_sh h r0 = some (0, 12)) (hr1 : h_r h r0 45 = some a0) (hs2 : h_sh h a0 = some (1, n1)) (hb3 : vp_in x4 n1) (kt : 0 ≤ (h_i h a0 x4.toNatClampNeg) → wpx d P_Md_coversBy 104 [.ref r0, .int x1, .int x2, .int x3, .int x4, v5] [] h Q) (kf : ¬ (0 ≤ (h_i h a0 x4.toNatClampNeg)) → wpx d P_Md_coversBy 103 [.ref r0, .int x1, .int x2, .int x3, .int x4, v5] [] h Q) : wpx d P_Md_coversBy 93 [.ref r0, .int x1, .int x2, .int x3, .int x4, v5] [] h Q := by
  refine st_aload (pc' := 94) rfl rfl rfl ?_
  refine st_getfr (x := some a0) (Or.inl rfl) rfl hs0 rfl hr1 (pc' := 97) rfl ?_
  refine st_iload (pc' := 99) rfl rfl rfl ?_
  refine st_iaload rfl hs2 hb3 (j := x4.toNatClampNeg) rfl (pc' := 100) rfl ?_
  exact st_if_ge (pc' := 103) rfl rfl kt kf
theorem B_Md_coversBy_103 {d : Nat} {h : PH} {Q : PQ} {r0 : Nat} {x1 : Int32} {x2 : Int32} {x3 : Int32} {x4 : Int32} {v5 : Value}  (k : Q none h) : wpx d P_Md_coversBy 103 [.ref r0, .int x1, .int x2, .int x3, .int x4, v5] [] h Q := by
  exact st_return rfl k
theorem B_Md_coversBy_104 {d : Nat} {h : PH} {Q : PQ} {r0 : Nat} {x1 : Int32} {x2 : Int32} {x3 : Int32} {x4 : Int32} {v5 : Value} (hs0 : h_sh h r0 = some (0, 12)) (k : wpm d 217 [.ref r0, .int x2, .int 0] (w_i h r0 38 0) (fun r h' => wpx d P_Md_coversBy 115 [.ref r0, .int x1, .int x2, .int x3, .int x4, v5] (r.toList ++ []) h' Q)) : wpx d P_Md_coversBy 104 [.ref r0, .int x1, .int x2, .int x3, .int x4, v5] [] h Q := by
  refine st_aload (pc' := 105) rfl rfl rfl ?_
  refine st_ipush (pc' := 106) (v := 0) rfl rfl (by decide) ?_
  refine st_putf (h' := w_i h r0 38 0) (Or.inl rfl) rfl hs0 rfl rfl rfl (pc' := 109) rfl ?_
  refine st_aload (pc' := 110) rfl rfl rfl ?_
  refine st_iload (pc' := 111) rfl rfl rfl ?_
  refine st_ipush (pc' := 112) (v := 0) rfl rfl (by decide) ?_
  exact st_call (pc' := 115) (as := [.ref r0, .int x2, .int 0]) (rest := []) rfl rfl (Nat.le_of_ble_eq_true rfl) rfl rfl (Nat.le_of_ble_eq_true rfl) (kd := 1) (o := 12) rfl rfl (beq_iff_eq.mpr hs0) k
theorem B_Md_coversBy_115 {d : Nat} {h : PH} {Q : PQ} {r0 : Nat} {x1 : Int32} {x2 : Int32} {x3 : Int32} {x4 : Int32} {v5 : Value}  (k : wpx d P_Md_coversBy 118 [.ref r0, .int x1, .int x2, .int x3, .int x4, .int 0] [] h Q) : wpx d P_Md_coversBy 115 [.ref r0, .int x1, .int x2, .int x3, .int x4, v5] [] h Q := by
  refine st_ipush (pc' := 116) (v := 0) rfl rfl (by decide) ?_
  refine st_istore (pc' := 118) (ls' := [.ref r0, .int x1, .int x2, .int x3, .int x4, .int 0]) rfl rfl (Nat.le_of_ble_eq_true rfl) rfl ?_
  exact k
theorem B_Md_coversBy_118 {d : Nat} {h : PH} {Q : PQ} {r0 : Nat} {x1 : Int32} {x2 : Int32} {x3 : Int32} {x4 : Int32} {x5 : Int32}  (kt : x4 < 0 → wpx d P_Md_coversBy 173 [.ref r0, .int x1, .int x2, .int x3, .int x4, .int x5] [] h Q) (kf : ¬ (x4 < 0) → wpx d P_Md_coversBy 123 [.ref r0, .int x1, .int x2, .int x3, .int x4, .int x5] [] h Q) : wpx d P_Md_coversBy 118 [.ref r0, .int x1, .int x2, .int x3, .int x4, .int x5] [] h Q := by
  refine st_iload (pc' := 120) rfl rfl rfl ?_
  exact st_if_lt (pc' := 123) rfl rfl kt kf
theorem B_Md_coversBy_123 {d : Nat} {h : PH} {Q : PQ} {r0 : Nat} {x1 : Int32} {x2 : Int32} {x3 : Int32} {x4 : Int32} {x5 : Int32} {a0 : Nat} {n1 : Nat} (hs0 : h_sh h r0 = some (0, 12)) (hr1 : h_r h r0 45 = some a0) (hs2 : h_sh h a0 = some (1, n1)) (hb3 : vp_in x4 n1) (kt : (h_i h a0 x4.toNatClampNeg) ≤ x5 → wpx d P_Md_coversBy 173 [.ref r0, .int x1, .int x2, .int x3, .int x4, .int x5] [] h Q) (kf : ¬ ((h_i h a0 x4.toNatClampNeg) ≤ x5) → wpx d P_Md_coversBy 135 [.ref r0, .int x1, .int x2, .int x3, .int x4, .int x5] [] h Q) : wpx d P_Md_coversBy 123 [.ref r0, .int x1, .int x2, .int x3, .int x4, .int x5] [] h Q := by
  refine st_iload (pc' := 125) rfl rfl rfl ?_
  refine st_aload (pc' := 126) rfl rfl rfl ?_
  refine st_getfr (x := some a0) (Or.inl rfl) rfl hs0 rfl hr1 (pc' := 129) rfl ?_
  refine st_iload (pc' := 131) rfl rfl rfl ?_
  refine st_iaload rfl hs2 hb3 (j := x4.toNatClampNeg) rfl (pc' := 132) rfl ?_
  exact st_icmp_ge (pc' := 135) rfl rfl kt kf
theorem B_Md_coversBy_135 {d : Nat} {h : PH} {Q : PQ} {r0 : Nat} {x1 : Int32} {x2 : Int32} {x3 : Int32} {x4 : Int32} {x5 : Int32} {a0 : Nat} {a1 : Nat} {n2 : Nat} {n3 : Nat} (hs0 : h_sh h r0 = some (0, 12)) (hr1 : h_r h r0 37 = some a0) (hr2 : h_r h r0 44 = some a1) (hs3 : h_sh h a1 = some (1, n2)) (hb4 : vp_in (((30 : Int32) * x4) + x5) n2) (hs5 : h_sh h a0 = some (1, n3)) (hb6 : vp_in (h_i h r0 38) n3) (k : wpx d P_Md_coversBy 167 [.ref r0, .int x1, .int x2, .int x3, .int x4, .int x5] [] (w_i (w_i h a0 ((h_i h r0 38).toNatClampNeg) (h_i h a1 (((30 : Int32) * x4) + x5).toNatClampNeg)) r0 38 ((h_i (w_i h a0 ((h_i h r0 38).toNatClampNeg) (h_i h a1 (((30 : Int32) * x4) + x5).toNatClampNeg)) r0 38) + (1 : Int32))) Q) : wpx d P_Md_coversBy 135 [.ref r0, .int x1, .int x2, .int x3, .int x4, .int x5] [] h Q := by
  refine st_aload (pc' := 136) rfl rfl rfl ?_
  refine st_getfr (x := some a0) (Or.inl rfl) rfl hs0 rfl hr1 (pc' := 139) rfl ?_
  refine st_aload (pc' := 140) rfl rfl rfl ?_
  refine st_getfi (Or.inl rfl) rfl hs0 rfl (pc' := 143) rfl ?_
  refine st_aload (pc' := 144) rfl rfl rfl ?_
  refine st_getfr (x := some a1) (Or.inl rfl) rfl hs0 rfl hr2 (pc' := 147) rfl ?_
  refine st_ipush (pc' := 149) (v := 30) rfl rfl (by decide) ?_
  refine st_iload (pc' := 151) rfl rfl rfl ?_
  refine st_imul (pc' := 152) rfl rfl ?_
  refine st_iload (pc' := 154) rfl rfl rfl ?_
  refine st_iadd (pc' := 155) rfl rfl ?_
  refine st_iaload rfl hs3 hb4 (j := (((30 : Int32) * x4) + x5).toNatClampNeg) rfl (pc' := 156) rfl ?_
  refine st_iastore rfl hs5 hb6 (j := (h_i h r0 38).toNatClampNeg) rfl (pc' := 157) rfl ?_
  refine st_aload (pc' := 158) rfl rfl rfl ?_
  refine st_dup (pc' := 159) rfl rfl rfl ?_
  refine st_getfi (Or.inl rfl) rfl hs0 rfl (pc' := 162) rfl ?_
  refine st_ipush (pc' := 163) (v := 1) rfl rfl (by decide) ?_
  refine st_iadd (pc' := 164) rfl rfl ?_
  refine st_putf (h' := w_i (w_i h a0 ((h_i h r0 38).toNatClampNeg) (h_i h a1 (((30 : Int32) * x4) + x5).toNatClampNeg)) r0 38 ((h_i (w_i h a0 ((h_i h r0 38).toNatClampNeg) (h_i h a1 (((30 : Int32) * x4) + x5).toNatClampNeg)) r0 38) + (1 : Int32))) (Or.inl rfl) rfl hs0 rfl rfl rfl (pc' := 167) rfl ?_
  exact k
theorem B_Md_coversBy_173 {d : Nat} {h : PH} {Q : PQ} {r0 : Nat} {x1 : Int32} {x2 : Int32} {x3 : Int32} {x4 : Int32} {x5 : Int32} {a0 : Nat} {a1 : Nat} {n2 : Nat} (hs0 : h_sh h r0 = some (0, 12)) (hr1 : h_r h r0 44 = some a0) (hr2 : h_r h r0 45 = some a1) (hs3 : h_sh h a1 = some (1, n2)) (hb4 : vp_in x1 n2) (k : wpm d 218 [.ref r0, .ref a0, .int ((30 : Int32) * x1), .int (h_i h a1 x1.toNatClampNeg)] h (fun r h' => wpx d P_Md_coversBy 191 [.ref r0, .int x1, .int x2, .int x3, .int x4, .int x5] (r.toList ++ []) h' Q)) : wpx d P_Md_coversBy 173 [.ref r0, .int x1, .int x2, .int x3, .int x4, .int x5] [] h Q := by
  refine st_aload (pc' := 174) rfl rfl rfl ?_
  refine st_aload (pc' := 175) rfl rfl rfl ?_
  refine st_getfr (x := some a0) (Or.inl rfl) rfl hs0 rfl hr1 (pc' := 178) rfl ?_
  refine st_ipush (pc' := 180) (v := 30) rfl rfl (by decide) ?_
  refine st_iload (pc' := 181) rfl rfl rfl ?_
  refine st_imul (pc' := 182) rfl rfl ?_
  refine st_aload (pc' := 183) rfl rfl rfl ?_
  refine st_getfr (x := some a1) (Or.inl rfl) rfl hs0 rfl hr2 (pc' := 186) rfl ?_
  refine st_iload (pc' := 187) rfl rfl rfl ?_
  refine st_iaload rfl hs3 hb4 (j := x1.toNatClampNeg) rfl (pc' := 188) rfl ?_
  exact st_call (pc' := 191) (as := [.ref r0, .ref a0, .int ((30 : Int32) * x1), .int (h_i h a1 x1.toNatClampNeg)]) (rest := []) rfl rfl (Nat.le_of_ble_eq_true rfl) rfl rfl (Nat.le_of_ble_eq_true rfl) (kd := 1) (o := 12) rfl rfl (beq_iff_eq.mpr hs0) k
theorem B_Md_coversBy_191 {d : Nat} {h : PH} {Q : PQ} {r0 : Nat} {x1 : Int32} {x2 : Int32} {x3 : Int32} {x4 : Int32} {x5 : Int32} {s0 : Int32}  (kt : s0 = 0 → wpx d P_Md_coversBy 241 [.ref r0, .int x1, .int x2, .int x3, .int x4, .int x5] [] h Q) (kf : ¬ (s0 = 0) → wpx d P_Md_coversBy 194 [.ref r0, .int x1, .int x2, .int x3, .int x4, .int x5] [] h Q) : wpx d P_Md_coversBy 191 [.ref r0, .int x1, .int x2, .int x3, .int x4, .int x5] [.int s0] h Q := by
  exact st_if_eq (pc' := 194) rfl rfl kt kf
theorem B_Md_coversBy_194 {d : Nat} {h : PH} {Q : PQ} {r0 : Nat} {x1 : Int32} {x2 : Int32} {x3 : Int32} {x4 : Int32} {x5 : Int32}  (k : wpx d P_Md_coversBy 197 [.ref r0, .int x1, .int x2, .int x3, .int x4, .int 0] [] h Q) : wpx d P_Md_coversBy 194 [.ref r0, .int x1, .int x2, .int x3, .int x4, .int x5] [] h Q := by
  refine st_ipush (pc' := 195) (v := 0) rfl rfl (by decide) ?_
  refine st_istore (pc' := 197) (ls' := [.ref r0, .int x1, .int x2, .int x3, .int x4, .int 0]) rfl rfl (Nat.le_of_ble_eq_true rfl) rfl ?_
  exact k
theorem B_Md_coversBy_197 {d : Nat} {h : PH} {Q : PQ} {r0 : Nat} {x1 : Int32} {x2 : Int32} {x3 : Int32} {x4 : Int32} {x5 : Int32} (hs0 : h_sh h r0 = some (0, 12)) (kt : (h_i h r0 38) ≤ x5 → wpx d P_Md_coversBy 231 [.ref r0, .int x1, .int x2, .int x3, .int x4, .int x5] [] h Q) (kf : ¬ ((h_i h r0 38) ≤ x5) → wpx d P_Md_coversBy 206 [.ref r0, .int x1, .int x2, .int x3, .int x4, .int x5] [] h Q) : wpx d P_Md_coversBy 197 [.ref r0, .int x1, .int x2, .int x3, .int x4, .int x5] [] h Q := by
  refine st_iload (pc' := 199) rfl rfl rfl ?_
  refine st_aload (pc' := 200) rfl rfl rfl ?_
  refine st_getfi (Or.inl rfl) rfl hs0 rfl (pc' := 203) rfl ?_
  exact st_icmp_ge (pc' := 206) rfl rfl kt kf
theorem B_Md_coversBy_206 {d : Nat} {h : PH} {Q : PQ} {r0 : Nat} {x1 : Int32} {x2 : Int32} {x3 : Int32} {x4 : Int32} {x5 : Int32} {a0 : Nat} {a1 : Nat} {n2 : Nat} {n3 : Nat} (hs0 : h_sh h r0 = some (0, 12)) (hr1 : h_r h r0 44 = some a0) (hr2 : h_r h r0 37 = some a1) (hs3 : h_sh h a1 = some (1, n2)) (hb4 : vp_in x5 n2) (hs5 : h_sh h a0 = some (1, n3)) (hb6 : vp_in (((30 : Int32) * x1) + x5) n3) (k : wpx d P_Md_coversBy 197 [.ref r0, .int x1, .int x2, .int x3, .int x4, .int (x5 + 1)] [] (w_i h a0 ((((30 : Int32) * x1) + x5).toNatClampNeg) (h_i h a1 x5.toNatClampNeg)) Q) : wpx d P_Md_coversBy 206 [.ref r0, .int x1, .int x2, .int x3, .int x4, .int x5] [] h Q := by
  refine st_aload (pc' := 207) rfl rfl rfl ?_
  refine st_getfr (x := some a0) (Or.inl rfl) rfl hs0 rfl hr1 (pc' := 210) rfl ?_
  refine st_ipush (pc' := 212) (v := 30) rfl rfl (by decide) ?_
  refine st_iload (pc' := 213) rfl rfl rfl ?_
  refine st_imul (pc' := 214) rfl rfl ?_
  refine st_iload (pc' := 216) rfl rfl rfl ?_
  refine st_iadd (pc' := 217) rfl rfl ?_
  refine st_aload (pc' := 218) rfl rfl rfl ?_
  refine st_getfr (x := some a1) (Or.inl rfl) rfl hs0 rfl hr2 (pc' := 221) rfl ?_
  refine st_iload (pc' := 223) rfl rfl rfl ?_
  refine st_iaload rfl hs3 hb4 (j := x5.toNatClampNeg) rfl (pc' := 224) rfl ?_
  refine st_iastore rfl hs5 hb6 (j := (((30 : Int32) * x1) + x5).toNatClampNeg) rfl (pc' := 225) rfl ?_
  refine st_iinc (pc' := 228) (v := 1) (ls' := [.ref r0, .int x1, .int x2, .int x3, .int x4, .int (x5 + 1)]) rfl rfl rfl (by decide) rfl ?_
  exact st_goto rfl k
theorem B_Md_coversBy_231 {d : Nat} {h : PH} {Q : PQ} {r0 : Nat} {x1 : Int32} {x2 : Int32} {x3 : Int32} {x4 : Int32} {x5 : Int32} {a0 : Nat} {n1 : Nat} (hs0 : h_sh h r0 = some (0, 12)) (hr1 : h_r h r0 45 = some a0) (hs2 : h_sh h a0 = some (1, n1)) (hb3 : vp_in x1 n1) (k : wpx d P_Md_coversBy 241 [.ref r0, .int x1, .int x2, .int x3, .int x4, .int x5] [] (w_i h a0 x1.toNatClampNeg (h_i h r0 38)) Q) : wpx d P_Md_coversBy 231 [.ref r0, .int x1, .int x2, .int x3, .int x4, .int x5] [] h Q := by
  refine st_aload (pc' := 232) rfl rfl rfl ?_
  refine st_getfr (x := some a0) (Or.inl rfl) rfl hs0 rfl hr1 (pc' := 235) rfl ?_
  refine st_iload (pc' := 236) rfl rfl rfl ?_
  refine st_aload (pc' := 237) rfl rfl rfl ?_
  refine st_getfi (Or.inl rfl) rfl hs0 rfl (pc' := 240) rfl ?_
  refine st_iastore rfl hs2 hb3 (j := x1.toNatClampNeg) rfl (pc' := 241) rfl ?_
  exact k
theorem B_Md_coversBy_241 {d : Nat} {h : PH} {Q : PQ} {r0 : Nat} {x1 : Int32} {x2 : Int32} {x3 : Int32} {x4 : Int32} {x5 : Int32}  (k : Q none h) : wpx d P_Md_coversBy 241 [.ref r0, .int x1, .int x2, .int x3, .int x4, .int x5] [] h Q := by
  exact st_return rfl k
theorem B_Md_coversBy_167 {d : Nat} {h : PH} {Q : PQ} {r0 : Nat} {x1 : Int32} {x2 : Int32} {x3 : Int32} {x4 : Int32} {x5 : Int32}  (k : wpx d P_Md_coversBy 118 [.ref r0, .int x1, .int x2, .int x3, .int x4, .int (x5 + 1)] [] h Q) : wpx d P_Md_coversBy 167 [.ref r0, .int x1, .int x2, .int x3, .int x4, .int x5] [] h Q := by
  refine st_iinc (pc' := 170) (v := 1) (ls' := [.ref r0, .int x1, .int x2, .int x3, .int x4, .int (x5 + 1)]) rfl rfl rfl (by decide) rfl ?_
  exact st_goto rfl k
theorem B_Md_takesLeast_0 {d : Nat} {h : PH} {Q : PQ} {r0 : Nat} {v1 : Value} {a0 : Nat} (hs0 : h_sh h r0 = some (0, 12)) (hr1 : h_r h r0 46 = some a0) (k : wpm d 218 [.ref r0, .ref a0, .int 0, .int (h_i h r0 47)] h (fun r h' => wpx d P_Md_takesLeast 13 [.ref r0, v1] (r.toList ++ []) h' Q)) : wpx d P_Md_takesLeast 0 [.ref r0, v1] [] h Q := by
  refine st_aload (pc' := 1) rfl rfl rfl ?_
  refine st_aload (pc' := 2) rfl rfl rfl ?_
  refine st_getfr (x := some a0) (Or.inl rfl) rfl hs0 rfl hr1 (pc' := 5) rfl ?_
  refine st_ipush (pc' := 6) (v := 0) rfl rfl (by decide) ?_
  refine st_aload (pc' := 7) rfl rfl rfl ?_
  refine st_getfi (Or.inl rfl) rfl hs0 rfl (pc' := 10) rfl ?_
  exact st_call (pc' := 13) (as := [.ref r0, .ref a0, .int 0, .int (h_i h r0 47)]) (rest := []) rfl rfl (Nat.le_of_ble_eq_true rfl) rfl rfl (Nat.le_of_ble_eq_true rfl) (kd := 1) (o := 12) rfl rfl (beq_iff_eq.mpr hs0) k
theorem B_Md_takesLeast_13 {d : Nat} {h : PH} {Q : PQ} {r0 : Nat} {v1 : Value} {s0 : Int32}  (kt : s0 = 0 → wpx d P_Md_takesLeast 52 [.ref r0, v1] [] h Q) (kf : ¬ (s0 = 0) → wpx d P_Md_takesLeast 16 [.ref r0, v1] [] h Q) : wpx d P_Md_takesLeast 13 [.ref r0, v1] [.int s0] h Q := by
  exact st_if_eq (pc' := 16) rfl rfl kt kf
theorem B_Md_takesLeast_16 {d : Nat} {h : PH} {Q : PQ} {r0 : Nat} {v1 : Value}  (k : wpx d P_Md_takesLeast 18 [.ref r0, .int 0] [] h Q) : wpx d P_Md_takesLeast 16 [.ref r0, v1] [] h Q := by
  refine st_ipush (pc' := 17) (v := 0) rfl rfl (by decide) ?_
  refine st_istore (pc' := 18) (ls' := [.ref r0, .int 0]) rfl rfl (Nat.le_of_ble_eq_true rfl) rfl ?_
  exact k
theorem B_Md_takesLeast_18 {d : Nat} {h : PH} {Q : PQ} {r0 : Nat} {x1 : Int32} (hs0 : h_sh h r0 = some (0, 12)) (kt : (h_i h r0 38) ≤ x1 → wpx d P_Md_takesLeast 44 [.ref r0, .int x1] [] h Q) (kf : ¬ ((h_i h r0 38) ≤ x1) → wpx d P_Md_takesLeast 26 [.ref r0, .int x1] [] h Q) : wpx d P_Md_takesLeast 18 [.ref r0, .int x1] [] h Q := by
  refine st_iload (pc' := 19) rfl rfl rfl ?_
  refine st_aload (pc' := 20) rfl rfl rfl ?_
  refine st_getfi (Or.inl rfl) rfl hs0 rfl (pc' := 23) rfl ?_
  exact st_icmp_ge (pc' := 26) rfl rfl kt kf
theorem B_Md_takesLeast_26 {d : Nat} {h : PH} {Q : PQ} {r0 : Nat} {x1 : Int32} {a0 : Nat} {a1 : Nat} {n2 : Nat} {n3 : Nat} (hs0 : h_sh h r0 = some (0, 12)) (hr1 : h_r h r0 46 = some a0) (hr2 : h_r h r0 37 = some a1) (hs3 : h_sh h a1 = some (1, n2)) (hb4 : vp_in x1 n2) (hs5 : h_sh h a0 = some (1, n3)) (hb6 : vp_in x1 n3) (k : wpx d P_Md_takesLeast 18 [.ref r0, .int (x1 + 1)] [] (w_i h a0 x1.toNatClampNeg (h_i h a1 x1.toNatClampNeg)) Q) : wpx d P_Md_takesLeast 26 [.ref r0, .int x1] [] h Q := by
  refine st_aload (pc' := 27) rfl rfl rfl ?_
  refine st_getfr (x := some a0) (Or.inl rfl) rfl hs0 rfl hr1 (pc' := 30) rfl ?_
  refine st_iload (pc' := 31) rfl rfl rfl ?_
  refine st_aload (pc' := 32) rfl rfl rfl ?_
  refine st_getfr (x := some a1) (Or.inl rfl) rfl hs0 rfl hr2 (pc' := 35) rfl ?_
  refine st_iload (pc' := 36) rfl rfl rfl ?_
  refine st_iaload rfl hs3 hb4 (j := x1.toNatClampNeg) rfl (pc' := 37) rfl ?_
  refine st_iastore rfl hs5 hb6 (j := x1.toNatClampNeg) rfl (pc' := 38) rfl ?_
  refine st_iinc (pc' := 41) (v := 1) (ls' := [.ref r0, .int (x1 + 1)]) rfl rfl rfl (by decide) rfl ?_
  exact st_goto rfl k
theorem B_Md_takesLeast_44 {d : Nat} {h : PH} {Q : PQ} {r0 : Nat} {x1 : Int32} (hs0 : h_sh h r0 = some (0, 12)) (k : wpx d P_Md_takesLeast 52 [.ref r0, .int x1] [] (w_i h r0 47 (h_i h r0 38)) Q) : wpx d P_Md_takesLeast 44 [.ref r0, .int x1] [] h Q := by
  refine st_aload (pc' := 45) rfl rfl rfl ?_
  refine st_aload (pc' := 46) rfl rfl rfl ?_
  refine st_getfi (Or.inl rfl) rfl hs0 rfl (pc' := 49) rfl ?_
  refine st_putf (h' := w_i h r0 47 (h_i h r0 38)) (Or.inl rfl) rfl hs0 rfl rfl rfl (pc' := 52) rfl ?_
  exact k
theorem B_Md_takesLeast_52 {d : Nat} {h : PH} {Q : PQ} {r0 : Nat} {v1 : Value}  (k : Q none h) : wpx d P_Md_takesLeast 52 [.ref r0, v1] [] h Q := by
  exact st_return rfl k
theorem B_Md_foolsBy_0 {d : Nat} {h : PH} {Q : PQ} {r0 : Nat} {x1 : Int32} {x2 : Int32} {x3 : Int32} {v4 : Value} {v5 : Value}  (kt : ¬ (x1 = (2 : Int32)) → wpx d P_Md_foolsBy 11 [.ref r0, .int x1, .int x2, .int x3, v4, v5] [] h Q) (kf : x1 = (2 : Int32) → wpx d P_Md_foolsBy 5 [.ref r0, .int x1, .int x2, .int x3, v4, v5] [] h Q) : wpx d P_Md_foolsBy 0 [.ref r0, .int x1, .int x2, .int x3, v4, v5] [] h Q := by
  refine st_iload (pc' := 1) rfl rfl rfl ?_
  refine st_ipush (pc' := 2) (v := 2) rfl rfl (by decide) ?_
  exact st_icmp_ne (pc' := 5) rfl rfl kt kf
theorem B_Md_foolsBy_5 {d : Nat} {h : PH} {Q : PQ} {r0 : Nat} {x1 : Int32} {x2 : Int32} {x3 : Int32} {v4 : Value} {v5 : Value}  (kt : x3 ≤ x2 → wpx d P_Md_foolsBy 11 [.ref r0, .int x1, .int x2, .int x3, v4, v5] [] h Q) (kf : ¬ (x3 ≤ x2) → wpx d P_Md_foolsBy 10 [.ref r0, .int x1, .int x2, .int x3, v4, v5] [] h Q) : wpx d P_Md_foolsBy 5 [.ref r0, .int x1, .int x2, .int x3, v4, v5] [] h Q := by
  refine st_iload (pc' := 6) rfl rfl rfl ?_
  refine st_iload (pc' := 7) rfl rfl rfl ?_
  exact st_icmp_le (pc' := 10) rfl rfl kt kf
theorem B_Md_foolsBy_10 {d : Nat} {h : PH} {Q : PQ} {r0 : Nat} {x1 : Int32} {x2 : Int32} {x3 : Int32} {v4 : Value} {v5 : Value}  (k : Q none h) : wpx d P_Md_foolsBy 10 [.ref r0, .int x1, .int x2, .int x3, v4, v5] [] h Q := by
  exact st_return rfl k
theorem B_Md_foolsBy_11 {d : Nat} {h : PH} {Q : PQ} {r0 : Nat} {x1 : Int32} {x2 : Int32} {x3 : Int32} {v4 : Value} {v5 : Value}  (kt : x1 = 0 → wpx d P_Md_foolsBy 39 [.ref r0, .int x1, .int x2, .int x3, v4, v5] [] h Q) (kf : ¬ (x1 = 0) → wpx d P_Md_foolsBy 15 [.ref r0, .int x1, .int x2, .int x3, v4, v5] [] h Q) : wpx d P_Md_foolsBy 11 [.ref r0, .int x1, .int x2, .int x3, v4, v5] [] h Q := by
  refine st_iload (pc' := 12) rfl rfl rfl ?_
  exact st_if_eq (pc' := 15) rfl rfl kt kf
theorem B_Md_foolsBy_15 {d : Nat} {h : PH} {Q : PQ} {r0 : Nat} {x1 : Int32} {x2 : Int32} {x3 : Int32} {v4 : Value} {v5 : Value} (hs0 : h_sh h r0 = some (0, 12)) (k : wpm d 200 [.ref r0, .int x3, .int x2] h (fun r h' => wpx d P_Md_foolsBy 21 [.ref r0, .int x1, .int x2, .int x3, v4, v5] (r.toList ++ []) h' Q)) : wpx d P_Md_foolsBy 15 [.ref r0, .int x1, .int x2, .int x3, v4, v5] [] h Q := by
  refine st_aload (pc' := 16) rfl rfl rfl ?_
  refine st_iload (pc' := 17) rfl rfl rfl ?_
  refine st_iload (pc' := 18) rfl rfl rfl ?_
  exact st_call (pc' := 21) (as := [.ref r0, .int x3, .int x2]) (rest := []) rfl rfl (Nat.le_of_ble_eq_true rfl) rfl rfl (Nat.le_of_ble_eq_true rfl) (kd := 1) (o := 12) rfl rfl (beq_iff_eq.mpr hs0) k
theorem B_Md_foolsBy_21 {d : Nat} {h : PH} {Q : PQ} {r0 : Nat} {x1 : Int32} {x2 : Int32} {x3 : Int32} {v4 : Value} {v5 : Value} {s0 : Int32}  (kt : s0 = 0 → wpx d P_Md_foolsBy 39 [.ref r0, .int x1, .int x2, .int x3, v4, v5] [] h Q) (kf : ¬ (s0 = 0) → wpx d P_Md_foolsBy 24 [.ref r0, .int x1, .int x2, .int x3, v4, v5] [] h Q) : wpx d P_Md_foolsBy 21 [.ref r0, .int x1, .int x2, .int x3, v4, v5] [.int s0] h Q := by
  exact st_if_eq (pc' := 24) rfl rfl kt kf
theorem B_Md_foolsBy_24 {d : Nat} {h : PH} {Q : PQ} {r0 : Nat} {x1 : Int32} {x2 : Int32} {x3 : Int32} {v4 : Value} {v5 : Value} (hs0 : h_sh h r0 = some (0, 12)) (k : wpm d 217 [.ref r0, .int x2, .int 0] (w_i h r0 38 0) (fun r h' => wpx d P_Md_foolsBy 35 [.ref r0, .int x1, .int x2, .int x3, v4, v5] (r.toList ++ []) h' Q)) : wpx d P_Md_foolsBy 24 [.ref r0, .int x1, .int x2, .int x3, v4, v5] [] h Q := by
  refine st_aload (pc' := 25) rfl rfl rfl ?_
  refine st_ipush (pc' := 26) (v := 0) rfl rfl (by decide) ?_
  refine st_putf (h' := w_i h r0 38 0) (Or.inl rfl) rfl hs0 rfl rfl rfl (pc' := 29) rfl ?_
  refine st_aload (pc' := 30) rfl rfl rfl ?_
  refine st_iload (pc' := 31) rfl rfl rfl ?_
  refine st_ipush (pc' := 32) (v := 0) rfl rfl (by decide) ?_
  exact st_call (pc' := 35) (as := [.ref r0, .int x2, .int 0]) (rest := []) rfl rfl (Nat.le_of_ble_eq_true rfl) rfl rfl (Nat.le_of_ble_eq_true rfl) (kd := 1) (o := 12) rfl rfl (beq_iff_eq.mpr hs0) k
theorem B_Md_foolsBy_35 {d : Nat} {h : PH} {Q : PQ} {r0 : Nat} {x1 : Int32} {x2 : Int32} {x3 : Int32} {v4 : Value} {v5 : Value} (hs0 : h_sh h r0 = some (0, 12)) (k : wpm d 239 [.ref r0] h (fun r h' => wpx d P_Md_foolsBy 39 [.ref r0, .int x1, .int x2, .int x3, v4, v5] (r.toList ++ []) h' Q)) : wpx d P_Md_foolsBy 35 [.ref r0, .int x1, .int x2, .int x3, v4, v5] [] h Q := by
  refine st_aload (pc' := 36) rfl rfl rfl ?_
  exact st_call (pc' := 39) (as := [.ref r0]) (rest := []) rfl rfl (Nat.le_of_ble_eq_true rfl) rfl rfl (Nat.le_of_ble_eq_true rfl) (kd := 1) (o := 12) rfl rfl (beq_iff_eq.mpr hs0) k
theorem B_Md_foolsBy_39 {d : Nat} {h : PH} {Q : PQ} {r0 : Nat} {x1 : Int32} {x2 : Int32} {x3 : Int32} {v4 : Value} {v5 : Value}  (kt : x1 = (1 : Int32) → wpx d P_Md_foolsBy 149 [.ref r0, .int x1, .int x2, .int x3, v4, v5] [] h Q) (kf : ¬ (x1 = (1 : Int32)) → wpx d P_Md_foolsBy 44 [.ref r0, .int x1, .int x2, .int x3, v4, v5] [] h Q) : wpx d P_Md_foolsBy 39 [.ref r0, .int x1, .int x2, .int x3, v4, v5] [] h Q := by
  refine st_iload (pc' := 40) rfl rfl rfl ?_
  refine st_ipush (pc' := 41) (v := 1) rfl rfl (by decide) ?_
  exact st_icmp_eq (pc' := 44) rfl rfl kt kf
theorem B_Md_foolsBy_44 {d : Nat} {h : PH} {Q : PQ} {r0 : Nat} {x1 : Int32} {x2 : Int32} {x3 : Int32} {v4 : Value} {v5 : Value} (hs0 : h_sh h r0 = some (0, 12)) (k : wpm d 200 [.ref r0, .int x2, .int x3] h (fun r h' => wpx d P_Md_foolsBy 50 [.ref r0, .int x1, .int x2, .int x3, v4, v5] (r.toList ++ []) h' Q)) : wpx d P_Md_foolsBy 44 [.ref r0, .int x1, .int x2, .int x3, v4, v5] [] h Q := by
  refine st_aload (pc' := 45) rfl rfl rfl ?_
  refine st_iload (pc' := 46) rfl rfl rfl ?_
  refine st_iload (pc' := 47) rfl rfl rfl ?_
  exact st_call (pc' := 50) (as := [.ref r0, .int x2, .int x3]) (rest := []) rfl rfl (Nat.le_of_ble_eq_true rfl) rfl rfl (Nat.le_of_ble_eq_true rfl) (kd := 1) (o := 12) rfl rfl (beq_iff_eq.mpr hs0) k
theorem B_Md_foolsBy_50 {d : Nat} {h : PH} {Q : PQ} {r0 : Nat} {x1 : Int32} {x2 : Int32} {x3 : Int32} {v4 : Value} {v5 : Value} {s0 : Int32}  (kt : s0 = 0 → wpx d P_Md_foolsBy 149 [.ref r0, .int x1, .int x2, .int x3, v4, v5] [] h Q) (kf : ¬ (s0 = 0) → wpx d P_Md_foolsBy 53 [.ref r0, .int x1, .int x2, .int x3, v4, v5] [] h Q) : wpx d P_Md_foolsBy 50 [.ref r0, .int x1, .int x2, .int x3, v4, v5] [.int s0] h Q := by
  exact st_if_eq (pc' := 53) rfl rfl kt kf
theorem B_Md_foolsBy_53 {d : Nat} {h : PH} {Q : PQ} {r0 : Nat} {x1 : Int32} {x2 : Int32} {x3 : Int32} {v4 : Value} {v5 : Value} {a0 : Nat} {a1 : Nat} {n2 : Nat} {n3 : Nat} {a4 : Nat} {n5 : Nat} (hs0 : h_sh h r0 = some (0, 12)) (hr1 : h_r h r0 30 = some a0) (hr2 : h_r h r0 2 = some a1) (hs3 : h_sh h a1 = some (1, n2)) (hb4 : vp_in x2 n2) (hs5 : h_sh h a0 = some (1, n3)) (hb6 : vp_in (((8 : Int32) * x3) + (h_i h a1 x2.toNatClampNeg)) n3) (hr7 : h_r h r0 45 = some a4) (hs8 : h_sh h a4 = some (1, n5)) (hb9 : vp_in (h_i h a0 (((8 : Int32) * x3) + (h_i h a1 x2.toNatClampNeg)).toNatClampNeg) n5) (kt : (h_i h a4 (h_i h a0 (((8 : Int32) * x3) + (h_i h a1 x2.toNatClampNeg)).toNatClampNeg).toNatClampNeg) < 0 → wpx d P_Md_foolsBy 149 [.ref r0, .int x1, .int x2, .int x3, .int (h_i h a0 (((8 : Int32) * x3) + (h_i h a1 x2.toNatClampNeg)).toNatClampNeg), v5] [] h Q) (kf : ¬ ((h_i h a4 (h_i h a0 (((8 : Int32) * x3) + (h_i h a1 x2.toNatClampNeg)).toNatClampNeg).toNatClampNeg) < 0) → wpx d P_Md_foolsBy 81 [.ref r0, .int x1, .int x2, .int x3, .int (h_i h a0 (((8 : Int32) * x3) + (h_i h a1 x2.toNatClampNeg)).toNatClampNeg), v5] [] h Q) : wpx d P_Md_foolsBy 53 [.ref r0, .int x1, .int x2, .int x3, v4, v5] [] h Q := by
  refine st_aload (pc' := 54) rfl rfl rfl ?_
  refine st_getfr (x := some a0) (Or.inl rfl) rfl hs0 rfl hr1 (pc' := 57) rfl ?_
  refine st_ipush (pc' := 59) (v := 8) rfl rfl (by decide) ?_
  refine st_iload (pc' := 60) rfl rfl rfl ?_
  refine st_imul (pc' := 61) rfl rfl ?_
  refine st_aload (pc' := 62) rfl rfl rfl ?_
  refine st_getfr (x := some a1) (Or.inl rfl) rfl hs0 rfl hr2 (pc' := 65) rfl ?_
  refine st_iload (pc' := 66) rfl rfl rfl ?_
  refine st_iaload rfl hs3 hb4 (j := x2.toNatClampNeg) rfl (pc' := 67) rfl ?_
  refine st_iadd (pc' := 68) rfl rfl ?_
  refine st_iaload rfl hs5 hb6 (j := (((8 : Int32) * x3) + (h_i h a1 x2.toNatClampNeg)).toNatClampNeg) rfl (pc' := 69) rfl ?_
  refine st_istore (pc' := 71) (ls' := [.ref r0, .int x1, .int x2, .int x3, .int (h_i h a0 (((8 : Int32) * x3) + (h_i h a1 x2.toNatClampNeg)).toNatClampNeg), v5]) rfl rfl (Nat.le_of_ble_eq_true rfl) rfl ?_
  refine st_aload (pc' := 72) rfl rfl rfl ?_
  refine st_getfr (x := some a4) (Or.inl rfl) rfl hs0 rfl hr7 (pc' := 75) rfl ?_
  refine st_iload (pc' := 77) rfl rfl rfl ?_
  refine st_iaload rfl hs8 hb9 (j := (h_i h a0 (((8 : Int32) * x3) + (h_i h a1 x2.toNatClampNeg)).toNatClampNeg).toNatClampNeg) rfl (pc' := 78) rfl ?_
  exact st_if_lt (pc' := 81) rfl rfl kt kf
theorem B_Md_foolsBy_81 {d : Nat} {h : PH} {Q : PQ} {r0 : Nat} {x1 : Int32} {x2 : Int32} {x3 : Int32} {x4 : Int32} {v5 : Value} (hs0 : h_sh h r0 = some (0, 12)) (k : wpm d 217 [.ref r0, .int x2, .int 0] (w_i h r0 38 0) (fun r h' => wpx d P_Md_foolsBy 92 [.ref r0, .int x1, .int x2, .int x3, .int x4, v5] (r.toList ++ []) h' Q)) : wpx d P_Md_foolsBy 81 [.ref r0, .int x1, .int x2, .int x3, .int x4, v5] [] h Q := by
  refine st_aload (pc' := 82) rfl rfl rfl ?_
  refine st_ipush (pc' := 83) (v := 0) rfl rfl (by decide) ?_
  refine st_putf (h' := w_i h r0 38 0) (Or.inl rfl) rfl hs0 rfl rfl rfl (pc' := 86) rfl ?_
  refine st_aload (pc' := 87) rfl rfl rfl ?_
  refine st_iload (pc' := 88) rfl rfl rfl ?_
  refine st_ipush (pc' := 89) (v := 0) rfl rfl (by decide) ?_
  exact st_call (pc' := 92) (as := [.ref r0, .int x2, .int 0]) (rest := []) rfl rfl (Nat.le_of_ble_eq_true rfl) rfl rfl (Nat.le_of_ble_eq_true rfl) (kd := 1) (o := 12) rfl rfl (beq_iff_eq.mpr hs0) k
theorem B_Md_foolsBy_92 {d : Nat} {h : PH} {Q : PQ} {r0 : Nat} {x1 : Int32} {x2 : Int32} {x3 : Int32} {x4 : Int32} {v5 : Value}  (k : wpx d P_Md_foolsBy 95 [.ref r0, .int x1, .int x2, .int x3, .int x4, .int 0] [] h Q) : wpx d P_Md_foolsBy 92 [.ref r0, .int x1, .int x2, .int x3, .int x4, v5] [] h Q := by
  refine st_ipush (pc' := 93) (v := 0) rfl rfl (by decide) ?_
  refine st_istore (pc' := 95) (ls' := [.ref r0, .int x1, .int x2, .int x3, .int x4, .int 0]) rfl rfl (Nat.le_of_ble_eq_true rfl) rfl ?_
  exact k
theorem B_Md_foolsBy_95 {d : Nat} {h : PH} {Q : PQ} {r0 : Nat} {x1 : Int32} {x2 : Int32} {x3 : Int32} {x4 : Int32} {x5 : Int32} {a0 : Nat} {n1 : Nat} (hs0 : h_sh h r0 = some (0, 12)) (hr1 : h_r h r0 45 = some a0) (hs2 : h_sh h a0 = some (1, n1)) (hb3 : vp_in x4 n1) (kt : (h_i h a0 x4.toNatClampNeg) ≤ x5 → wpx d P_Md_foolsBy 145 [.ref r0, .int x1, .int x2, .int x3, .int x4, .int x5] [] h Q) (kf : ¬ ((h_i h a0 x4.toNatClampNeg) ≤ x5) → wpx d P_Md_foolsBy 107 [.ref r0, .int x1, .int x2, .int x3, .int x4, .int x5] [] h Q) : wpx d P_Md_foolsBy 95 [.ref r0, .int x1, .int x2, .int x3, .int x4, .int x5] [] h Q := by
  refine st_iload (pc' := 97) rfl rfl rfl ?_
  refine st_aload (pc' := 98) rfl rfl rfl ?_
  refine st_getfr (x := some a0) (Or.inl rfl) rfl hs0 rfl hr1 (pc' := 101) rfl ?_
  refine st_iload (pc' := 103) rfl rfl rfl ?_
  refine st_iaload rfl hs2 hb3 (j := x4.toNatClampNeg) rfl (pc' := 104) rfl ?_
  exact st_icmp_ge (pc' := 107) rfl rfl kt kf
theorem B_Md_foolsBy_107 {d : Nat} {h : PH} {Q : PQ} {r0 : Nat} {x1 : Int32} {x2 : Int32} {x3 : Int32} {x4 : Int32} {x5 : Int32} {a0 : Nat} {a1 : Nat} {n2 : Nat} {n3 : Nat} (hs0 : h_sh h r0 = some (0, 12)) (hr1 : h_r h r0 37 = some a0) (hr2 : h_r h r0 44 = some a1) (hs3 : h_sh h a1 = some (1, n2)) (hb4 : vp_in (((30 : Int32) * x4) + x5) n2) (hs5 : h_sh h a0 = some (1, n3)) (hb6 : vp_in (h_i h r0 38) n3) (k : wpx d P_Md_foolsBy 139 [.ref r0, .int x1, .int x2, .int x3, .int x4, .int x5] [] (w_i (w_i h a0 ((h_i h r0 38).toNatClampNeg) (h_i h a1 (((30 : Int32) * x4) + x5).toNatClampNeg)) r0 38 ((h_i (w_i h a0 ((h_i h r0 38).toNatClampNeg) (h_i h a1 (((30 : Int32) * x4) + x5).toNatClampNeg)) r0 38) + (1 : Int32))) Q) : wpx d P_Md_foolsBy 107 [.ref r0, .int x1, .int x2, .int x3, .int x4, .int x5] [] h Q := by
  refine st_aload (pc' := 108) rfl rfl rfl ?_
  refine st_getfr (x := some a0) (Or.inl rfl) rfl hs0 rfl hr1 (pc' := 111) rfl ?_
  refine st_aload (pc' := 112) rfl rfl rfl ?_
  refine st_getfi (Or.inl rfl) rfl hs0 rfl (pc' := 115) rfl ?_
  refine st_aload (pc' := 116) rfl rfl rfl ?_
  refine st_getfr (x := some a1) (Or.inl rfl) rfl hs0 rfl hr2 (pc' := 119) rfl ?_
  refine st_ipush (pc' := 121) (v := 30) rfl rfl (by decide) ?_
  refine st_iload (pc' := 123) rfl rfl rfl ?_
  refine st_imul (pc' := 124) rfl rfl ?_
  refine st_iload (pc' := 126) rfl rfl rfl ?_
  refine st_iadd (pc' := 127) rfl rfl ?_
  refine st_iaload rfl hs3 hb4 (j := (((30 : Int32) * x4) + x5).toNatClampNeg) rfl (pc' := 128) rfl ?_
  refine st_iastore rfl hs5 hb6 (j := (h_i h r0 38).toNatClampNeg) rfl (pc' := 129) rfl ?_
  refine st_aload (pc' := 130) rfl rfl rfl ?_
  refine st_dup (pc' := 131) rfl rfl rfl ?_
  refine st_getfi (Or.inl rfl) rfl hs0 rfl (pc' := 134) rfl ?_
  refine st_ipush (pc' := 135) (v := 1) rfl rfl (by decide) ?_
  refine st_iadd (pc' := 136) rfl rfl ?_
  refine st_putf (h' := w_i (w_i h a0 ((h_i h r0 38).toNatClampNeg) (h_i h a1 (((30 : Int32) * x4) + x5).toNatClampNeg)) r0 38 ((h_i (w_i h a0 ((h_i h r0 38).toNatClampNeg) (h_i h a1 (((30 : Int32) * x4) + x5).toNatClampNeg)) r0 38) + (1 : Int32))) (Or.inl rfl) rfl hs0 rfl rfl rfl (pc' := 139) rfl ?_
  exact k
theorem B_Md_foolsBy_145 {d : Nat} {h : PH} {Q : PQ} {r0 : Nat} {x1 : Int32} {x2 : Int32} {x3 : Int32} {x4 : Int32} {x5 : Int32} (hs0 : h_sh h r0 = some (0, 12)) (k : wpm d 239 [.ref r0] h (fun r h' => wpx d P_Md_foolsBy 149 [.ref r0, .int x1, .int x2, .int x3, .int x4, .int x5] (r.toList ++ []) h' Q)) : wpx d P_Md_foolsBy 145 [.ref r0, .int x1, .int x2, .int x3, .int x4, .int x5] [] h Q := by
  refine st_aload (pc' := 146) rfl rfl rfl ?_
  exact st_call (pc' := 149) (as := [.ref r0]) (rest := []) rfl rfl (Nat.le_of_ble_eq_true rfl) rfl rfl (Nat.le_of_ble_eq_true rfl) (kd := 1) (o := 12) rfl rfl (beq_iff_eq.mpr hs0) k
theorem B_Md_foolsBy_149 {d : Nat} {h : PH} {Q : PQ} {r0 : Nat} {x1 : Int32} {x2 : Int32} {x3 : Int32} {v4 : Value} {v5 : Value}  (k : Q none h) : wpx d P_Md_foolsBy 149 [.ref r0, .int x1, .int x2, .int x3, v4, v5] [] h Q := by
  exact st_return rfl k
theorem B_Md_foolsBy_139 {d : Nat} {h : PH} {Q : PQ} {r0 : Nat} {x1 : Int32} {x2 : Int32} {x3 : Int32} {x4 : Int32} {x5 : Int32}  (k : wpx d P_Md_foolsBy 95 [.ref r0, .int x1, .int x2, .int x3, .int x4, .int (x5 + 1)] [] h Q) : wpx d P_Md_foolsBy 139 [.ref r0, .int x1, .int x2, .int x3, .int x4, .int x5] [] h Q := by
  refine st_iinc (pc' := 142) (v := 1) (ls' := [.ref r0, .int x1, .int x2, .int x3, .int x4, .int (x5 + 1)]) rfl rfl rfl (by decide) rfl ?_
  exact st_goto rfl k
theorem B_Md_fool_0 {d : Nat} {h : PH} {Q : PQ} {r0 : Nat} {x1 : Int32} {v2 : Value} {v3 : Value} (hs0 : h_sh h r0 = some (0, 12)) (k : wpm d 170 [.int x1, .int 0, .int 2] (w_i h r0 0 0) (fun r h' => wpx d P_Md_fool 11 [.ref r0, .int x1, v2, v3] (r.toList ++ []) h' Q)) : wpx d P_Md_fool 0 [.ref r0, .int x1, v2, v3] [] h Q := by
  refine st_aload (pc' := 1) rfl rfl rfl ?_
  refine st_ipush (pc' := 2) (v := 0) rfl rfl (by decide) ?_
  refine st_putf (h' := w_i h r0 0 0) (Or.inl rfl) rfl hs0 rfl rfl rfl (pc' := 5) rfl ?_
  refine st_iload (pc' := 6) rfl rfl rfl ?_
  refine st_ipush (pc' := 7) (v := 0) rfl rfl (by decide) ?_
  refine st_ipush (pc' := 8) (v := 2) rfl rfl (by decide) ?_
  exact st_call (pc' := 11) (as := [.int x1, .int 0, .int 2]) (rest := []) rfl rfl (Nat.le_of_ble_eq_true rfl) rfl rfl (Nat.le_of_ble_eq_true rfl) (kd := 0) (o := 12) rfl rfl rfl k
theorem B_Md_fool_11 {d : Nat} {h : PH} {Q : PQ} {r0 : Nat} {x1 : Int32} {v2 : Value} {v3 : Value} {s0 : Int32}  (kt : ¬ (s0 = 0) → wpx d P_Md_fool 17 [.ref r0, .int x1, v2, v3] [] h Q) (kf : s0 = 0 → wpx d P_Md_fool 14 [.ref r0, .int x1, v2, v3] [] h Q) : wpx d P_Md_fool 11 [.ref r0, .int x1, v2, v3] [.int s0] h Q := by
  exact st_if_ne (pc' := 14) rfl rfl kt kf
theorem B_Md_fool_14 {d : Nat} {h : PH} {Q : PQ} {r0 : Nat} {x1 : Int32} {v2 : Value} {v3 : Value}  (k : Q (some (.int (-2))) h) : wpx d P_Md_fool 14 [.ref r0, .int x1, v2, v3] [] h Q := by
  refine st_ipush (pc' := 16) (v := (-2)) rfl rfl (by decide) ?_
  exact st_ireturn (ty := .int) rfl rfl rfl k
theorem B_Md_fool_17 {d : Nat} {h : PH} {Q : PQ} {r0 : Nat} {x1 : Int32} {v2 : Value} {v3 : Value} (hs0 : h_sh h r0 = some (0, 12)) (k : wpm d 211 [.ref r0] h (fun r h' => wpx d P_Md_fool 21 [.ref r0, .int x1, v2, v3] (r.toList ++ []) h' Q)) : wpx d P_Md_fool 17 [.ref r0, .int x1, v2, v3] [] h Q := by
  refine st_aload (pc' := 18) rfl rfl rfl ?_
  exact st_call (pc' := 21) (as := [.ref r0]) (rest := []) rfl rfl (Nat.le_of_ble_eq_true rfl) rfl rfl (Nat.le_of_ble_eq_true rfl) (kd := 1) (o := 12) rfl rfl (beq_iff_eq.mpr hs0) k
theorem B_Md_fool_21 {d : Nat} {h : PH} {Q : PQ} {r0 : Nat} {x1 : Int32} {v2 : Value} {v3 : Value} (hs0 : h_sh h r0 = some (0, 12)) (k : wpm d 237 [.ref r0] h (fun r h' => wpx d P_Md_fool 25 [.ref r0, .int x1, v2, v3] (r.toList ++ []) h' Q)) : wpx d P_Md_fool 21 [.ref r0, .int x1, v2, v3] [] h Q := by
  refine st_aload (pc' := 22) rfl rfl rfl ?_
  exact st_call (pc' := 25) (as := [.ref r0]) (rest := []) rfl rfl (Nat.le_of_ble_eq_true rfl) rfl rfl (Nat.le_of_ble_eq_true rfl) (kd := 1) (o := 12) rfl rfl (beq_iff_eq.mpr hs0) k
theorem B_Md_fool_25 {d : Nat} {h : PH} {Q : PQ} {r0 : Nat} {x1 : Int32} {v2 : Value} {v3 : Value} (hs0 : h_sh h r0 = some (0, 12)) (k : wpx d P_Md_fool 32 [.ref r0, .int x1, .int 0, v3] [] (w_i h r0 47 (-1)) Q) : wpx d P_Md_fool 25 [.ref r0, .int x1, v2, v3] [] h Q := by
  refine st_aload (pc' := 26) rfl rfl rfl ?_
  refine st_ipush (pc' := 27) (v := (-1)) rfl rfl (by decide) ?_
  refine st_putf (h' := w_i h r0 47 (-1)) (Or.inl rfl) rfl hs0 rfl rfl rfl (pc' := 30) rfl ?_
  refine st_ipush (pc' := 31) (v := 0) rfl rfl (by decide) ?_
  refine st_istore (pc' := 32) (ls' := [.ref r0, .int x1, .int 0, v3]) rfl rfl (Nat.le_of_ble_eq_true rfl) rfl ?_
  exact k
theorem B_Md_fool_32 {d : Nat} {h : PH} {Q : PQ} {r0 : Nat} {x1 : Int32} {x2 : Int32} {v3 : Value} (hs0 : h_sh h r0 = some (0, 12)) (kt : (h_i h r0 4) ≤ x2 → wpx d P_Md_fool 96 [.ref r0, .int x1, .int x2, v3] [] h Q) (kf : ¬ ((h_i h r0 4) ≤ x2) → wpx d P_Md_fool 40 [.ref r0, .int x1, .int x2, v3] [] h Q) : wpx d P_Md_fool 32 [.ref r0, .int x1, .int x2, v3] [] h Q := by
  refine st_iload (pc' := 33) rfl rfl rfl ?_
  refine st_aload (pc' := 34) rfl rfl rfl ?_
  refine st_getfi (Or.inl rfl) rfl hs0 rfl (pc' := 37) rfl ?_
  exact st_icmp_ge (pc' := 40) rfl rfl kt kf
theorem B_Md_fool_40 {d : Nat} {h : PH} {Q : PQ} {r0 : Nat} {x1 : Int32} {x2 : Int32} {v3 : Value}  (k : wpx d P_Md_fool 42 [.ref r0, .int x1, .int x2, .int 0] [] h Q) : wpx d P_Md_fool 40 [.ref r0, .int x1, .int x2, v3] [] h Q := by
  refine st_ipush (pc' := 41) (v := 0) rfl rfl (by decide) ?_
  refine st_istore (pc' := 42) (ls' := [.ref r0, .int x1, .int x2, .int 0]) rfl rfl (Nat.le_of_ble_eq_true rfl) rfl ?_
  exact k
theorem B_Md_fool_42 {d : Nat} {h : PH} {Q : PQ} {r0 : Nat} {x1 : Int32} {x2 : Int32} {x3 : Int32} (hs0 : h_sh h r0 = some (0, 12)) (kt : (h_i h r0 4) ≤ x3 → wpx d P_Md_fool 90 [.ref r0, .int x1, .int x2, .int x3] [] h Q) (kf : ¬ ((h_i h r0 4) ≤ x3) → wpx d P_Md_fool 50 [.ref r0, .int x1, .int x2, .int x3] [] h Q) : wpx d P_Md_fool 42 [.ref r0, .int x1, .int x2, .int x3] [] h Q := by
  refine st_iload (pc' := 43) rfl rfl rfl ?_
  refine st_aload (pc' := 44) rfl rfl rfl ?_
  refine st_getfi (Or.inl rfl) rfl hs0 rfl (pc' := 47) rfl ?_
  exact st_icmp_ge (pc' := 50) rfl rfl kt kf
theorem B_Md_fool_50 {d : Nat} {h : PH} {Q : PQ} {r0 : Nat} {x1 : Int32} {x2 : Int32} {x3 : Int32}  (kt : x2 = x3 → wpx d P_Md_fool 84 [.ref r0, .int x1, .int x2, .int x3] [] h Q) (kf : ¬ (x2 = x3) → wpx d P_Md_fool 55 [.ref r0, .int x1, .int x2, .int x3] [] h Q) : wpx d P_Md_fool 50 [.ref r0, .int x1, .int x2, .int x3] [] h Q := by
  refine st_iload (pc' := 51) rfl rfl rfl ?_
  refine st_iload (pc' := 52) rfl rfl rfl ?_
  exact st_icmp_eq (pc' := 55) rfl rfl kt kf
theorem B_Md_fool_55 {d : Nat} {h : PH} {Q : PQ} {r0 : Nat} {x1 : Int32} {x2 : Int32} {x3 : Int32} (hs0 : h_sh h r0 = some (0, 12)) (k : wpm d 171 [.int (h_i h r0 6), .int x2] h (fun r h' => wpx d P_Md_fool 63 [.ref r0, .int x1, .int x2, .int x3] (r.toList ++ []) h' Q)) : wpx d P_Md_fool 55 [.ref r0, .int x1, .int x2, .int x3] [] h Q := by
  refine st_aload (pc' := 56) rfl rfl rfl ?_
  refine st_getfi (Or.inl rfl) rfl hs0 rfl (pc' := 59) rfl ?_
  refine st_iload (pc' := 60) rfl rfl rfl ?_
  exact st_call (pc' := 63) (as := [.int (h_i h r0 6), .int x2]) (rest := []) rfl rfl (Nat.le_of_ble_eq_true rfl) rfl rfl (Nat.le_of_ble_eq_true rfl) (kd := 0) (o := 12) rfl rfl rfl k
theorem B_Md_fool_63 {d : Nat} {h : PH} {Q : PQ} {r0 : Nat} {x1 : Int32} {x2 : Int32} {x3 : Int32} {s0 : Int32}  (kt : s0 = 0 → wpx d P_Md_fool 84 [.ref r0, .int x1, .int x2, .int x3] [] h Q) (kf : ¬ (s0 = 0) → wpx d P_Md_fool 66 [.ref r0, .int x1, .int x2, .int x3] [] h Q) : wpx d P_Md_fool 63 [.ref r0, .int x1, .int x2, .int x3] [.int s0] h Q := by
  exact st_if_eq (pc' := 66) rfl rfl kt kf
theorem B_Md_fool_66 {d : Nat} {h : PH} {Q : PQ} {r0 : Nat} {x1 : Int32} {x2 : Int32} {x3 : Int32} (hs0 : h_sh h r0 = some (0, 12)) (k : wpm d 171 [.int (h_i h r0 6), .int x3] h (fun r h' => wpx d P_Md_fool 74 [.ref r0, .int x1, .int x2, .int x3] (r.toList ++ []) h' Q)) : wpx d P_Md_fool 66 [.ref r0, .int x1, .int x2, .int x3] [] h Q := by
  refine st_aload (pc' := 67) rfl rfl rfl ?_
  refine st_getfi (Or.inl rfl) rfl hs0 rfl (pc' := 70) rfl ?_
  refine st_iload (pc' := 71) rfl rfl rfl ?_
  exact st_call (pc' := 74) (as := [.int (h_i h r0 6), .int x3]) (rest := []) rfl rfl (Nat.le_of_ble_eq_true rfl) rfl rfl (Nat.le_of_ble_eq_true rfl) (kd := 0) (o := 12) rfl rfl rfl k
theorem B_Md_fool_74 {d : Nat} {h : PH} {Q : PQ} {r0 : Nat} {x1 : Int32} {x2 : Int32} {x3 : Int32} {s0 : Int32}  (kt : s0 = 0 → wpx d P_Md_fool 84 [.ref r0, .int x1, .int x2, .int x3] [] h Q) (kf : ¬ (s0 = 0) → wpx d P_Md_fool 77 [.ref r0, .int x1, .int x2, .int x3] [] h Q) : wpx d P_Md_fool 74 [.ref r0, .int x1, .int x2, .int x3] [.int s0] h Q := by
  exact st_if_eq (pc' := 77) rfl rfl kt kf
theorem B_Md_fool_77 {d : Nat} {h : PH} {Q : PQ} {r0 : Nat} {x1 : Int32} {x2 : Int32} {x3 : Int32} (hs0 : h_sh h r0 = some (0, 12)) (k : wpm d 240 [.ref r0, .int x1, .int x2, .int x3] h (fun r h' => wpx d P_Md_fool 84 [.ref r0, .int x1, .int x2, .int x3] (r.toList ++ []) h' Q)) : wpx d P_Md_fool 77 [.ref r0, .int x1, .int x2, .int x3] [] h Q := by
  refine st_aload (pc' := 78) rfl rfl rfl ?_
  refine st_iload (pc' := 79) rfl rfl rfl ?_
  refine st_iload (pc' := 80) rfl rfl rfl ?_
  refine st_iload (pc' := 81) rfl rfl rfl ?_
  exact st_call (pc' := 84) (as := [.ref r0, .int x1, .int x2, .int x3]) (rest := []) rfl rfl (Nat.le_of_ble_eq_true rfl) rfl rfl (Nat.le_of_ble_eq_true rfl) (kd := 1) (o := 12) rfl rfl (beq_iff_eq.mpr hs0) k
theorem B_Md_fool_84 {d : Nat} {h : PH} {Q : PQ} {r0 : Nat} {x1 : Int32} {x2 : Int32} {x3 : Int32}  (k : wpx d P_Md_fool 42 [.ref r0, .int x1, .int x2, .int (x3 + 1)] [] h Q) : wpx d P_Md_fool 84 [.ref r0, .int x1, .int x2, .int x3] [] h Q := by
  refine st_iinc (pc' := 87) (v := 1) (ls' := [.ref r0, .int x1, .int x2, .int (x3 + 1)]) rfl rfl rfl (by decide) rfl ?_
  exact st_goto rfl k
theorem B_Md_fool_90 {d : Nat} {h : PH} {Q : PQ} {r0 : Nat} {x1 : Int32} {x2 : Int32} {x3 : Int32}  (k : wpx d P_Md_fool 32 [.ref r0, .int x1, .int (x2 + 1), .int x3] [] h Q) : wpx d P_Md_fool 90 [.ref r0, .int x1, .int x2, .int x3] [] h Q := by
  refine st_iinc (pc' := 93) (v := 1) (ls' := [.ref r0, .int x1, .int (x2 + 1), .int x3]) rfl rfl rfl (by decide) rfl ?_
  exact st_goto rfl k
theorem B_Md_fool_96 {d : Nat} {h : PH} {Q : PQ} {r0 : Nat} {x1 : Int32} {x2 : Int32} {v3 : Value} (hs0 : h_sh h r0 = some (0, 12)) (kt : 0 ≤ (h_i h r0 47) → wpx d P_Md_fool 105 [.ref r0, .int x1, .int x2, v3] [] h Q) (kf : ¬ (0 ≤ (h_i h r0 47)) → wpx d P_Md_fool 103 [.ref r0, .int x1, .int x2, v3] [] h Q) : wpx d P_Md_fool 96 [.ref r0, .int x1, .int x2, v3] [] h Q := by
  refine st_aload (pc' := 97) rfl rfl rfl ?_
  refine st_getfi (Or.inl rfl) rfl hs0 rfl (pc' := 100) rfl ?_
  exact st_if_ge (pc' := 103) rfl rfl kt kf
theorem B_Md_fool_103 {d : Nat} {h : PH} {Q : PQ} {r0 : Nat} {x1 : Int32} {x2 : Int32} {v3 : Value}  (k : Q (some (.int (-1))) h) : wpx d P_Md_fool 103 [.ref r0, .int x1, .int x2, v3] [] h Q := by
  refine st_ipush (pc' := 104) (v := (-1)) rfl rfl (by decide) ?_
  exact st_ireturn (ty := .int) rfl rfl rfl k
theorem B_Md_fool_105 {d : Nat} {h : PH} {Q : PQ} {r0 : Nat} {x1 : Int32} {x2 : Int32} {v3 : Value} {a0 : Nat} (hs0 : h_sh h r0 = some (0, 12)) (hr1 : h_r h r0 46 = some a0) (k : wpm d 221 [.ref r0, .ref a0, .int 0, .int (h_i h r0 47)] h (fun r h' => wpx d P_Md_fool 118 [.ref r0, .int x1, .int x2, v3] (r.toList ++ []) h' Q)) : wpx d P_Md_fool 105 [.ref r0, .int x1, .int x2, v3] [] h Q := by
  refine st_aload (pc' := 106) rfl rfl rfl ?_
  refine st_aload (pc' := 107) rfl rfl rfl ?_
  refine st_getfr (x := some a0) (Or.inl rfl) rfl hs0 rfl hr1 (pc' := 110) rfl ?_
  refine st_ipush (pc' := 111) (v := 0) rfl rfl (by decide) ?_
  refine st_aload (pc' := 112) rfl rfl rfl ?_
  refine st_getfi (Or.inl rfl) rfl hs0 rfl (pc' := 115) rfl ?_
  exact st_call (pc' := 118) (as := [.ref r0, .ref a0, .int 0, .int (h_i h r0 47)]) (rest := []) rfl rfl (Nat.le_of_ble_eq_true rfl) rfl rfl (Nat.le_of_ble_eq_true rfl) (kd := 1) (o := 12) rfl rfl (beq_iff_eq.mpr hs0) k
theorem B_Md_fool_118 {d : Nat} {h : PH} {Q : PQ} {r0 : Nat} {x1 : Int32} {x2 : Int32} {v3 : Value} (hs0 : h_sh h r0 = some (0, 12)) (k : Q (some (.int (h_i h r0 24))) h) : wpx d P_Md_fool 118 [.ref r0, .int x1, .int x2, v3] [] h Q := by
  refine st_aload (pc' := 119) rfl rfl rfl ?_
  refine st_getfi (Or.inl rfl) rfl hs0 rfl (pc' := 122) rfl ?_
  exact st_ireturn (ty := .int) rfl rfl rfl k
theorem B_Md_goes_0 {d : Nat} {h : PH} {Q : PQ} {r0 : Nat} {v1 : Value} {v2 : Value} {v3 : Value} {v4 : Value} (hs0 : h_sh h r0 = some (0, 12)) (k : wpx d P_Md_goes 9 [.ref r0, .int 0, .int 0, v3, v4] [] (w_i h r0 0 0) Q) : wpx d P_Md_goes 0 [.ref r0, v1, v2, v3, v4] [] h Q := by
  refine st_aload (pc' := 1) rfl rfl rfl ?_
  refine st_ipush (pc' := 2) (v := 0) rfl rfl (by decide) ?_
  refine st_putf (h' := w_i h r0 0 0) (Or.inl rfl) rfl hs0 rfl rfl rfl (pc' := 5) rfl ?_
  refine st_ipush (pc' := 6) (v := 0) rfl rfl (by decide) ?_
  refine st_istore (pc' := 7) (ls' := [.ref r0, .int 0, v2, v3, v4]) rfl rfl (Nat.le_of_ble_eq_true rfl) rfl ?_
  refine st_ipush (pc' := 8) (v := 0) rfl rfl (by decide) ?_
  refine st_istore (pc' := 9) (ls' := [.ref r0, .int 0, .int 0, v3, v4]) rfl rfl (Nat.le_of_ble_eq_true rfl) rfl ?_
  exact k
theorem B_Md_goes_9 {d : Nat} {h : PH} {Q : PQ} {r0 : Nat} {x1 : Int32} {x2 : Int32} {v3 : Value} {v4 : Value} (hs0 : h_sh h r0 = some (0, 12)) (kt : (h_i h r0 24) < x2 → wpx d P_Md_goes 38 [.ref r0, .int x1, .int x2, v3, v4] [] h Q) (kf : ¬ ((h_i h r0 24) < x2) → wpx d P_Md_goes 17 [.ref r0, .int x1, .int x2, v3, v4] [] h Q) : wpx d P_Md_goes 9 [.ref r0, .int x1, .int x2, v3, v4] [] h Q := by
  refine st_iload (pc' := 10) rfl rfl rfl ?_
  refine st_aload (pc' := 11) rfl rfl rfl ?_
  refine st_getfi (Or.inl rfl) rfl hs0 rfl (pc' := 14) rfl ?_
  exact st_icmp_gt (pc' := 17) rfl rfl kt kf
theorem B_Md_goes_17 {d : Nat} {h : PH} {Q : PQ} {r0 : Nat} {x1 : Int32} {x2 : Int32} {v3 : Value} {v4 : Value} {a0 : Nat} (hs0 : h_sh h r0 = some (0, 12)) (hr1 : h_r h r0 48 = some a0) (kt : ¬ (x2 = 0) → wpx d P_Md_goes 30 [.ref r0, .int x1, .int x2, v3, v4] [.int x2, .ref a0] h Q) (kf : x2 = 0 → wpx d P_Md_goes 26 [.ref r0, .int x1, .int x2, v3, v4] [.int x2, .ref a0] h Q) : wpx d P_Md_goes 17 [.ref r0, .int x1, .int x2, v3, v4] [] h Q := by
  refine st_aload (pc' := 18) rfl rfl rfl ?_
  refine st_getfr (x := some a0) (Or.inl rfl) rfl hs0 rfl hr1 (pc' := 21) rfl ?_
  refine st_iload (pc' := 22) rfl rfl rfl ?_
  refine st_iload (pc' := 23) rfl rfl rfl ?_
  exact st_if_ne (pc' := 26) rfl rfl kt kf
theorem B_Md_goes_26 {d : Nat} {h : PH} {Q : PQ} {r0 : Nat} {x1 : Int32} {x2 : Int32} {v3 : Value} {v4 : Value} {q0 : Nat} {s1 : Int32}  (k : wpx d P_Md_goes 31 [.ref r0, .int x1, .int x2, v3, v4] [.int 1, .int s1, .ref q0] h Q) : wpx d P_Md_goes 26 [.ref r0, .int x1, .int x2, v3, v4] [.int s1, .ref q0] h Q := by
  refine st_ipush (pc' := 27) (v := 1) rfl rfl (by decide) ?_
  exact st_goto rfl k
theorem B_Md_goes_30 {d : Nat} {h : PH} {Q : PQ} {r0 : Nat} {x1 : Int32} {x2 : Int32} {v3 : Value} {v4 : Value} {q0 : Nat} {s1 : Int32}  (k : wpx d P_Md_goes 31 [.ref r0, .int x1, .int x2, v3, v4] [.int 0, .int s1, .ref q0] h Q) : wpx d P_Md_goes 30 [.ref r0, .int x1, .int x2, v3, v4] [.int s1, .ref q0] h Q := by
  refine st_ipush (pc' := 31) (v := 0) rfl rfl (by decide) ?_
  exact k
theorem B_Md_goes_31 {d : Nat} {h : PH} {Q : PQ} {r0 : Nat} {x1 : Int32} {x2 : Int32} {v3 : Value} {v4 : Value} {q0 : Nat} {s1 : Int32} {s2 : Int32} {n0 : Nat} (hs0 : h_sh h q0 = some (3, n0)) (hb1 : vp_in s1 n0) (k : wpx d P_Md_goes 9 [.ref r0, .int x1, .int (x2 + 1), v3, v4] [] (w_i h q0 s1.toNatClampNeg (s2 &&& 1)) Q) : wpx d P_Md_goes 31 [.ref r0, .int x1, .int x2, v3, v4] [.int s2, .int s1, .ref q0] h Q := by
  refine st_zastore rfl hs0 hb1 (j := s1.toNatClampNeg) rfl (pc' := 32) rfl ?_
  refine st_iinc (pc' := 35) (v := 1) (ls' := [.ref r0, .int x1, .int (x2 + 1), v3, v4]) rfl rfl rfl (by decide) rfl ?_
  exact st_goto rfl k
theorem B_Md_goes_38 {d : Nat} {h : PH} {Q : PQ} {r0 : Nat} {x1 : Int32} {x2 : Int32} {v3 : Value} {v4 : Value}  (k : wpx d P_Md_goes 40 [.ref r0, .int x1, .int 0, v3, v4] [] h Q) : wpx d P_Md_goes 38 [.ref r0, .int x1, .int x2, v3, v4] [] h Q := by
  refine st_ipush (pc' := 39) (v := 0) rfl rfl (by decide) ?_
  refine st_istore (pc' := 40) (ls' := [.ref r0, .int x1, .int 0, v3, v4]) rfl rfl (Nat.le_of_ble_eq_true rfl) rfl ?_
  exact k
theorem B_Md_goes_40 {d : Nat} {h : PH} {Q : PQ} {r0 : Nat} {x1 : Int32} {x2 : Int32} {v3 : Value} {v4 : Value} (hs0 : h_sh h r0 = some (0, 12)) (kt : (h_i h r0 24) ≤ x2 → wpx d P_Md_goes 183 [.ref r0, .int x1, .int x2, v3, v4] [] h Q) (kf : ¬ ((h_i h r0 24) ≤ x2) → wpx d P_Md_goes 48 [.ref r0, .int x1, .int x2, v3, v4] [] h Q) : wpx d P_Md_goes 40 [.ref r0, .int x1, .int x2, v3, v4] [] h Q := by
  refine st_iload (pc' := 41) rfl rfl rfl ?_
  refine st_aload (pc' := 42) rfl rfl rfl ?_
  refine st_getfi (Or.inl rfl) rfl hs0 rfl (pc' := 45) rfl ?_
  exact st_icmp_ge (pc' := 48) rfl rfl kt kf
theorem B_Md_goes_48 {d : Nat} {h : PH} {Q : PQ} {r0 : Nat} {x1 : Int32} {x2 : Int32} {v3 : Value} {v4 : Value}  (k : wpx d P_Md_goes 50 [.ref r0, .int x1, .int x2, .int 0, v4] [] h Q) : wpx d P_Md_goes 48 [.ref r0, .int x1, .int x2, v3, v4] [] h Q := by
  refine st_ipush (pc' := 49) (v := 0) rfl rfl (by decide) ?_
  refine st_istore (pc' := 50) (ls' := [.ref r0, .int x1, .int x2, .int 0, v4]) rfl rfl (Nat.le_of_ble_eq_true rfl) rfl ?_
  exact k
theorem B_Md_goes_50 {d : Nat} {h : PH} {Q : PQ} {r0 : Nat} {x1 : Int32} {x2 : Int32} {x3 : Int32} {v4 : Value} (hs0 : h_sh h r0 = some (0, 12)) (kt : (h_i h r0 4) ≤ x3 → wpx d P_Md_goes 177 [.ref r0, .int x1, .int x2, .int x3, v4] [] h Q) (kf : ¬ ((h_i h r0 4) ≤ x3) → wpx d P_Md_goes 58 [.ref r0, .int x1, .int x2, .int x3, v4] [] h Q) : wpx d P_Md_goes 50 [.ref r0, .int x1, .int x2, .int x3, v4] [] h Q := by
  refine st_iload (pc' := 51) rfl rfl rfl ?_
  refine st_aload (pc' := 52) rfl rfl rfl ?_
  refine st_getfi (Or.inl rfl) rfl hs0 rfl (pc' := 55) rfl ?_
  exact st_icmp_ge (pc' := 58) rfl rfl kt kf
theorem B_Md_goes_58 {d : Nat} {h : PH} {Q : PQ} {r0 : Nat} {x1 : Int32} {x2 : Int32} {x3 : Int32} {v4 : Value} {a0 : Nat} {n1 : Nat} (hs0 : h_sh h r0 = some (0, 12)) (hr1 : h_r h r0 48 = some a0) (hs2 : h_sh h a0 = some (3, n1)) (hb3 : vp_in x2 n1) (kt : (h_i h a0 x2.toNatClampNeg) = 0 → wpx d P_Md_goes 177 [.ref r0, .int x1, .int x2, .int x3, v4] [] h Q) (kf : ¬ ((h_i h a0 x2.toNatClampNeg) = 0) → wpx d P_Md_goes 67 [.ref r0, .int x1, .int x2, .int x3, v4] [] h Q) : wpx d P_Md_goes 58 [.ref r0, .int x1, .int x2, .int x3, v4] [] h Q := by
  refine st_aload (pc' := 59) rfl rfl rfl ?_
  refine st_getfr (x := some a0) (Or.inl rfl) rfl hs0 rfl hr1 (pc' := 62) rfl ?_
  refine st_iload (pc' := 63) rfl rfl rfl ?_
  refine st_baload rfl (Or.inr hs2) hb3 (j := x2.toNatClampNeg) rfl (pc' := 64) rfl ?_
  exact st_if_eq (pc' := 67) rfl rfl kt kf
theorem B_Md_goes_67 {d : Nat} {h : PH} {Q : PQ} {r0 : Nat} {x1 : Int32} {x2 : Int32} {x3 : Int32} {v4 : Value}  (k : wpx d P_Md_goes 70 [.ref r0, .int x1, .int x2, .int x3, .int 0] [] h Q) : wpx d P_Md_goes 67 [.ref r0, .int x1, .int x2, .int x3, v4] [] h Q := by
  refine st_ipush (pc' := 68) (v := 0) rfl rfl (by decide) ?_
  refine st_istore (pc' := 70) (ls' := [.ref r0, .int x1, .int x2, .int x3, .int 0]) rfl rfl (Nat.le_of_ble_eq_true rfl) rfl ?_
  exact k
theorem B_Md_goes_70 {d : Nat} {h : PH} {Q : PQ} {r0 : Nat} {x1 : Int32} {x2 : Int32} {x3 : Int32} {x4 : Int32} (hs0 : h_sh h r0 = some (0, 12)) (k : wpm d 171 [.int (h_i h r0 6), .int x3] h (fun r h' => wpx d P_Md_goes 78 [.ref r0, .int x1, .int x2, .int x3, .int x4] (r.toList ++ []) h' Q)) : wpx d P_Md_goes 70 [.ref r0, .int x1, .int x2, .int x3, .int x4] [] h Q := by
  refine st_aload (pc' := 71) rfl rfl rfl ?_
  refine st_getfi (Or.inl rfl) rfl hs0 rfl (pc' := 74) rfl ?_
  refine st_iload (pc' := 75) rfl rfl rfl ?_
  exact st_call (pc' := 78) (as := [.int (h_i h r0 6), .int x3]) (rest := []) rfl rfl (Nat.le_of_ble_eq_true rfl) rfl rfl (Nat.le_of_ble_eq_true rfl) (kd := 0) (o := 12) rfl rfl rfl k
theorem B_Md_goes_78 {d : Nat} {h : PH} {Q : PQ} {r0 : Nat} {x1 : Int32} {x2 : Int32} {x3 : Int32} {x4 : Int32} {s0 : Int32}  (kt : s0 = 0 → wpx d P_Md_goes 128 [.ref r0, .int x1, .int x2, .int x3, .int x4] [] h Q) (kf : ¬ (s0 = 0) → wpx d P_Md_goes 81 [.ref r0, .int x1, .int x2, .int x3, .int x4] [] h Q) : wpx d P_Md_goes 78 [.ref r0, .int x1, .int x2, .int x3, .int x4] [.int s0] h Q := by
  exact st_if_eq (pc' := 81) rfl rfl kt kf
theorem B_Md_goes_81 {d : Nat} {h : PH} {Q : PQ} {r0 : Nat} {x1 : Int32} {x2 : Int32} {x3 : Int32} {x4 : Int32} {a0 : Nat} {n1 : Nat} (hs0 : h_sh h r0 = some (0, 12)) (hr1 : h_r h r0 2 = some a0) (hs2 : h_sh h a0 = some (1, n1)) (hb3 : vp_in x3 n1) (kt : (h_i h a0 x3.toNatClampNeg) ≤ x4 → wpx d P_Md_goes 128 [.ref r0, .int x1, .int x2, .int x3, .int x4] [] h Q) (kf : ¬ ((h_i h a0 x3.toNatClampNeg) ≤ x4) → wpx d P_Md_goes 92 [.ref r0, .int x1, .int x2, .int x3, .int x4] [] h Q) : wpx d P_Md_goes 81 [.ref r0, .int x1, .int x2, .int x3, .int x4] [] h Q := by
  refine st_iload (pc' := 83) rfl rfl rfl ?_
  refine st_aload (pc' := 84) rfl rfl rfl ?_
  refine st_getfr (x := some a0) (Or.inl rfl) rfl hs0 rfl hr1 (pc' := 87) rfl ?_
  refine st_iload (pc' := 88) rfl rfl rfl ?_
  refine st_iaload rfl hs2 hb3 (j := x3.toNatClampNeg) rfl (pc' := 89) rfl ?_
  exact st_icmp_ge (pc' := 92) rfl rfl kt kf
theorem B_Md_goes_92 {d : Nat} {h : PH} {Q : PQ} {r0 : Nat} {x1 : Int32} {x2 : Int32} {x3 : Int32} {x4 : Int32} (hs0 : h_sh h r0 = some (0, 12)) (kt : (h_i h r0 24) ≤ (x2 + x4) → wpx d P_Md_goes 128 [.ref r0, .int x1, .int x2, .int x3, .int x4] [] h Q) (kf : ¬ ((h_i h r0 24) ≤ (x2 + x4)) → wpx d P_Md_goes 103 [.ref r0, .int x1, .int x2, .int x3, .int x4] [] h Q) : wpx d P_Md_goes 92 [.ref r0, .int x1, .int x2, .int x3, .int x4] [] h Q := by
  refine st_iload (pc' := 93) rfl rfl rfl ?_
  refine st_iload (pc' := 95) rfl rfl rfl ?_
  refine st_iadd (pc' := 96) rfl rfl ?_
  refine st_aload (pc' := 97) rfl rfl rfl ?_
  refine st_getfi (Or.inl rfl) rfl hs0 rfl (pc' := 100) rfl ?_
  exact st_icmp_ge (pc' := 103) rfl rfl kt kf
theorem B_Md_goes_103 {d : Nat} {h : PH} {Q : PQ} {r0 : Nat} {x1 : Int32} {x2 : Int32} {x3 : Int32} {x4 : Int32} {a0 : Nat} {n1 : Nat} (hs0 : h_sh h r0 = some (0, 12)) (hr1 : h_r h r0 23 = some a0) (hs2 : h_sh h a0 = some (1, n1)) (hb3 : vp_in (x2 + x4) n1) (k : wpm d 175 [.ref r0, .int x3, .int x4] h (fun r h' => wpx d P_Md_goes 119 [.ref r0, .int x1, .int x2, .int x3, .int x4] (r.toList ++ [.int (h_i h a0 (x2 + x4).toNatClampNeg)]) h' Q)) : wpx d P_Md_goes 103 [.ref r0, .int x1, .int x2, .int x3, .int x4] [] h Q := by
  refine st_aload (pc' := 104) rfl rfl rfl ?_
  refine st_getfr (x := some a0) (Or.inl rfl) rfl hs0 rfl hr1 (pc' := 107) rfl ?_
  refine st_iload (pc' := 108) rfl rfl rfl ?_
  refine st_iload (pc' := 110) rfl rfl rfl ?_
  refine st_iadd (pc' := 111) rfl rfl ?_
  refine st_iaload rfl hs2 hb3 (j := (x2 + x4).toNatClampNeg) rfl (pc' := 112) rfl ?_
  refine st_aload (pc' := 113) rfl rfl rfl ?_
  refine st_iload (pc' := 114) rfl rfl rfl ?_
  refine st_iload (pc' := 116) rfl rfl rfl ?_
  exact st_call (pc' := 119) (as := [.ref r0, .int x3, .int x4]) (rest := [.int (h_i h a0 (x2 + x4).toNatClampNeg)]) rfl rfl (Nat.le_of_ble_eq_true rfl) rfl rfl (Nat.le_of_ble_eq_true rfl) (kd := 1) (o := 12) rfl rfl (beq_iff_eq.mpr hs0) k
theorem B_Md_goes_119 {d : Nat} {h : PH} {Q : PQ} {r0 : Nat} {x1 : Int32} {x2 : Int32} {x3 : Int32} {x4 : Int32} {s0 : Int32} {s1 : Int32}  (kt : ¬ (s0 = s1) → wpx d P_Md_goes 128 [.ref r0, .int x1, .int x2, .int x3, .int x4] [] h Q) (kf : s0 = s1 → wpx d P_Md_goes 122 [.ref r0, .int x1, .int x2, .int x3, .int x4] [] h Q) : wpx d P_Md_goes 119 [.ref r0, .int x1, .int x2, .int x3, .int x4] [.int s1, .int s0] h Q := by
  exact st_icmp_ne (pc' := 122) rfl rfl kt kf
theorem B_Md_goes_122 {d : Nat} {h : PH} {Q : PQ} {r0 : Nat} {x1 : Int32} {x2 : Int32} {x3 : Int32} {x4 : Int32}  (k : wpx d P_Md_goes 70 [.ref r0, .int x1, .int x2, .int x3, .int (x4 + 1)] [] h Q) : wpx d P_Md_goes 122 [.ref r0, .int x1, .int x2, .int x3, .int x4] [] h Q := by
  refine st_iinc (pc' := 125) (v := 1) (ls' := [.ref r0, .int x1, .int x2, .int x3, .int (x4 + 1)]) rfl rfl rfl (by decide) rfl ?_
  exact st_goto rfl k
theorem B_Md_goes_128 {d : Nat} {h : PH} {Q : PQ} {r0 : Nat} {x1 : Int32} {x2 : Int32} {x3 : Int32} {x4 : Int32}  (kt : (x2 + x4) ≤ x1 → wpx d P_Md_goes 143 [.ref r0, .int x1, .int x2, .int x3, .int x4] [] h Q) (kf : ¬ ((x2 + x4) ≤ x1) → wpx d P_Md_goes 136 [.ref r0, .int x1, .int x2, .int x3, .int x4] [] h Q) : wpx d P_Md_goes 128 [.ref r0, .int x1, .int x2, .int x3, .int x4] [] h Q := by
  refine st_iload (pc' := 129) rfl rfl rfl ?_
  refine st_iload (pc' := 131) rfl rfl rfl ?_
  refine st_iadd (pc' := 132) rfl rfl ?_
  refine st_iload (pc' := 133) rfl rfl rfl ?_
  exact st_icmp_le (pc' := 136) rfl rfl kt kf
theorem B_Md_goes_136 {d : Nat} {h : PH} {Q : PQ} {r0 : Nat} {x1 : Int32} {x2 : Int32} {x3 : Int32} {x4 : Int32}  (k : wpx d P_Md_goes 144 [.ref r0, .int x1, .int x2, .int x3, .int x4] [.int (x2 + x4)] h Q) : wpx d P_Md_goes 136 [.ref r0, .int x1, .int x2, .int x3, .int x4] [] h Q := by
  refine st_iload (pc' := 137) rfl rfl rfl ?_
  refine st_iload (pc' := 139) rfl rfl rfl ?_
  refine st_iadd (pc' := 140) rfl rfl ?_
  exact st_goto rfl k
theorem B_Md_goes_143 {d : Nat} {h : PH} {Q : PQ} {r0 : Nat} {x1 : Int32} {x2 : Int32} {x3 : Int32} {x4 : Int32}  (k : wpx d P_Md_goes 144 [.ref r0, .int x1, .int x2, .int x3, .int x4] [.int x1] h Q) : wpx d P_Md_goes 143 [.ref r0, .int x1, .int x2, .int x3, .int x4] [] h Q := by
  refine st_iload (pc' := 144) rfl rfl rfl ?_
  exact k
theorem B_Md_goes_144 {d : Nat} {h : PH} {Q : PQ} {r0 : Nat} {x1 : Int32} {x2 : Int32} {x3 : Int32} {x4 : Int32} {s0 : Int32}  (kt : x4 ≤ 0 → wpx d P_Md_goes 171 [.ref r0, .int s0, .int x2, .int x3, .int x4] [] h Q) (kf : ¬ (x4 ≤ 0) → wpx d P_Md_goes 150 [.ref r0, .int s0, .int x2, .int x3, .int x4] [] h Q) : wpx d P_Md_goes 144 [.ref r0, .int x1, .int x2, .int x3, .int x4] [.int s0] h Q := by
  refine st_istore (pc' := 145) (ls' := [.ref r0, .int s0, .int x2, .int x3, .int x4]) rfl rfl (Nat.le_of_ble_eq_true rfl) rfl ?_
  refine st_iload (pc' := 147) rfl rfl rfl ?_
  exact st_if_le (pc' := 150) rfl rfl kt kf
theorem B_Md_goes_150 {d : Nat} {h : PH} {Q : PQ} {r0 : Nat} {x1 : Int32} {x2 : Int32} {x3 : Int32} {x4 : Int32} {a0 : Nat} {n1 : Nat} (hs0 : h_sh h r0 = some (0, 12)) (hr1 : h_r h r0 2 = some a0) (hs2 : h_sh h a0 = some (1, n1)) (hb3 : vp_in x3 n1) (kt : ¬ (x4 = (h_i h a0 x3.toNatClampNeg)) → wpx d P_Md_goes 171 [.ref r0, .int x1, .int x2, .int x3, .int x4] [] h Q) (kf : x4 = (h_i h a0 x3.toNatClampNeg) → wpx d P_Md_goes 161 [.ref r0, .int x1, .int x2, .int x3, .int x4] [] h Q) : wpx d P_Md_goes 150 [.ref r0, .int x1, .int x2, .int x3, .int x4] [] h Q := by
  refine st_iload (pc' := 152) rfl rfl rfl ?_
  refine st_aload (pc' := 153) rfl rfl rfl ?_
  refine st_getfr (x := some a0) (Or.inl rfl) rfl hs0 rfl hr1 (pc' := 156) rfl ?_
  refine st_iload (pc' := 157) rfl rfl rfl ?_
  refine st_iaload rfl hs2 hb3 (j := x3.toNatClampNeg) rfl (pc' := 158) rfl ?_
  exact st_icmp_ne (pc' := 161) rfl rfl kt kf
theorem B_Md_goes_161 {d : Nat} {h : PH} {Q : PQ} {r0 : Nat} {x1 : Int32} {x2 : Int32} {x3 : Int32} {x4 : Int32} {a0 : Nat} {n1 : Nat} (hs0 : h_sh h r0 = some (0, 12)) (hr1 : h_r h r0 48 = some a0) (hs2 : h_sh h a0 = some (3, n1)) (hb3 : vp_in (x2 + x4) n1) (k : wpx d P_Md_goes 171 [.ref r0, .int x1, .int x2, .int x3, .int x4] [] (w_i h a0 ((x2 + x4).toNatClampNeg) ((1 : Int32) &&& 1)) Q) : wpx d P_Md_goes 161 [.ref r0, .int x1, .int x2, .int x3, .int x4] [] h Q := by
  refine st_aload (pc' := 162) rfl rfl rfl ?_
  refine st_getfr (x := some a0) (Or.inl rfl) rfl hs0 rfl hr1 (pc' := 165) rfl ?_
  refine st_iload (pc' := 166) rfl rfl rfl ?_
  refine st_iload (pc' := 168) rfl rfl rfl ?_
  refine st_iadd (pc' := 169) rfl rfl ?_
  refine st_ipush (pc' := 170) (v := 1) rfl rfl (by decide) ?_
  refine st_zastore rfl hs2 hb3 (j := (x2 + x4).toNatClampNeg) rfl (pc' := 171) rfl ?_
  exact k
theorem B_Md_goes_171 {d : Nat} {h : PH} {Q : PQ} {r0 : Nat} {x1 : Int32} {x2 : Int32} {x3 : Int32} {x4 : Int32}  (k : wpx d P_Md_goes 50 [.ref r0, .int x1, .int x2, .int (x3 + 1), .int x4] [] h Q) : wpx d P_Md_goes 171 [.ref r0, .int x1, .int x2, .int x3, .int x4] [] h Q := by
  refine st_iinc (pc' := 174) (v := 1) (ls' := [.ref r0, .int x1, .int x2, .int (x3 + 1), .int x4]) rfl rfl rfl (by decide) rfl ?_
  exact st_goto rfl k
theorem B_Md_goes_177 {d : Nat} {h : PH} {Q : PQ} {r0 : Nat} {x1 : Int32} {x2 : Int32} {x3 : Int32} {v4 : Value}  (k : wpx d P_Md_goes 40 [.ref r0, .int x1, .int (x2 + 1), .int x3, v4] [] h Q) : wpx d P_Md_goes 177 [.ref r0, .int x1, .int x2, .int x3, v4] [] h Q := by
  refine st_iinc (pc' := 180) (v := 1) (ls' := [.ref r0, .int x1, .int (x2 + 1), .int x3, v4]) rfl rfl rfl (by decide) rfl ?_
  exact st_goto rfl k
theorem B_Md_goes_183 {d : Nat} {h : PH} {Q : PQ} {r0 : Nat} {x1 : Int32} {x2 : Int32} {v3 : Value} {v4 : Value}  (k : Q (some (.int x1)) h) : wpx d P_Md_goes 183 [.ref r0, .int x1, .int x2, v3, v4] [] h Q := by
  refine st_iload (pc' := 184) rfl rfl rfl ?_
  exact st_ireturn (ty := .int) rfl rfl rfl k
theorem B_Md_isSpelling_0 {d : Nat} {h : PH} {Q : PQ} {r0 : Nat} {x1 : Int32} {v2 : Value} (hs0 : h_sh h r0 = some (0, 12)) (k : wpx d P_Md_isSpelling 7 [.ref r0, .int x1, .int 0] [] (w_i h r0 38 0) Q) : wpx d P_Md_isSpelling 0 [.ref r0, .int x1, v2] [] h Q := by
  refine st_aload (pc' := 1) rfl rfl rfl ?_
  refine st_ipush (pc' := 2) (v := 0) rfl rfl (by decide) ?_
  refine st_putf (h' := w_i h r0 38 0) (Or.inl rfl) rfl hs0 rfl rfl rfl (pc' := 5) rfl ?_
  refine st_ipush (pc' := 6) (v := 0) rfl rfl (by decide) ?_
  refine st_istore (pc' := 7) (ls' := [.ref r0, .int x1, .int 0]) rfl rfl (Nat.le_of_ble_eq_true rfl) rfl ?_
  exact k
theorem B_Md_isSpelling_7 {d : Nat} {h : PH} {Q : PQ} {r0 : Nat} {x1 : Int32} {x2 : Int32}  (kt : x1 ≤ x2 → wpx d P_Md_isSpelling 29 [.ref r0, .int x1, .int x2] [] h Q) (kf : ¬ (x1 ≤ x2) → wpx d P_Md_isSpelling 12 [.ref r0, .int x1, .int x2] [] h Q) : wpx d P_Md_isSpelling 7 [.ref r0, .int x1, .int x2] [] h Q := by
  refine st_iload (pc' := 8) rfl rfl rfl ?_
  refine st_iload (pc' := 9) rfl rfl rfl ?_
  exact st_icmp_ge (pc' := 12) rfl rfl kt kf
theorem B_Md_isSpelling_12 {d : Nat} {h : PH} {Q : PQ} {r0 : Nat} {x1 : Int32} {x2 : Int32} {a0 : Nat} {n1 : Nat} (hs0 : h_sh h r0 = some (0, 12)) (hr1 : h_r h r0 50 = some a0) (hs2 : h_sh h a0 = some (1, n1)) (hb3 : vp_in x2 n1) (k : wpm d 217 [.ref r0, .int (h_i h a0 x2.toNatClampNeg), .int 0] h (fun r h' => wpx d P_Md_isSpelling 23 [.ref r0, .int x1, .int x2] (r.toList ++ []) h' Q)) : wpx d P_Md_isSpelling 12 [.ref r0, .int x1, .int x2] [] h Q := by
  refine st_aload (pc' := 13) rfl rfl rfl ?_
  refine st_aload (pc' := 14) rfl rfl rfl ?_
  refine st_getfr (x := some a0) (Or.inl rfl) rfl hs0 rfl hr1 (pc' := 17) rfl ?_
  refine st_iload (pc' := 18) rfl rfl rfl ?_
  refine st_iaload rfl hs2 hb3 (j := x2.toNatClampNeg) rfl (pc' := 19) rfl ?_
  refine st_ipush (pc' := 20) (v := 0) rfl rfl (by decide) ?_
  exact st_call (pc' := 23) (as := [.ref r0, .int (h_i h a0 x2.toNatClampNeg), .int 0]) (rest := []) rfl rfl (Nat.le_of_ble_eq_true rfl) rfl rfl (Nat.le_of_ble_eq_true rfl) (kd := 1) (o := 12) rfl rfl (beq_iff_eq.mpr hs0) k
theorem B_Md_isSpelling_23 {d : Nat} {h : PH} {Q : PQ} {r0 : Nat} {x1 : Int32} {x2 : Int32}  (k : wpx d P_Md_isSpelling 7 [.ref r0, .int x1, .int (x2 + 1)] [] h Q) : wpx d P_Md_isSpelling 23 [.ref r0, .int x1, .int x2] [] h Q := by
  refine st_iinc (pc' := 26) (v := 1) (ls' := [.ref r0, .int x1, .int (x2 + 1)]) rfl rfl rfl (by decide) rfl ?_
  exact st_goto rfl k
theorem B_Md_isSpelling_29 {d : Nat} {h : PH} {Q : PQ} {r0 : Nat} {x1 : Int32} {x2 : Int32} (hs0 : h_sh h r0 = some (0, 12)) (kt : (h_i h r0 47) < 0 → wpx d P_Md_isSpelling 49 [.ref r0, .int x1, .int x2] [] h Q) (kf : ¬ ((h_i h r0 47) < 0) → wpx d P_Md_isSpelling 36 [.ref r0, .int x1, .int x2] [] h Q) : wpx d P_Md_isSpelling 29 [.ref r0, .int x1, .int x2] [] h Q := by
  refine st_aload (pc' := 30) rfl rfl rfl ?_
  refine st_getfi (Or.inl rfl) rfl hs0 rfl (pc' := 33) rfl ?_
  exact st_if_lt (pc' := 36) rfl rfl kt kf
theorem B_Md_isSpelling_36 {d : Nat} {h : PH} {Q : PQ} {r0 : Nat} {x1 : Int32} {x2 : Int32} (hs0 : h_sh h r0 = some (0, 12)) (kt : (h_i h r0 38) < (h_i h r0 47) → wpx d P_Md_isSpelling 49 [.ref r0, .int x1, .int x2] [] h Q) (kf : ¬ ((h_i h r0 38) < (h_i h r0 47)) → wpx d P_Md_isSpelling 47 [.ref r0, .int x1, .int x2] [] h Q) : wpx d P_Md_isSpelling 36 [.ref r0, .int x1, .int x2] [] h Q := by
  refine st_aload (pc' := 37) rfl rfl rfl ?_
  refine st_getfi (Or.inl rfl) rfl hs0 rfl (pc' := 40) rfl ?_
  refine st_aload (pc' := 41) rfl rfl rfl ?_
  refine st_getfi (Or.inl rfl) rfl hs0 rfl (pc' := 44) rfl ?_
  exact st_icmp_lt (pc' := 47) rfl rfl kt kf
theorem B_Md_isSpelling_47 {d : Nat} {h : PH} {Q : PQ} {r0 : Nat} {x1 : Int32} {x2 : Int32}  (k : Q (some (.int 0)) h) : wpx d P_Md_isSpelling 47 [.ref r0, .int x1, .int x2] [] h Q := by
  refine st_ipush (pc' := 48) (v := 0) rfl rfl (by decide) ?_
  exact st_ireturn (ty := .boolean) rfl rfl (by decide) k
theorem B_Md_isSpelling_49 {d : Nat} {h : PH} {Q : PQ} {r0 : Nat} {x1 : Int32} {x2 : Int32} {a0 : Nat} (hs0 : h_sh h r0 = some (0, 12)) (hr1 : h_r h r0 37 = some a0) (k : wpm d 227 [.ref r0, .ref a0, .int (h_i h r0 38)] h (fun r h' => wpx d P_Md_isSpelling 61 [.ref r0, .int x1, .int x2] (r.toList ++ []) h' Q)) : wpx d P_Md_isSpelling 49 [.ref r0, .int x1, .int x2] [] h Q := by
  refine st_aload (pc' := 50) rfl rfl rfl ?_
  refine st_aload (pc' := 51) rfl rfl rfl ?_
  refine st_getfr (x := some a0) (Or.inl rfl) rfl hs0 rfl hr1 (pc' := 54) rfl ?_
  refine st_aload (pc' := 55) rfl rfl rfl ?_
  refine st_getfi (Or.inl rfl) rfl hs0 rfl (pc' := 58) rfl ?_
  exact st_call (pc' := 61) (as := [.ref r0, .ref a0, .int (h_i h r0 38)]) (rest := []) rfl rfl (Nat.le_of_ble_eq_true rfl) rfl rfl (Nat.le_of_ble_eq_true rfl) (kd := 1) (o := 12) rfl rfl (beq_iff_eq.mpr hs0) k
theorem B_Md_isSpelling_61 {d : Nat} {h : PH} {Q : PQ} {r0 : Nat} {x1 : Int32} {x2 : Int32} {a0 : Nat} {n1 : Nat} (hs0 : h_sh h r0 = some (0, 12)) (hr1 : h_r h r0 40 = some a0) (hs2 : h_sh h a0 = some (4, n1)) (hb3 : vp_in 0 n1) (kt : ¬ ((lg_cmp (h_l h a0 0) (1 : Int64)) = 0) → wpx d P_Md_isSpelling 76 [.ref r0, .int x1, .int x2] [] h Q) (kf : (lg_cmp (h_l h a0 0) (1 : Int64)) = 0 → wpx d P_Md_isSpelling 72 [.ref r0, .int x1, .int x2] [] h Q) : wpx d P_Md_isSpelling 61 [.ref r0, .int x1, .int x2] [] h Q := by
  refine st_aload (pc' := 62) rfl rfl rfl ?_
  refine st_getfr (x := some a0) (Or.inl rfl) rfl hs0 rfl hr1 (pc' := 65) rfl ?_
  refine st_ipush (pc' := 66) (v := 0) rfl rfl (by decide) ?_
  refine st_laload rfl hs2 hb3 (j := 0) (by decide) (pc' := 67) rfl ?_
  refine st_lpush (pc' := 68) (v := 1) rfl rfl (by decide) ?_
  refine st_lcmp (pc' := 69) rfl rfl ?_
  exact st_if_ne (pc' := 72) rfl rfl kt kf
theorem B_Md_isSpelling_72 {d : Nat} {h : PH} {Q : PQ} {r0 : Nat} {x1 : Int32} {x2 : Int32}  (k : wpx d P_Md_isSpelling 77 [.ref r0, .int x1, .int x2] [.int 1] h Q) : wpx d P_Md_isSpelling 72 [.ref r0, .int x1, .int x2] [] h Q := by
  refine st_ipush (pc' := 73) (v := 1) rfl rfl (by decide) ?_
  exact st_goto rfl k
theorem B_Md_isSpelling_76 {d : Nat} {h : PH} {Q : PQ} {r0 : Nat} {x1 : Int32} {x2 : Int32}  (k : wpx d P_Md_isSpelling 77 [.ref r0, .int x1, .int x2] [.int 0] h Q) : wpx d P_Md_isSpelling 76 [.ref r0, .int x1, .int x2] [] h Q := by
  refine st_ipush (pc' := 77) (v := 0) rfl rfl (by decide) ?_
  exact k
theorem B_Md_isSpelling_77 {d : Nat} {h : PH} {Q : PQ} {r0 : Nat} {x1 : Int32} {x2 : Int32} {s0 : Int32} (hz0 : narrow .boolean (.int s0) = .int s0) (k : Q (some (.int s0)) h) : wpx d P_Md_isSpelling 77 [.ref r0, .int x1, .int x2] [.int s0] h Q := by
  exact st_ireturn (ty := .boolean) rfl rfl hz0 k
theorem B_Md_ofSound_0 {d : Nat} {h : PH} {Q : PQ} {r0 : Nat} {x1 : Int32} {x2 : Int32} {v3 : Value}  (k : wpx d P_Md_ofSound 2 [.ref r0, .int x1, .int x2, .int x2] [] h Q) : wpx d P_Md_ofSound 0 [.ref r0, .int x1, .int x2, v3] [] h Q := by
  refine st_iload (pc' := 1) rfl rfl rfl ?_
  refine st_istore (pc' := 2) (ls' := [.ref r0, .int x1, .int x2, .int x2]) rfl rfl (Nat.le_of_ble_eq_true rfl) rfl ?_
  exact k
theorem B_Md_ofSound_2 {d : Nat} {h : PH} {Q : PQ} {r0 : Nat} {x1 : Int32} {x2 : Int32} {x3 : Int32} (hs0 : h_sh h r0 = some (0, 12)) (kt : (h_i h r0 4) ≤ x3 → wpx d P_Md_ofSound 44 [.ref r0, .int x1, .int x2, .int x3] [] h Q) (kf : ¬ ((h_i h r0 4) ≤ x3) → wpx d P_Md_ofSound 10 [.ref r0, .int x1, .int x2, .int x3] [] h Q) : wpx d P_Md_ofSound 2 [.ref r0, .int x1, .int x2, .int x3] [] h Q := by
  refine st_iload (pc' := 3) rfl rfl rfl ?_
  refine st_aload (pc' := 4) rfl rfl rfl ?_
  refine st_getfi (Or.inl rfl) rfl hs0 rfl (pc' := 7) rfl ?_
  exact st_icmp_ge (pc' := 10) rfl rfl kt kf
theorem B_Md_ofSound_10 {d : Nat} {h : PH} {Q : PQ} {r0 : Nat} {x1 : Int32} {x2 : Int32} {x3 : Int32} (hs0 : h_sh h r0 = some (0, 12)) (k : wpm d 171 [.int (h_i h r0 6), .int x3] h (fun r h' => wpx d P_Md_ofSound 18 [.ref r0, .int x1, .int x2, .int x3] (r.toList ++ []) h' Q)) : wpx d P_Md_ofSound 10 [.ref r0, .int x1, .int x2, .int x3] [] h Q := by
  refine st_aload (pc' := 11) rfl rfl rfl ?_
  refine st_getfi (Or.inl rfl) rfl hs0 rfl (pc' := 14) rfl ?_
  refine st_iload (pc' := 15) rfl rfl rfl ?_
  exact st_call (pc' := 18) (as := [.int (h_i h r0 6), .int x3]) (rest := []) rfl rfl (Nat.le_of_ble_eq_true rfl) rfl rfl (Nat.le_of_ble_eq_true rfl) (kd := 0) (o := 12) rfl rfl rfl k
theorem B_Md_ofSound_18 {d : Nat} {h : PH} {Q : PQ} {r0 : Nat} {x1 : Int32} {x2 : Int32} {x3 : Int32} {s0 : Int32}  (kt : s0 = 0 → wpx d P_Md_ofSound 38 [.ref r0, .int x1, .int x2, .int x3] [] h Q) (kf : ¬ (s0 = 0) → wpx d P_Md_ofSound 21 [.ref r0, .int x1, .int x2, .int x3] [] h Q) : wpx d P_Md_ofSound 18 [.ref r0, .int x1, .int x2, .int x3] [.int s0] h Q := by
  exact st_if_eq (pc' := 21) rfl rfl kt kf
theorem B_Md_ofSound_21 {d : Nat} {h : PH} {Q : PQ} {r0 : Nat} {x1 : Int32} {x2 : Int32} {x3 : Int32} {a0 : Nat} {n1 : Nat} {a2 : Nat} {n3 : Nat} (hs0 : h_sh h r0 = some (0, 12)) (hr1 : h_r h r0 3 = some a0) (hs2 : h_sh h a0 = some (1, n1)) (hb3 : vp_in x3 n1) (hr4 : h_r h r0 49 = some a2) (hs5 : h_sh h a2 = some (1, n3)) (hb6 : vp_in x1 n3) (kt : ¬ ((h_i h a0 x3.toNatClampNeg) = (h_i h a2 x1.toNatClampNeg)) → wpx d P_Md_ofSound 38 [.ref r0, .int x1, .int x2, .int x3] [] h Q) (kf : (h_i h a0 x3.toNatClampNeg) = (h_i h a2 x1.toNatClampNeg) → wpx d P_Md_ofSound 36 [.ref r0, .int x1, .int x2, .int x3] [] h Q) : wpx d P_Md_ofSound 21 [.ref r0, .int x1, .int x2, .int x3] [] h Q := by
  refine st_aload (pc' := 22) rfl rfl rfl ?_
  refine st_getfr (x := some a0) (Or.inl rfl) rfl hs0 rfl hr1 (pc' := 25) rfl ?_
  refine st_iload (pc' := 26) rfl rfl rfl ?_
  refine st_iaload rfl hs2 hb3 (j := x3.toNatClampNeg) rfl (pc' := 27) rfl ?_
  refine st_aload (pc' := 28) rfl rfl rfl ?_
  refine st_getfr (x := some a2) (Or.inl rfl) rfl hs0 rfl hr4 (pc' := 31) rfl ?_
  refine st_iload (pc' := 32) rfl rfl rfl ?_
  refine st_iaload rfl hs5 hb6 (j := x1.toNatClampNeg) rfl (pc' := 33) rfl ?_
  exact st_icmp_ne (pc' := 36) rfl rfl kt kf
theorem B_Md_ofSound_36 {d : Nat} {h : PH} {Q : PQ} {r0 : Nat} {x1 : Int32} {x2 : Int32} {x3 : Int32}  (k : Q (some (.int x3)) h) : wpx d P_Md_ofSound 36 [.ref r0, .int x1, .int x2, .int x3] [] h Q := by
  refine st_iload (pc' := 37) rfl rfl rfl ?_
  exact st_ireturn (ty := .int) rfl rfl rfl k
theorem B_Md_ofSound_38 {d : Nat} {h : PH} {Q : PQ} {r0 : Nat} {x1 : Int32} {x2 : Int32} {x3 : Int32}  (k : wpx d P_Md_ofSound 2 [.ref r0, .int x1, .int x2, .int (x3 + 1)] [] h Q) : wpx d P_Md_ofSound 38 [.ref r0, .int x1, .int x2, .int x3] [] h Q := by
  refine st_iinc (pc' := 41) (v := 1) (ls' := [.ref r0, .int x1, .int x2, .int (x3 + 1)]) rfl rfl rfl (by decide) rfl ?_
  exact st_goto rfl k
theorem B_Md_ofSound_44 {d : Nat} {h : PH} {Q : PQ} {r0 : Nat} {x1 : Int32} {x2 : Int32} {x3 : Int32}  (k : Q (some (.int (-1))) h) : wpx d P_Md_ofSound 44 [.ref r0, .int x1, .int x2, .int x3] [] h Q := by
  refine st_ipush (pc' := 45) (v := (-1)) rfl rfl (by decide) ?_
  exact st_ireturn (ty := .int) rfl rfl rfl k
theorem B_Md_spell_0 {d : Nat} {h : PH} {Q : PQ} {r0 : Nat} {x1 : Int32} {x2 : Int32} {x3 : Int32} {x4 : Int32} {v5 : Value} {v6 : Value} {v7 : Value} {v8 : Value} {a0 : Nat} {n1 : Nat} (hs0 : h_sh h r0 = some (0, 12)) (hr1 : h_r h r0 49 = some a0) (hs2 : h_sh h a0 = some (1, n1)) (hb3 : vp_in 0 n1) (hb4 : vp_in 1 n1) (hb5 : vp_in 2 n1) (hb6 : vp_in 3 n1) (k : wpx d P_Md_spell 43 [.ref r0, .int x1, .int x2, .int x3, .int x4, .int 0, .int 1, .int 0, v8] [] (w_i (w_i (w_i (w_i (w_i h r0 0 0) a0 0 x1) a0 1 x2) a0 2 x3) a0 3 x4) Q) : wpx d P_Md_spell 0 [.ref r0, .int x1, .int x2, .int x3, .int x4, v5, v6, v7, v8] [] h Q := by
  refine st_aload (pc' := 1) rfl rfl rfl ?_
  refine st_ipush (pc' := 2) (v := 0) rfl rfl (by decide) ?_
  refine st_putf (h' := w_i h r0 0 0) (Or.inl rfl) rfl hs0 rfl rfl rfl (pc' := 5) rfl ?_
  refine st_aload (pc' := 6) rfl rfl rfl ?_
  refine st_getfr (x := some a0) (Or.inl rfl) rfl hs0 rfl hr1 (pc' := 9) rfl ?_
  refine st_ipush (pc' := 10) (v := 0) rfl rfl (by decide) ?_
  refine st_iload (pc' := 11) rfl rfl rfl ?_
  refine st_iastore rfl hs2 hb3 (j := 0) (by decide) (pc' := 12) rfl ?_
  refine st_aload (pc' := 13) rfl rfl rfl ?_
  refine st_getfr (x := some a0) (Or.inl rfl) rfl hs0 rfl hr1 (pc' := 16) rfl ?_
  refine st_ipush (pc' := 17) (v := 1) rfl rfl (by decide) ?_
  refine st_iload (pc' := 18) rfl rfl rfl ?_
  refine st_iastore rfl hs2 hb4 (j := 1) (by decide) (pc' := 19) rfl ?_
  refine st_aload (pc' := 20) rfl rfl rfl ?_
  refine st_getfr (x := some a0) (Or.inl rfl) rfl hs0 rfl hr1 (pc' := 23) rfl ?_
  refine st_ipush (pc' := 24) (v := 2) rfl rfl (by decide) ?_
  refine st_iload (pc' := 25) rfl rfl rfl ?_
  refine st_iastore rfl hs2 hb5 (j := 2) (by decide) (pc' := 26) rfl ?_
  refine st_aload (pc' := 27) rfl rfl rfl ?_
  refine st_getfr (x := some a0) (Or.inl rfl) rfl hs0 rfl hr1 (pc' := 30) rfl ?_
  refine st_ipush (pc' := 31) (v := 3) rfl rfl (by decide) ?_
  refine st_iload (pc' := 33) rfl rfl rfl ?_
  refine st_iastore rfl hs2 hb6 (j := 3) (by decide) (pc' := 34) rfl ?_
  refine st_ipush (pc' := 35) (v := 0) rfl rfl (by decide) ?_
  refine st_istore (pc' := 37) (ls' := [.ref r0, .int x1, .int x2, .int x3, .int x4, .int 0, v6, v7, v8]) rfl rfl (Nat.le_of_ble_eq_true rfl) rfl ?_
  refine st_ipush (pc' := 38) (v := 1) rfl rfl (by decide) ?_
  refine st_istore (pc' := 40) (ls' := [.ref r0, .int x1, .int x2, .int x3, .int x4, .int 0, .int 1, v7, v8]) rfl rfl (Nat.le_of_ble_eq_true rfl) rfl ?_
  refine st_ipush (pc' := 41) (v := 0) rfl rfl (by decide) ?_
  refine st_istore (pc' := 43) (ls' := [.ref r0, .int x1, .int x2, .int x3, .int x4, .int 0, .int 1, .int 0, v8]) rfl rfl (Nat.le_of_ble_eq_true rfl) rfl ?_
  exact k
theorem B_Md_spell_43 {d : Nat} {h : PH} {Q : PQ} {r0 : Nat} {x1 : Int32} {x2 : Int32} {x3 : Int32} {x4 : Int32} {x5 : Int32} {x6 : Int32} {x7 : Int32} {v8 : Value}  (kt : (4 : Int32) ≤ x7 → wpx d P_Md_spell 131 [.ref r0, .int x1, .int x2, .int x3, .int x4, .int x5, .int x6, .int x7, v8] [] h Q) (kf : ¬ ((4 : Int32) ≤ x7) → wpx d P_Md_spell 49 [.ref r0, .int x1, .int x2, .int x3, .int x4, .int x5, .int x6, .int x7, v8] [] h Q) : wpx d P_Md_spell 43 [.ref r0, .int x1, .int x2, .int x3, .int x4, .int x5, .int x6, .int x7, v8] [] h Q := by
  refine st_iload (pc' := 45) rfl rfl rfl ?_
  refine st_ipush (pc' := 46) (v := 4) rfl rfl (by decide) ?_
  exact st_icmp_ge (pc' := 49) rfl rfl kt kf
theorem B_Md_spell_49 {d : Nat} {h : PH} {Q : PQ} {r0 : Nat} {x1 : Int32} {x2 : Int32} {x3 : Int32} {x4 : Int32} {x5 : Int32} {x6 : Int32} {x7 : Int32} {v8 : Value} {a0 : Nat} {n1 : Nat} (hs0 : h_sh h r0 = some (0, 12)) (hr1 : h_r h r0 49 = some a0) (hs2 : h_sh h a0 = some (1, n1)) (hb3 : vp_in x7 n1) (kt : ¬ (x7 = 0) → wpx d P_Md_spell 67 [.ref r0, .int x1, .int x2, .int x3, .int x4, .int x5, .int x6, .int x7, v8] [.int (h_i h a0 x7.toNatClampNeg), .int x6] h Q) (kf : x7 = 0 → wpx d P_Md_spell 63 [.ref r0, .int x1, .int x2, .int x3, .int x4, .int x5, .int x6, .int x7, v8] [.int (h_i h a0 x7.toNatClampNeg), .int x6] h Q) : wpx d P_Md_spell 49 [.ref r0, .int x1, .int x2, .int x3, .int x4, .int x5, .int x6, .int x7, v8] [] h Q := by
  refine st_iload (pc' := 51) rfl rfl rfl ?_
  refine st_aload (pc' := 52) rfl rfl rfl ?_
  refine st_getfr (x := some a0) (Or.inl rfl) rfl hs0 rfl hr1 (pc' := 55) rfl ?_
  refine st_iload (pc' := 57) rfl rfl rfl ?_
  refine st_iaload rfl hs2 hb3 (j := x7.toNatClampNeg) rfl (pc' := 58) rfl ?_
  refine st_iload (pc' := 60) rfl rfl rfl ?_
  exact st_if_ne (pc' := 63) rfl rfl kt kf
theorem B_Md_spell_63 {d : Nat} {h : PH} {Q : PQ} {r0 : Nat} {x1 : Int32} {x2 : Int32} {x3 : Int32} {x4 : Int32} {x5 : Int32} {x6 : Int32} {x7 : Int32} {v8 : Value} {s0 : Int32} {s1 : Int32}  (k : wpx d P_Md_spell 68 [.ref r0, .int x1, .int x2, .int x3, .int x4, .int x5, .int x6, .int x7, v8] [.int 0, .int s1, .int s0] h Q) : wpx d P_Md_spell 63 [.ref r0, .int x1, .int x2, .int x3, .int x4, .int x5, .int x6, .int x7, v8] [.int s1, .int s0] h Q := by
  refine st_ipush (pc' := 64) (v := 0) rfl rfl (by decide) ?_
  exact st_goto rfl k
theorem B_Md_spell_67 {d : Nat} {h : PH} {Q : PQ} {r0 : Nat} {x1 : Int32} {x2 : Int32} {x3 : Int32} {x4 : Int32} {x5 : Int32} {x6 : Int32} {x7 : Int32} {v8 : Value} {s0 : Int32} {s1 : Int32}  (k : wpx d P_Md_spell 68 [.ref r0, .int x1, .int x2, .int x3, .int x4, .int x5, .int x6, .int x7, v8] [.int (-1), .int s1, .int s0] h Q) : wpx d P_Md_spell 67 [.ref r0, .int x1, .int x2, .int x3, .int x4, .int x5, .int x6, .int x7, v8] [.int s1, .int s0] h Q := by
  refine st_ipush (pc' := 68) (v := (-1)) rfl rfl (by decide) ?_
  exact k
theorem B_Md_spell_68 {d : Nat} {h : PH} {Q : PQ} {r0 : Nat} {x1 : Int32} {x2 : Int32} {x3 : Int32} {x4 : Int32} {x5 : Int32} {x6 : Int32} {x7 : Int32} {v8 : Value} {s0 : Int32} {s1 : Int32} {s2 : Int32} (hs0 : h_sh h r0 = some (0, 12)) (k : wpm d 170 [.int s1, .int s2, .int ((h_i h r0 5) - (1 : Int32))] h (fun r h' => wpx d P_Md_spell 77 [.ref r0, .int x1, .int x2, .int x3, .int x4, .int x5, .int x6, .int x7, v8] (r.toList ++ [.int s0]) h' Q)) : wpx d P_Md_spell 68 [.ref r0, .int x1, .int x2, .int x3, .int x4, .int x5, .int x6, .int x7, v8] [.int s2, .int s1, .int s0] h Q := by
  refine st_aload (pc' := 69) rfl rfl rfl ?_
  refine st_getfi (Or.inl rfl) rfl hs0 rfl (pc' := 72) rfl ?_
  refine st_ipush (pc' := 73) (v := 1) rfl rfl (by decide) ?_
  refine st_isub (pc' := 74) rfl rfl ?_
  exact st_call (pc' := 77) (as := [.int s1, .int s2, .int ((h_i h r0 5) - (1 : Int32))]) (rest := [.int s0]) rfl rfl (Nat.le_of_ble_eq_true rfl) rfl rfl (Nat.le_of_ble_eq_true rfl) (kd := 0) (o := 12) rfl rfl rfl k
theorem B_Md_spell_77 {d : Nat} {h : PH} {Q : PQ} {r0 : Nat} {x1 : Int32} {x2 : Int32} {x3 : Int32} {x4 : Int32} {x5 : Int32} {x6 : Int32} {x7 : Int32} {v8 : Value} {s0 : Int32} {s1 : Int32}  (kt : s1 = 0 → wpx d P_Md_spell 101 [.ref r0, .int x1, .int x2, .int x3, .int x4, .int x5, .int x6, .int x7, v8] [.int s0] h Q) (kf : ¬ (s1 = 0) → wpx d P_Md_spell 80 [.ref r0, .int x1, .int x2, .int x3, .int x4, .int x5, .int x6, .int x7, v8] [.int s0] h Q) : wpx d P_Md_spell 77 [.ref r0, .int x1, .int x2, .int x3, .int x4, .int x5, .int x6, .int x7, v8] [.int s1, .int s0] h Q := by
  exact st_if_eq (pc' := 80) rfl rfl kt kf
theorem B_Md_spell_80 {d : Nat} {h : PH} {Q : PQ} {r0 : Nat} {x1 : Int32} {x2 : Int32} {x3 : Int32} {x4 : Int32} {x5 : Int32} {x6 : Int32} {x7 : Int32} {v8 : Value} {s0 : Int32} {a0 : Nat} {n1 : Nat} (hs0 : h_sh h r0 = some (0, 12)) (hr1 : h_r h r0 49 = some a0) (hs2 : h_sh h a0 = some (1, n1)) (hb3 : vp_in x7 n1) (kt : (h_i h a0 x7.toNatClampNeg) < 0 → wpx d P_Md_spell 97 [.ref r0, .int x1, .int x2, .int x3, .int x4, .int x5, .int x6, .int x7, v8] [.int s0] h Q) (kf : ¬ ((h_i h a0 x7.toNatClampNeg) < 0) → wpx d P_Md_spell 90 [.ref r0, .int x1, .int x2, .int x3, .int x4, .int x5, .int x6, .int x7, v8] [.int s0] h Q) : wpx d P_Md_spell 80 [.ref r0, .int x1, .int x2, .int x3, .int x4, .int x5, .int x6, .int x7, v8] [.int s0] h Q := by
  refine st_aload (pc' := 81) rfl rfl rfl ?_
  refine st_getfr (x := some a0) (Or.inl rfl) rfl hs0 rfl hr1 (pc' := 84) rfl ?_
  refine st_iload (pc' := 86) rfl rfl rfl ?_
  refine st_iaload rfl hs2 hb3 (j := x7.toNatClampNeg) rfl (pc' := 87) rfl ?_
  exact st_if_lt (pc' := 90) rfl rfl kt kf
theorem B_Md_spell_90 {d : Nat} {h : PH} {Q : PQ} {r0 : Nat} {x1 : Int32} {x2 : Int32} {x3 : Int32} {x4 : Int32} {x5 : Int32} {x6 : Int32} {x7 : Int32} {v8 : Value} {s0 : Int32}  (kt : ¬ (x5 = x7) → wpx d P_Md_spell 101 [.ref r0, .int x1, .int x2, .int x3, .int x4, .int x5, .int x6, .int x7, v8] [.int s0] h Q) (kf : x5 = x7 → wpx d P_Md_spell 97 [.ref r0, .int x1, .int x2, .int x3, .int x4, .int x5, .int x6, .int x7, v8] [.int s0] h Q) : wpx d P_Md_spell 90 [.ref r0, .int x1, .int x2, .int x3, .int x4, .int x5, .int x6, .int x7, v8] [.int s0] h Q := by
  refine st_iload (pc' := 92) rfl rfl rfl ?_
  refine st_iload (pc' := 94) rfl rfl rfl ?_
  exact st_icmp_ne (pc' := 97) rfl rfl kt kf
theorem B_Md_spell_97 {d : Nat} {h : PH} {Q : PQ} {r0 : Nat} {x1 : Int32} {x2 : Int32} {x3 : Int32} {x4 : Int32} {x5 : Int32} {x6 : Int32} {x7 : Int32} {v8 : Value} {s0 : Int32}  (k : wpx d P_Md_spell 102 [.ref r0, .int x1, .int x2, .int x3, .int x4, .int x5, .int x6, .int x7, v8] [.int 1, .int s0] h Q) : wpx d P_Md_spell 97 [.ref r0, .int x1, .int x2, .int x3, .int x4, .int x5, .int x6, .int x7, v8] [.int s0] h Q := by
  refine st_ipush (pc' := 98) (v := 1) rfl rfl (by decide) ?_
  exact st_goto rfl k
theorem B_Md_spell_101 {d : Nat} {h : PH} {Q : PQ} {r0 : Nat} {x1 : Int32} {x2 : Int32} {x3 : Int32} {x4 : Int32} {x5 : Int32} {x6 : Int32} {x7 : Int32} {v8 : Value} {s0 : Int32}  (k : wpx d P_Md_spell 102 [.ref r0, .int x1, .int x2, .int x3, .int x4, .int x5, .int x6, .int x7, v8] [.int 0, .int s0] h Q) : wpx d P_Md_spell 101 [.ref r0, .int x1, .int x2, .int x3, .int x4, .int x5, .int x6, .int x7, v8] [.int s0] h Q := by
  refine st_ipush (pc' := 102) (v := 0) rfl rfl (by decide) ?_
  exact k
theorem B_Md_spell_102 {d : Nat} {h : PH} {Q : PQ} {r0 : Nat} {x1 : Int32} {x2 : Int32} {x3 : Int32} {x4 : Int32} {x5 : Int32} {x6 : Int32} {x7 : Int32} {v8 : Value} {s0 : Int32} {s1 : Int32} {a0 : Nat} {n1 : Nat} (hs0 : h_sh h r0 = some (0, 12)) (hr1 : h_r h r0 49 = some a0) (hs2 : h_sh h a0 = some (1, n1)) (hb3 : vp_in x7 n1) (kt : (h_i h a0 x7.toNatClampNeg) < 0 → wpx d P_Md_spell 121 [.ref r0, .int x1, .int x2, .int x3, .int x4, .int x5, .int (s0 &&& s1), .int x7, v8] [.int x5] h Q) (kf : ¬ ((h_i h a0 x7.toNatClampNeg) < 0) → wpx d P_Md_spell 117 [.ref r0, .int x1, .int x2, .int x3, .int x4, .int x5, .int (s0 &&& s1), .int x7, v8] [.int x5] h Q) : wpx d P_Md_spell 102 [.ref r0, .int x1, .int x2, .int x3, .int x4, .int x5, .int x6, .int x7, v8] [.int s1, .int s0] h Q := by
  refine st_iand (pc' := 103) rfl rfl ?_
  refine st_istore (pc' := 105) (ls' := [.ref r0, .int x1, .int x2, .int x3, .int x4, .int x5, .int (s0 &&& s1), .int x7, v8]) rfl rfl (Nat.le_of_ble_eq_true rfl) rfl ?_
  refine st_iload (pc' := 107) rfl rfl rfl ?_
  refine st_aload (pc' := 108) rfl rfl rfl ?_
  refine st_getfr (x := some a0) (Or.inl rfl) rfl hs0 rfl hr1 (pc' := 111) rfl ?_
  refine st_iload (pc' := 113) rfl rfl rfl ?_
  refine st_iaload rfl hs2 hb3 (j := x7.toNatClampNeg) rfl (pc' := 114) rfl ?_
  exact st_if_lt (pc' := 117) rfl rfl kt kf
theorem B_Md_spell_117 {d : Nat} {h : PH} {Q : PQ} {r0 : Nat} {x1 : Int32} {x2 : Int32} {x3 : Int32} {x4 : Int32} {x5 : Int32} {x6 : Int32} {x7 : Int32} {v8 : Value} {s0 : Int32}  (k : wpx d P_Md_spell 122 [.ref r0, .int x1, .int x2, .int x3, .int x4, .int x5, .int x6, .int x7, v8] [.int 1, .int s0] h Q) : wpx d P_Md_spell 117 [.ref r0, .int x1, .int x2, .int x3, .int x4, .int x5, .int x6, .int x7, v8] [.int s0] h Q := by
  refine st_ipush (pc' := 118) (v := 1) rfl rfl (by decide) ?_
  exact st_goto rfl k
theorem B_Md_spell_121 {d : Nat} {h : PH} {Q : PQ} {r0 : Nat} {x1 : Int32} {x2 : Int32} {x3 : Int32} {x4 : Int32} {x5 : Int32} {x6 : Int32} {x7 : Int32} {v8 : Value} {s0 : Int32}  (k : wpx d P_Md_spell 122 [.ref r0, .int x1, .int x2, .int x3, .int x4, .int x5, .int x6, .int x7, v8] [.int 0, .int s0] h Q) : wpx d P_Md_spell 121 [.ref r0, .int x1, .int x2, .int x3, .int x4, .int x5, .int x6, .int x7, v8] [.int s0] h Q := by
  refine st_ipush (pc' := 122) (v := 0) rfl rfl (by decide) ?_
  exact k
theorem B_Md_spell_122 {d : Nat} {h : PH} {Q : PQ} {r0 : Nat} {x1 : Int32} {x2 : Int32} {x3 : Int32} {x4 : Int32} {x5 : Int32} {x6 : Int32} {x7 : Int32} {v8 : Value} {s0 : Int32} {s1 : Int32}  (k : wpx d P_Md_spell 43 [.ref r0, .int x1, .int x2, .int x3, .int x4, .int (s0 + s1), .int x6, .int (x7 + 1), v8] [] h Q) : wpx d P_Md_spell 122 [.ref r0, .int x1, .int x2, .int x3, .int x4, .int x5, .int x6, .int x7, v8] [.int s1, .int s0] h Q := by
  refine st_iadd (pc' := 123) rfl rfl ?_
  refine st_istore (pc' := 125) (ls' := [.ref r0, .int x1, .int x2, .int x3, .int x4, .int (s0 + s1), .int x6, .int x7, v8]) rfl rfl (Nat.le_of_ble_eq_true rfl) rfl ?_
  refine st_iinc (pc' := 128) (v := 1) (ls' := [.ref r0, .int x1, .int x2, .int x3, .int x4, .int (s0 + s1), .int x6, .int (x7 + 1), v8]) rfl rfl rfl (by decide) rfl ?_
  exact st_goto rfl k
theorem B_Md_spell_131 {d : Nat} {h : PH} {Q : PQ} {r0 : Nat} {x1 : Int32} {x2 : Int32} {x3 : Int32} {x4 : Int32} {x5 : Int32} {x6 : Int32} {x7 : Int32} {v8 : Value}  (kt : ¬ (x6 = 0) → wpx d P_Md_spell 138 [.ref r0, .int x1, .int x2, .int x3, .int x4, .int x5, .int x6, .int x7, v8] [] h Q) (kf : x6 = 0 → wpx d P_Md_spell 136 [.ref r0, .int x1, .int x2, .int x3, .int x4, .int x5, .int x6, .int x7, v8] [] h Q) : wpx d P_Md_spell 131 [.ref r0, .int x1, .int x2, .int x3, .int x4, .int x5, .int x6, .int x7, v8] [] h Q := by
  refine st_iload (pc' := 133) rfl rfl rfl ?_
  exact st_if_ne (pc' := 136) rfl rfl kt kf
theorem B_Md_spell_136 {d : Nat} {h : PH} {Q : PQ} {r0 : Nat} {x1 : Int32} {x2 : Int32} {x3 : Int32} {x4 : Int32} {x5 : Int32} {x6 : Int32} {x7 : Int32} {v8 : Value}  (k : Q (some (.int (-1))) h) : wpx d P_Md_spell 136 [.ref r0, .int x1, .int x2, .int x3, .int x4, .int x5, .int x6, .int x7, v8] [] h Q := by
  refine st_ipush (pc' := 137) (v := (-1)) rfl rfl (by decide) ?_
  exact st_ireturn (ty := .int) rfl rfl rfl k
theorem B_Md_spell_138 {d : Nat} {h : PH} {Q : PQ} {r0 : Nat} {x1 : Int32} {x2 : Int32} {x3 : Int32} {x4 : Int32} {x5 : Int32} {x6 : Int32} {x7 : Int32} {v8 : Value} {a0 : Nat} {n1 : Nat} (hs0 : h_sh h r0 = some (0, 12)) (hr1 : h_r h r0 50 = some a0) (hs2 : h_sh h a0 = some (1, n1)) (hb3 : vp_in 0 n1) (k : wpx d P_Md_spell 153 [.ref r0, .int x1, .int x2, .int x3, .int x4, .int x5, .int x6, .int 0, v8] [] (w_i (w_i h r0 47 (-1)) a0 0 (-1)) Q) : wpx d P_Md_spell 138 [.ref r0, .int x1, .int x2, .int x3, .int x4, .int x5, .int x6, .int x7, v8] [] h Q := by
  refine st_aload (pc' := 139) rfl rfl rfl ?_
  refine st_ipush (pc' := 140) (v := (-1)) rfl rfl (by decide) ?_
  refine st_putf (h' := w_i h r0 47 (-1)) (Or.inl rfl) rfl hs0 rfl rfl rfl (pc' := 143) rfl ?_
  refine st_ipush (pc' := 144) (v := 0) rfl rfl (by decide) ?_
  refine st_istore (pc' := 146) (ls' := [.ref r0, .int x1, .int x2, .int x3, .int x4, .int x5, .int x6, .int 0, v8]) rfl rfl (Nat.le_of_ble_eq_true rfl) rfl ?_
  refine st_aload (pc' := 147) rfl rfl rfl ?_
  refine st_getfr (x := some a0) (Or.inl rfl) rfl hs0 rfl hr1 (pc' := 150) rfl ?_
  refine st_ipush (pc' := 151) (v := 0) rfl rfl (by decide) ?_
  refine st_ipush (pc' := 152) (v := (-1)) rfl rfl (by decide) ?_
  refine st_iastore rfl hs2 hb3 (j := 0) (by decide) (pc' := 153) rfl ?_
  exact k
theorem B_Md_spell_153 {d : Nat} {h : PH} {Q : PQ} {r0 : Nat} {x1 : Int32} {x2 : Int32} {x3 : Int32} {x4 : Int32} {x5 : Int32} {x6 : Int32} {x7 : Int32} {v8 : Value}  (kt : x7 < 0 → wpx d P_Md_spell 271 [.ref r0, .int x1, .int x2, .int x3, .int x4, .int x5, .int x6, .int x7, v8] [] h Q) (kf : ¬ (x7 < 0) → wpx d P_Md_spell 158 [.ref r0, .int x1, .int x2, .int x3, .int x4, .int x5, .int x6, .int x7, v8] [] h Q) : wpx d P_Md_spell 153 [.ref r0, .int x1, .int x2, .int x3, .int x4, .int x5, .int x6, .int x7, v8] [] h Q := by
  refine st_iload (pc' := 155) rfl rfl rfl ?_
  exact st_if_lt (pc' := 158) rfl rfl kt kf
theorem B_Md_spell_158 {d : Nat} {h : PH} {Q : PQ} {r0 : Nat} {x1 : Int32} {x2 : Int32} {x3 : Int32} {x4 : Int32} {x5 : Int32} {x6 : Int32} {x7 : Int32} {v8 : Value} {a0 : Nat} {n1 : Nat} (hs0 : h_sh h r0 = some (0, 12)) (hr1 : h_r h r0 50 = some a0) (hs2 : h_sh h a0 = some (1, n1)) (hb3 : vp_in x7 n1) (k : wpm d 244 [.ref r0, .int x7, .int ((h_i h a0 x7.toNatClampNeg) + (1 : Int32))] h (fun r h' => wpx d P_Md_spell 179 [.ref r0, .int x1, .int x2, .int x3, .int x4, .int x5, .int x6, .int x7, v8] (r.toList ++ [.int x7, .ref a0]) h' Q)) : wpx d P_Md_spell 158 [.ref r0, .int x1, .int x2, .int x3, .int x4, .int x5, .int x6, .int x7, v8] [] h Q := by
  refine st_aload (pc' := 159) rfl rfl rfl ?_
  refine st_getfr (x := some a0) (Or.inl rfl) rfl hs0 rfl hr1 (pc' := 162) rfl ?_
  refine st_iload (pc' := 164) rfl rfl rfl ?_
  refine st_aload (pc' := 165) rfl rfl rfl ?_
  refine st_iload (pc' := 167) rfl rfl rfl ?_
  refine st_aload (pc' := 168) rfl rfl rfl ?_
  refine st_getfr (x := some a0) (Or.inl rfl) rfl hs0 rfl hr1 (pc' := 171) rfl ?_
  refine st_iload (pc' := 173) rfl rfl rfl ?_
  refine st_iaload rfl hs2 hb3 (j := x7.toNatClampNeg) rfl (pc' := 174) rfl ?_
  refine st_ipush (pc' := 175) (v := 1) rfl rfl (by decide) ?_
  refine st_iadd (pc' := 176) rfl rfl ?_
  exact st_call (pc' := 179) (as := [.ref r0, .int x7, .int ((h_i h a0 x7.toNatClampNeg) + (1 : Int32))]) (rest := [.int x7, .ref a0]) rfl rfl (Nat.le_of_ble_eq_true rfl) rfl rfl (Nat.le_of_ble_eq_true rfl) (kd := 1) (o := 12) rfl rfl (beq_iff_eq.mpr hs0) k
theorem B_Md_spell_179 {d : Nat} {h : PH} {Q : PQ} {r0 : Nat} {x1 : Int32} {x2 : Int32} {x3 : Int32} {x4 : Int32} {x5 : Int32} {x6 : Int32} {x7 : Int32} {v8 : Value} {q0 : Nat} {s1 : Int32} {s2 : Int32} {n0 : Nat} {a1 : Nat} {n2 : Nat} (hs0 : h_sh h q0 = some (1, n0)) (hb1 : vp_in s1 n0) (hs2 : h_sh h r0 = some (0, 12)) (hr3 : h_r h r0 50 = some a1) (hs4 : h_sh h a1 = some (1, n2)) (hb5 : vp_in x7 n2) (kt : 0 ≤ (h_i (w_i h q0 s1.toNatClampNeg s2) a1 x7.toNatClampNeg) → wpx d P_Md_spell 196 [.ref r0, .int x1, .int x2, .int x3, .int x4, .int x5, .int x6, .int x7, v8] [] (w_i h q0 s1.toNatClampNeg s2) Q) (kf : ¬ (0 ≤ (h_i (w_i h q0 s1.toNatClampNeg s2) a1 x7.toNatClampNeg)) → wpx d P_Md_spell 190 [.ref r0, .int x1, .int x2, .int x3, .int x4, .int x5, .int x6, .int x7, v8] [] (w_i h q0 s1.toNatClampNeg s2) Q) : wpx d P_Md_spell 179 [.ref r0, .int x1, .int x2, .int x3, .int x4, .int x5, .int x6, .int x7, v8] [.int s2, .int s1, .ref q0] h Q := by
  refine st_iastore rfl hs0 hb1 (j := s1.toNatClampNeg) rfl (pc' := 180) rfl ?_
  refine st_aload (pc' := 181) rfl rfl rfl ?_
  refine st_getfr (x := some a1) (Or.inl rfl) rfl hs2 rfl hr3 (pc' := 184) rfl ?_
  refine st_iload (pc' := 186) rfl rfl rfl ?_
  refine st_iaload rfl hs4 hb5 (j := x7.toNatClampNeg) rfl (pc' := 187) rfl ?_
  exact st_if_ge (pc' := 190) rfl rfl kt kf
theorem B_Md_spell_190 {d : Nat} {h : PH} {Q : PQ} {r0 : Nat} {x1 : Int32} {x2 : Int32} {x3 : Int32} {x4 : Int32} {x5 : Int32} {x6 : Int32} {x7 : Int32} {v8 : Value}  (k : wpx d P_Md_spell 153 [.ref r0, .int x1, .int x2, .int x3, .int x4, .int x5, .int x6, .int (x7 + (-1)), v8] [] h Q) : wpx d P_Md_spell 190 [.ref r0, .int x1, .int x2, .int x3, .int x4, .int x5, .int x6, .int x7, v8] [] h Q := by
  refine st_iinc (pc' := 193) (v := (-1)) (ls' := [.ref r0, .int x1, .int x2, .int x3, .int x4, .int x5, .int x6, .int (x7 + (-1)), v8]) rfl rfl rfl (by decide) rfl ?_
  exact st_goto rfl k
theorem B_Md_spell_196 {d : Nat} {h : PH} {Q : PQ} {r0 : Nat} {x1 : Int32} {x2 : Int32} {x3 : Int32} {x4 : Int32} {x5 : Int32} {x6 : Int32} {x7 : Int32} {v8 : Value}  (kt : (x5 - (1 : Int32)) ≤ x7 → wpx d P_Md_spell 219 [.ref r0, .int x1, .int x2, .int x3, .int x4, .int x5, .int x6, .int x7, v8] [] h Q) (kf : ¬ ((x5 - (1 : Int32)) ≤ x7) → wpx d P_Md_spell 205 [.ref r0, .int x1, .int x2, .int x3, .int x4, .int x5, .int x6, .int x7, v8] [] h Q) : wpx d P_Md_spell 196 [.ref r0, .int x1, .int x2, .int x3, .int x4, .int x5, .int x6, .int x7, v8] [] h Q := by
  refine st_iload (pc' := 198) rfl rfl rfl ?_
  refine st_iload (pc' := 200) rfl rfl rfl ?_
  refine st_ipush (pc' := 201) (v := 1) rfl rfl (by decide) ?_
  refine st_isub (pc' := 202) rfl rfl ?_
  exact st_icmp_ge (pc' := 205) rfl rfl kt kf
theorem B_Md_spell_205 {d : Nat} {h : PH} {Q : PQ} {r0 : Nat} {x1 : Int32} {x2 : Int32} {x3 : Int32} {x4 : Int32} {x5 : Int32} {x6 : Int32} {x7 : Int32} {v8 : Value} {a0 : Nat} {n1 : Nat} (hs0 : h_sh h r0 = some (0, 12)) (hr1 : h_r h r0 50 = some a0) (hs2 : h_sh h a0 = some (1, n1)) (hb3 : vp_in (x7 + 1) n1) (k : wpx d P_Md_spell 153 [.ref r0, .int x1, .int x2, .int x3, .int x4, .int x5, .int x6, .int (x7 + 1), v8] [] (w_i h a0 ((x7 + 1).toNatClampNeg) (-1)) Q) : wpx d P_Md_spell 205 [.ref r0, .int x1, .int x2, .int x3, .int x4, .int x5, .int x6, .int x7, v8] [] h Q := by
  refine st_iinc (pc' := 208) (v := 1) (ls' := [.ref r0, .int x1, .int x2, .int x3, .int x4, .int x5, .int x6, .int (x7 + 1), v8]) rfl rfl rfl (by decide) rfl ?_
  refine st_aload (pc' := 209) rfl rfl rfl ?_
  refine st_getfr (x := some a0) (Or.inl rfl) rfl hs0 rfl hr1 (pc' := 212) rfl ?_
  refine st_iload (pc' := 214) rfl rfl rfl ?_
  refine st_ipush (pc' := 215) (v := (-1)) rfl rfl (by decide) ?_
  refine st_iastore rfl hs2 hb3 (j := (x7 + 1).toNatClampNeg) rfl (pc' := 216) rfl ?_
  exact st_goto rfl k
theorem B_Md_spell_219 {d : Nat} {h : PH} {Q : PQ} {r0 : Nat} {x1 : Int32} {x2 : Int32} {x3 : Int32} {x4 : Int32} {x5 : Int32} {x6 : Int32} {x7 : Int32} {v8 : Value} (hs0 : h_sh h r0 = some (0, 12)) (k : wpm d 243 [.ref r0, .int x5] h (fun r h' => wpx d P_Md_spell 225 [.ref r0, .int x1, .int x2, .int x3, .int x4, .int x5, .int x6, .int x7, v8] (r.toList ++ []) h' Q)) : wpx d P_Md_spell 219 [.ref r0, .int x1, .int x2, .int x3, .int x4, .int x5, .int x6, .int x7, v8] [] h Q := by
  refine st_aload (pc' := 220) rfl rfl rfl ?_
  refine st_iload (pc' := 222) rfl rfl rfl ?_
  exact st_call (pc' := 225) (as := [.ref r0, .int x5]) (rest := []) rfl rfl (Nat.le_of_ble_eq_true rfl) rfl rfl (Nat.le_of_ble_eq_true rfl) (kd := 1) (o := 12) rfl rfl (beq_iff_eq.mpr hs0) k
theorem B_Md_spell_225 {d : Nat} {h : PH} {Q : PQ} {r0 : Nat} {x1 : Int32} {x2 : Int32} {x3 : Int32} {x4 : Int32} {x5 : Int32} {x6 : Int32} {x7 : Int32} {v8 : Value} {s0 : Int32}  (kt : s0 = 0 → wpx d P_Md_spell 153 [.ref r0, .int x1, .int x2, .int x3, .int x4, .int x5, .int x6, .int x7, v8] [] h Q) (kf : ¬ (s0 = 0) → wpx d P_Md_spell 228 [.ref r0, .int x1, .int x2, .int x3, .int x4, .int x5, .int x6, .int x7, v8] [] h Q) : wpx d P_Md_spell 225 [.ref r0, .int x1, .int x2, .int x3, .int x4, .int x5, .int x6, .int x7, v8] [.int s0] h Q := by
  exact st_if_eq (pc' := 228) rfl rfl kt kf
theorem B_Md_spell_228 {d : Nat} {h : PH} {Q : PQ} {r0 : Nat} {x1 : Int32} {x2 : Int32} {x3 : Int32} {x4 : Int32} {x5 : Int32} {x6 : Int32} {x7 : Int32} {v8 : Value}  (k : wpx d P_Md_spell 231 [.ref r0, .int x1, .int x2, .int x3, .int x4, .int x5, .int x6, .int x7, .int 0] [] h Q) : wpx d P_Md_spell 228 [.ref r0, .int x1, .int x2, .int x3, .int x4, .int x5, .int x6, .int x7, v8] [] h Q := by
  refine st_ipush (pc' := 229) (v := 0) rfl rfl (by decide) ?_
  refine st_istore (pc' := 231) (ls' := [.ref r0, .int x1, .int x2, .int x3, .int x4, .int x5, .int x6, .int x7, .int 0]) rfl rfl (Nat.le_of_ble_eq_true rfl) rfl ?_
  exact k
theorem B_Md_spell_231 {d : Nat} {h : PH} {Q : PQ} {r0 : Nat} {x1 : Int32} {x2 : Int32} {x3 : Int32} {x4 : Int32} {x5 : Int32} {x6 : Int32} {x7 : Int32} {x8 : Int32} (hs0 : h_sh h r0 = some (0, 12)) (kt : (h_i h r0 38) ≤ x8 → wpx d P_Md_spell 260 [.ref r0, .int x1, .int x2, .int x3, .int x4, .int x5, .int x6, .int x7, .int x8] [] h Q) (kf : ¬ ((h_i h r0 38) ≤ x8) → wpx d P_Md_spell 240 [.ref r0, .int x1, .int x2, .int x3, .int x4, .int x5, .int x6, .int x7, .int x8] [] h Q) : wpx d P_Md_spell 231 [.ref r0, .int x1, .int x2, .int x3, .int x4, .int x5, .int x6, .int x7, .int x8] [] h Q := by
  refine st_iload (pc' := 233) rfl rfl rfl ?_
  refine st_aload (pc' := 234) rfl rfl rfl ?_
  refine st_getfi (Or.inl rfl) rfl hs0 rfl (pc' := 237) rfl ?_
  exact st_icmp_ge (pc' := 240) rfl rfl kt kf
theorem B_Md_spell_240 {d : Nat} {h : PH} {Q : PQ} {r0 : Nat} {x1 : Int32} {x2 : Int32} {x3 : Int32} {x4 : Int32} {x5 : Int32} {x6 : Int32} {x7 : Int32} {x8 : Int32} {a0 : Nat} {a1 : Nat} {n2 : Nat} {n3 : Nat} (hs0 : h_sh h r0 = some (0, 12)) (hr1 : h_r h r0 46 = some a0) (hr2 : h_r h r0 37 = some a1) (hs3 : h_sh h a1 = some (1, n2)) (hb4 : vp_in x8 n2) (hs5 : h_sh h a0 = some (1, n3)) (hb6 : vp_in x8 n3) (k : wpx d P_Md_spell 231 [.ref r0, .int x1, .int x2, .int x3, .int x4, .int x5, .int x6, .int x7, .int (x8 + 1)] [] (w_i h a0 x8.toNatClampNeg (h_i h a1 x8.toNatClampNeg)) Q) : wpx d P_Md_spell 240 [.ref r0, .int x1, .int x2, .int x3, .int x4, .int x5, .int x6, .int x7, .int x8] [] h Q := by
  refine st_aload (pc' := 241) rfl rfl rfl ?_
  refine st_getfr (x := some a0) (Or.inl rfl) rfl hs0 rfl hr1 (pc' := 244) rfl ?_
  refine st_iload (pc' := 246) rfl rfl rfl ?_
  refine st_aload (pc' := 247) rfl rfl rfl ?_
  refine st_getfr (x := some a1) (Or.inl rfl) rfl hs0 rfl hr2 (pc' := 250) rfl ?_
  refine st_iload (pc' := 252) rfl rfl rfl ?_
  refine st_iaload rfl hs3 hb4 (j := x8.toNatClampNeg) rfl (pc' := 253) rfl ?_
  refine st_iastore rfl hs5 hb6 (j := x8.toNatClampNeg) rfl (pc' := 254) rfl ?_
  refine st_iinc (pc' := 257) (v := 1) (ls' := [.ref r0, .int x1, .int x2, .int x3, .int x4, .int x5, .int x6, .int x7, .int (x8 + 1)]) rfl rfl rfl (by decide) rfl ?_
  exact st_goto rfl k
theorem B_Md_spell_260 {d : Nat} {h : PH} {Q : PQ} {r0 : Nat} {x1 : Int32} {x2 : Int32} {x3 : Int32} {x4 : Int32} {x5 : Int32} {x6 : Int32} {x7 : Int32} {x8 : Int32} (hs0 : h_sh h r0 = some (0, 12)) (k : wpx d P_Md_spell 153 [.ref r0, .int x1, .int x2, .int x3, .int x4, .int x5, .int x6, .int x7, .int x8] [] (w_i h r0 47 (h_i h r0 38)) Q) : wpx d P_Md_spell 260 [.ref r0, .int x1, .int x2, .int x3, .int x4, .int x5, .int x6, .int x7, .int x8] [] h Q := by
  refine st_aload (pc' := 261) rfl rfl rfl ?_
  refine st_aload (pc' := 262) rfl rfl rfl ?_
  refine st_getfi (Or.inl rfl) rfl hs0 rfl (pc' := 265) rfl ?_
  refine st_putf (h' := w_i h r0 47 (h_i h r0 38)) (Or.inl rfl) rfl hs0 rfl rfl rfl (pc' := 268) rfl ?_
  exact st_goto rfl k
theorem B_Md_spell_271 {d : Nat} {h : PH} {Q : PQ} {r0 : Nat} {x1 : Int32} {x2 : Int32} {x3 : Int32} {x4 : Int32} {x5 : Int32} {x6 : Int32} {x7 : Int32} {v8 : Value} (hs0 : h_sh h r0 = some (0, 12)) (kt : 0 ≤ (h_i h r0 47) → wpx d P_Md_spell 280 [.ref r0, .int x1, .int x2, .int x3, .int x4, .int x5, .int x6, .int x7, v8] [] h Q) (kf : ¬ (0 ≤ (h_i h r0 47)) → wpx d P_Md_spell 278 [.ref r0, .int x1, .int x2, .int x3, .int x4, .int x5, .int x6, .int x7, v8] [] h Q) : wpx d P_Md_spell 271 [.ref r0, .int x1, .int x2, .int x3, .int x4, .int x5, .int x6, .int x7, v8] [] h Q := by
  refine st_aload (pc' := 272) rfl rfl rfl ?_
  refine st_getfi (Or.inl rfl) rfl hs0 rfl (pc' := 275) rfl ?_
  exact st_if_ge (pc' := 278) rfl rfl kt kf
theorem B_Md_spell_278 {d : Nat} {h : PH} {Q : PQ} {r0 : Nat} {x1 : Int32} {x2 : Int32} {x3 : Int32} {x4 : Int32} {x5 : Int32} {x6 : Int32} {x7 : Int32} {v8 : Value}  (k : Q (some (.int (-1))) h) : wpx d P_Md_spell 278 [.ref r0, .int x1, .int x2, .int x3, .int x4, .int x5, .int x6, .int x7, v8] [] h Q := by
  refine st_ipush (pc' := 279) (v := (-1)) rfl rfl (by decide) ?_
  exact st_ireturn (ty := .int) rfl rfl rfl k
theorem B_Md_spell_280 {d : Nat} {h : PH} {Q : PQ} {r0 : Nat} {x1 : Int32} {x2 : Int32} {x3 : Int32} {x4 : Int32} {x5 : Int32} {x6 : Int32} {x7 : Int32} {v8 : Value} {a0 : Nat} (hs0 : h_sh h r0 = some (0, 12)) (hr1 : h_r h r0 46 = some a0) (k : wpm d 221 [.ref r0, .ref a0, .int 0, .int (h_i h r0 47)] h (fun r h' => wpx d P_Md_spell 293 [.ref r0, .int x1, .int x2, .int x3, .int x4, .int x5, .int x6, .int x7, v8] (r.toList ++ []) h' Q)) : wpx d P_Md_spell 280 [.ref r0, .int x1, .int x2, .int x3, .int x4, .int x5, .int x6, .int x7, v8] [] h Q := by
  refine st_aload (pc' := 281) rfl rfl rfl ?_
  refine st_aload (pc' := 282) rfl rfl rfl ?_
  refine st_getfr (x := some a0) (Or.inl rfl) rfl hs0 rfl hr1 (pc' := 285) rfl ?_
  refine st_ipush (pc' := 286) (v := 0) rfl rfl (by decide) ?_
  refine st_aload (pc' := 287) rfl rfl rfl ?_
  refine st_getfi (Or.inl rfl) rfl hs0 rfl (pc' := 290) rfl ?_
  exact st_call (pc' := 293) (as := [.ref r0, .ref a0, .int 0, .int (h_i h r0 47)]) (rest := []) rfl rfl (Nat.le_of_ble_eq_true rfl) rfl rfl (Nat.le_of_ble_eq_true rfl) (kd := 1) (o := 12) rfl rfl (beq_iff_eq.mpr hs0) k
theorem B_Md_spell_293 {d : Nat} {h : PH} {Q : PQ} {r0 : Nat} {x1 : Int32} {x2 : Int32} {x3 : Int32} {x4 : Int32} {x5 : Int32} {x6 : Int32} {x7 : Int32} {v8 : Value} (hs0 : h_sh h r0 = some (0, 12)) (k : Q (some (.int (h_i h r0 24))) h) : wpx d P_Md_spell 293 [.ref r0, .int x1, .int x2, .int x3, .int x4, .int x5, .int x6, .int x7, v8] [] h Q := by
  refine st_aload (pc' := 294) rfl rfl rfl ?_
  refine st_getfi (Or.inl rfl) rfl hs0 rfl (pc' := 297) rfl ?_
  exact st_ireturn (ty := .int) rfl rfl rfl k
theorem B_Md_drawn_0 {d : Nat} {h : PH} {Q : PQ} {r0 : Nat} {x1 : Int32} {x2 : Int32} {v3 : Value} {v4 : Value} {v5 : Value} {v6 : Value} (hs0 : h_sh h r0 = some (0, 12)) (k : wpm d 170 [.int x2, .int 1, .int 5] (w_i h r0 0 0) (fun r h' => wpx d P_Md_drawn 11 [.ref r0, .int x1, .int x2, v3, v4, v5, v6] (r.toList ++ []) h' Q)) : wpx d P_Md_drawn 0 [.ref r0, .int x1, .int x2, v3, v4, v5, v6] [] h Q := by
  refine st_aload (pc' := 1) rfl rfl rfl ?_
  refine st_ipush (pc' := 2) (v := 0) rfl rfl (by decide) ?_
  refine st_putf (h' := w_i h r0 0 0) (Or.inl rfl) rfl hs0 rfl rfl rfl (pc' := 5) rfl ?_
  refine st_iload (pc' := 6) rfl rfl rfl ?_
  refine st_ipush (pc' := 7) (v := 1) rfl rfl (by decide) ?_
  refine st_ipush (pc' := 8) (v := 5) rfl rfl (by decide) ?_
  exact st_call (pc' := 11) (as := [.int x2, .int 1, .int 5]) (rest := []) rfl rfl (Nat.le_of_ble_eq_true rfl) rfl rfl (Nat.le_of_ble_eq_true rfl) (kd := 0) (o := 12) rfl rfl rfl k
theorem B_Md_drawn_11 {d : Nat} {h : PH} {Q : PQ} {r0 : Nat} {x1 : Int32} {x2 : Int32} {v3 : Value} {v4 : Value} {v5 : Value} {v6 : Value} {s0 : Int32}  (kt : s0 = 0 → wpx d P_Md_drawn 21 [.ref r0, .int x1, .int x2, v3, v4, v5, v6] [] h Q) (kf : ¬ (s0 = 0) → wpx d P_Md_drawn 14 [.ref r0, .int x1, .int x2, v3, v4, v5, v6] [] h Q) : wpx d P_Md_drawn 11 [.ref r0, .int x1, .int x2, v3, v4, v5, v6] [.int s0] h Q := by
  exact st_if_eq (pc' := 14) rfl rfl kt kf
theorem B_Md_drawn_14 {d : Nat} {h : PH} {Q : PQ} {r0 : Nat} {x1 : Int32} {x2 : Int32} {v3 : Value} {v4 : Value} {v5 : Value} {v6 : Value} (hs0 : h_sh h r0 = some (0, 12)) (kt : ¬ ((h_i h r0 6) = 0) → wpx d P_Md_drawn 23 [.ref r0, .int x1, .int x2, v3, v4, v5, v6] [] h Q) (kf : (h_i h r0 6) = 0 → wpx d P_Md_drawn 21 [.ref r0, .int x1, .int x2, v3, v4, v5, v6] [] h Q) : wpx d P_Md_drawn 14 [.ref r0, .int x1, .int x2, v3, v4, v5, v6] [] h Q := by
  refine st_aload (pc' := 15) rfl rfl rfl ?_
  refine st_getfi (Or.inl rfl) rfl hs0 rfl (pc' := 18) rfl ?_
  exact st_if_ne (pc' := 21) rfl rfl kt kf
theorem B_Md_drawn_21 {d : Nat} {h : PH} {Q : PQ} {r0 : Nat} {x1 : Int32} {x2 : Int32} {v3 : Value} {v4 : Value} {v5 : Value} {v6 : Value}  (k : Q (some (.int (-1))) h) : wpx d P_Md_drawn 21 [.ref r0, .int x1, .int x2, v3, v4, v5, v6] [] h Q := by
  refine st_ipush (pc' := 22) (v := (-1)) rfl rfl (by decide) ?_
  exact st_ireturn (ty := .int) rfl rfl rfl k
theorem B_Md_drawn_23 {d : Nat} {h : PH} {Q : PQ} {r0 : Nat} {x1 : Int32} {x2 : Int32} {v3 : Value} {v4 : Value} {v5 : Value} {v6 : Value} (hs0 : h_sh h r0 = some (0, 12)) (k : wpx d P_Md_drawn 33 [.ref r0, .int x1, .int x2, .int x1, .int 0, v5, v6] [] (w_i h r0 38 0) Q) : wpx d P_Md_drawn 23 [.ref r0, .int x1, .int x2, v3, v4, v5, v6] [] h Q := by
  refine st_iload (pc' := 24) rfl rfl rfl ?_
  refine st_istore (pc' := 25) (ls' := [.ref r0, .int x1, .int x2, .int x1, v4, v5, v6]) rfl rfl (Nat.le_of_ble_eq_true rfl) rfl ?_
  refine st_aload (pc' := 26) rfl rfl rfl ?_
  refine st_ipush (pc' := 27) (v := 0) rfl rfl (by decide) ?_
  refine st_putf (h' := w_i h r0 38 0) (Or.inl rfl) rfl hs0 rfl rfl rfl (pc' := 30) rfl ?_
  refine st_ipush (pc' := 31) (v := 0) rfl rfl (by decide) ?_
  refine st_istore (pc' := 33) (ls' := [.ref r0, .int x1, .int x2, .int x1, .int 0, v5, v6]) rfl rfl (Nat.le_of_ble_eq_true rfl) rfl ?_
  exact k
theorem B_Md_drawn_33 {d : Nat} {h : PH} {Q : PQ} {r0 : Nat} {x1 : Int32} {x2 : Int32} {x3 : Int32} {x4 : Int32} {v5 : Value} {v6 : Value}  (kt : x2 ≤ x4 → wpx d P_Md_drawn 124 [.ref r0, .int x1, .int x2, .int x3, .int x4, v5, v6] [] h Q) (kf : ¬ (x2 ≤ x4) → wpx d P_Md_drawn 39 [.ref r0, .int x1, .int x2, .int x3, .int x4, v5, v6] [] h Q) : wpx d P_Md_drawn 33 [.ref r0, .int x1, .int x2, .int x3, .int x4, v5, v6] [] h Q := by
  refine st_iload (pc' := 35) rfl rfl rfl ?_
  refine st_iload (pc' := 36) rfl rfl rfl ?_
  exact st_icmp_ge (pc' := 39) rfl rfl kt kf
theorem B_Md_drawn_39 {d : Nat} {h : PH} {Q : PQ} {r0 : Nat} {x1 : Int32} {x2 : Int32} {x3 : Int32} {x4 : Int32} {v5 : Value} {v6 : Value} (hs0 : h_sh h r0 = some (0, 12)) (k : wpm d 173 [.int (h_i h r0 6)] h (fun r h' => wpx d P_Md_drawn 60 [.ref r0, .int x1, .int x2, .int ((x3 * (1103515245 : Int32)) + (12345 : Int32)), .int x4, v5, v6] (r.toList ++ [.int ((((x3 * (1103515245 : Int32)) + (12345 : Int32)).toUInt32 >>> ((16 : Int32).toUInt32 &&& Int32.toUInt32 31)).toInt32)]) h' Q)) : wpx d P_Md_drawn 39 [.ref r0, .int x1, .int x2, .int x3, .int x4, v5, v6] [] h Q := by
  refine st_iload (pc' := 40) rfl rfl rfl ?_
  refine st_ldc (pc' := 43) (v := 1103515245) rfl rfl (by decide) ?_
  refine st_imul (pc' := 44) rfl rfl ?_
  refine st_ipush (pc' := 47) (v := 12345) rfl rfl (by decide) ?_
  refine st_iadd (pc' := 48) rfl rfl ?_
  refine st_istore (pc' := 49) (ls' := [.ref r0, .int x1, .int x2, .int ((x3 * (1103515245 : Int32)) + (12345 : Int32)), .int x4, v5, v6]) rfl rfl (Nat.le_of_ble_eq_true rfl) rfl ?_
  refine st_iload (pc' := 50) rfl rfl rfl ?_
  refine st_ipush (pc' := 52) (v := 16) rfl rfl (by decide) ?_
  refine st_iushr (pc' := 53) rfl rfl ?_
  refine st_aload (pc' := 54) rfl rfl rfl ?_
  refine st_getfi (Or.inl rfl) rfl hs0 rfl (pc' := 57) rfl ?_
  exact st_call (pc' := 60) (as := [.int (h_i h r0 6)]) (rest := [.int ((((x3 * (1103515245 : Int32)) + (12345 : Int32)).toUInt32 >>> ((16 : Int32).toUInt32 &&& Int32.toUInt32 31)).toInt32)]) rfl rfl (Nat.le_of_ble_eq_true rfl) rfl rfl (Nat.le_of_ble_eq_true rfl) (kd := 0) (o := 12) rfl rfl rfl k
theorem B_Md_drawn_60 {d : Nat} {h : PH} {Q : PQ} {r0 : Nat} {x1 : Int32} {x2 : Int32} {x3 : Int32} {x4 : Int32} {v5 : Value} {v6 : Value} {s0 : Int32} {s1 : Int32} (hz0 : ¬ s1 = 0) (k : wpx d P_Md_drawn 66 [.ref r0, .int x1, .int x2, .int x3, .int x4, .int (s0 - s0 / s1 * s1), .int 0] [] h Q) : wpx d P_Md_drawn 60 [.ref r0, .int x1, .int x2, .int x3, .int x4, v5, v6] [.int s1, .int s0] h Q := by
  refine st_irem rfl hz0 (pc' := 61) rfl ?_
  refine st_istore (pc' := 63) (ls' := [.ref r0, .int x1, .int x2, .int x3, .int x4, .int (s0 - s0 / s1 * s1), v6]) rfl rfl (Nat.le_of_ble_eq_true rfl) rfl ?_
  refine st_ipush (pc' := 64) (v := 0) rfl rfl (by decide) ?_
  refine st_istore (pc' := 66) (ls' := [.ref r0, .int x1, .int x2, .int x3, .int x4, .int (s0 - s0 / s1 * s1), .int 0]) rfl rfl (Nat.le_of_ble_eq_true rfl) rfl ?_
  exact k
theorem B_Md_drawn_66 {d : Nat} {h : PH} {Q : PQ} {r0 : Nat} {x1 : Int32} {x2 : Int32} {x3 : Int32} {x4 : Int32} {x5 : Int32} {x6 : Int32} (hs0 : h_sh h r0 = some (0, 12)) (k : wpm d 171 [.int (h_i h r0 6), .int x6] h (fun r h' => wpx d P_Md_drawn 75 [.ref r0, .int x1, .int x2, .int x3, .int x4, .int x5, .int x6] (r.toList ++ []) h' Q)) : wpx d P_Md_drawn 66 [.ref r0, .int x1, .int x2, .int x3, .int x4, .int x5, .int x6] [] h Q := by
  refine st_aload (pc' := 67) rfl rfl rfl ?_
  refine st_getfi (Or.inl rfl) rfl hs0 rfl (pc' := 70) rfl ?_
  refine st_iload (pc' := 72) rfl rfl rfl ?_
  exact st_call (pc' := 75) (as := [.int (h_i h r0 6), .int x6]) (rest := []) rfl rfl (Nat.le_of_ble_eq_true rfl) rfl rfl (Nat.le_of_ble_eq_true rfl) (kd := 0) (o := 12) rfl rfl rfl k
theorem B_Md_drawn_75 {d : Nat} {h : PH} {Q : PQ} {r0 : Nat} {x1 : Int32} {x2 : Int32} {x3 : Int32} {x4 : Int32} {x5 : Int32} {x6 : Int32} {s0 : Int32}  (kt : s0 = 0 → wpx d P_Md_drawn 83 [.ref r0, .int x1, .int x2, .int x3, .int x4, .int x5, .int x6] [] h Q) (kf : ¬ (s0 = 0) → wpx d P_Md_drawn 78 [.ref r0, .int x1, .int x2, .int x3, .int x4, .int x5, .int x6] [] h Q) : wpx d P_Md_drawn 75 [.ref r0, .int x1, .int x2, .int x3, .int x4, .int x5, .int x6] [.int s0] h Q := by
  exact st_if_eq (pc' := 78) rfl rfl kt kf
theorem B_Md_drawn_78 {d : Nat} {h : PH} {Q : PQ} {r0 : Nat} {x1 : Int32} {x2 : Int32} {x3 : Int32} {x4 : Int32} {x5 : Int32} {x6 : Int32}  (kt : x5 ≤ 0 → wpx d P_Md_drawn 111 [.ref r0, .int x1, .int x2, .int x3, .int x4, .int x5, .int x6] [] h Q) (kf : ¬ (x5 ≤ 0) → wpx d P_Md_drawn 83 [.ref r0, .int x1, .int x2, .int x3, .int x4, .int x5, .int x6] [] h Q) : wpx d P_Md_drawn 78 [.ref r0, .int x1, .int x2, .int x3, .int x4, .int x5, .int x6] [] h Q := by
  refine st_iload (pc' := 80) rfl rfl rfl ?_
  exact st_if_le (pc' := 83) rfl rfl kt kf
theorem B_Md_drawn_83 {d : Nat} {h : PH} {Q : PQ} {r0 : Nat} {x1 : Int32} {x2 : Int32} {x3 : Int32} {x4 : Int32} {x5 : Int32} {x6 : Int32} (hs0 : h_sh h r0 = some (0, 12)) (k : wpm d 171 [.int (h_i h r0 6), .int x6] h (fun r h' => wpx d P_Md_drawn 94 [.ref r0, .int x1, .int x2, .int x3, .int x4, .int x5, .int x6] (r.toList ++ [.int x5]) h' Q)) : wpx d P_Md_drawn 83 [.ref r0, .int x1, .int x2, .int x3, .int x4, .int x5, .int x6] [] h Q := by
  refine st_iload (pc' := 85) rfl rfl rfl ?_
  refine st_aload (pc' := 86) rfl rfl rfl ?_
  refine st_getfi (Or.inl rfl) rfl hs0 rfl (pc' := 89) rfl ?_
  refine st_iload (pc' := 91) rfl rfl rfl ?_
  exact st_call (pc' := 94) (as := [.int (h_i h r0 6), .int x6]) (rest := [.int x5]) rfl rfl (Nat.le_of_ble_eq_true rfl) rfl rfl (Nat.le_of_ble_eq_true rfl) (kd := 0) (o := 12) rfl rfl rfl k
theorem B_Md_drawn_94 {d : Nat} {h : PH} {Q : PQ} {r0 : Nat} {x1 : Int32} {x2 : Int32} {x3 : Int32} {x4 : Int32} {x5 : Int32} {x6 : Int32} {s0 : Int32} {s1 : Int32}  (kt : s1 = 0 → wpx d P_Md_drawn 101 [.ref r0, .int x1, .int x2, .int x3, .int x4, .int x5, .int x6] [.int s0] h Q) (kf : ¬ (s1 = 0) → wpx d P_Md_drawn 97 [.ref r0, .int x1, .int x2, .int x3, .int x4, .int x5, .int x6] [.int s0] h Q) : wpx d P_Md_drawn 94 [.ref r0, .int x1, .int x2, .int x3, .int x4, .int x5, .int x6] [.int s1, .int s0] h Q := by
  exact st_if_eq (pc' := 97) rfl rfl kt kf
theorem B_Md_drawn_97 {d : Nat} {h : PH} {Q : PQ} {r0 : Nat} {x1 : Int32} {x2 : Int32} {x3 : Int32} {x4 : Int32} {x5 : Int32} {x6 : Int32} {s0 : Int32}  (k : wpx d P_Md_drawn 102 [.ref r0, .int x1, .int x2, .int x3, .int x4, .int x5, .int x6] [.int 1, .int s0] h Q) : wpx d P_Md_drawn 97 [.ref r0, .int x1, .int x2, .int x3, .int x4, .int x5, .int x6] [.int s0] h Q := by
  refine st_ipush (pc' := 98) (v := 1) rfl rfl (by decide) ?_
  exact st_goto rfl k
theorem B_Md_drawn_101 {d : Nat} {h : PH} {Q : PQ} {r0 : Nat} {x1 : Int32} {x2 : Int32} {x3 : Int32} {x4 : Int32} {x5 : Int32} {x6 : Int32} {s0 : Int32}  (k : wpx d P_Md_drawn 102 [.ref r0, .int x1, .int x2, .int x3, .int x4, .int x5, .int x6] [.int 0, .int s0] h Q) : wpx d P_Md_drawn 101 [.ref r0, .int x1, .int x2, .int x3, .int x4, .int x5, .int x6] [.int s0] h Q := by
  refine st_ipush (pc' := 102) (v := 0) rfl rfl (by decide) ?_
  exact k
theorem B_Md_drawn_102 {d : Nat} {h : PH} {Q : PQ} {r0 : Nat} {x1 : Int32} {x2 : Int32} {x3 : Int32} {x4 : Int32} {x5 : Int32} {x6 : Int32} {s0 : Int32} {s1 : Int32}  (k : wpx d P_Md_drawn 66 [.ref r0, .int x1, .int x2, .int x3, .int x4, .int (s0 - s1), .int (x6 + 1)] [] h Q) : wpx d P_Md_drawn 102 [.ref r0, .int x1, .int x2, .int x3, .int x4, .int x5, .int x6] [.int s1, .int s0] h Q := by
  refine st_isub (pc' := 103) rfl rfl ?_
  refine st_istore (pc' := 105) (ls' := [.ref r0, .int x1, .int x2, .int x3, .int x4, .int (s0 - s1), .int x6]) rfl rfl (Nat.le_of_ble_eq_true rfl) rfl ?_
  refine st_iinc (pc' := 108) (v := 1) (ls' := [.ref r0, .int x1, .int x2, .int x3, .int x4, .int (s0 - s1), .int (x6 + 1)]) rfl rfl rfl (by decide) rfl ?_
  exact st_goto rfl k
theorem B_Md_drawn_111 {d : Nat} {h : PH} {Q : PQ} {r0 : Nat} {x1 : Int32} {x2 : Int32} {x3 : Int32} {x4 : Int32} {x5 : Int32} {x6 : Int32} (hs0 : h_sh h r0 = some (0, 12)) (k : wpm d 217 [.ref r0, .int x6, .int 0] h (fun r h' => wpx d P_Md_drawn 118 [.ref r0, .int x1, .int x2, .int x3, .int x4, .int x5, .int x6] (r.toList ++ []) h' Q)) : wpx d P_Md_drawn 111 [.ref r0, .int x1, .int x2, .int x3, .int x4, .int x5, .int x6] [] h Q := by
  refine st_aload (pc' := 112) rfl rfl rfl ?_
  refine st_iload (pc' := 114) rfl rfl rfl ?_
  refine st_ipush (pc' := 115) (v := 0) rfl rfl (by decide) ?_
  exact st_call (pc' := 118) (as := [.ref r0, .int x6, .int 0]) (rest := []) rfl rfl (Nat.le_of_ble_eq_true rfl) rfl rfl (Nat.le_of_ble_eq_true rfl) (kd := 1) (o := 12) rfl rfl (beq_iff_eq.mpr hs0) k
theorem B_Md_drawn_118 {d : Nat} {h : PH} {Q : PQ} {r0 : Nat} {x1 : Int32} {x2 : Int32} {x3 : Int32} {x4 : Int32} {x5 : Int32} {x6 : Int32}  (k : wpx d P_Md_drawn 33 [.ref r0, .int x1, .int x2, .int x3, .int (x4 + 1), .int x5, .int x6] [] h Q) : wpx d P_Md_drawn 118 [.ref r0, .int x1, .int x2, .int x3, .int x4, .int x5, .int x6] [] h Q := by
  refine st_iinc (pc' := 121) (v := 1) (ls' := [.ref r0, .int x1, .int x2, .int x3, .int (x4 + 1), .int x5, .int x6]) rfl rfl rfl (by decide) rfl ?_
  exact st_goto rfl k
theorem B_Md_drawn_124 {d : Nat} {h : PH} {Q : PQ} {r0 : Nat} {x1 : Int32} {x2 : Int32} {x3 : Int32} {x4 : Int32} {v5 : Value} {v6 : Value} {a0 : Nat} (hs0 : h_sh h r0 = some (0, 12)) (hr1 : h_r h r0 37 = some a0) (k : wpm d 221 [.ref r0, .ref a0, .int 0, .int (h_i h r0 38)] h (fun r h' => wpx d P_Md_drawn 137 [.ref r0, .int x1, .int x2, .int x3, .int x4, v5, v6] (r.toList ++ []) h' Q)) : wpx d P_Md_drawn 124 [.ref r0, .int x1, .int x2, .int x3, .int x4, v5, v6] [] h Q := by
  refine st_aload (pc' := 125) rfl rfl rfl ?_
  refine st_aload (pc' := 126) rfl rfl rfl ?_
  refine st_getfr (x := some a0) (Or.inl rfl) rfl hs0 rfl hr1 (pc' := 129) rfl ?_
  refine st_ipush (pc' := 130) (v := 0) rfl rfl (by decide) ?_
  refine st_aload (pc' := 131) rfl rfl rfl ?_
  refine st_getfi (Or.inl rfl) rfl hs0 rfl (pc' := 134) rfl ?_
  exact st_call (pc' := 137) (as := [.ref r0, .ref a0, .int 0, .int (h_i h r0 38)]) (rest := []) rfl rfl (Nat.le_of_ble_eq_true rfl) rfl rfl (Nat.le_of_ble_eq_true rfl) (kd := 1) (o := 12) rfl rfl (beq_iff_eq.mpr hs0) k
theorem B_Md_drawn_137 {d : Nat} {h : PH} {Q : PQ} {r0 : Nat} {x1 : Int32} {x2 : Int32} {x3 : Int32} {x4 : Int32} {v5 : Value} {v6 : Value} (hs0 : h_sh h r0 = some (0, 12)) (k : Q (some (.int (h_i h r0 24))) h) : wpx d P_Md_drawn 137 [.ref r0, .int x1, .int x2, .int x3, .int x4, v5, v6] [] h Q := by
  refine st_aload (pc' := 138) rfl rfl rfl ?_
  refine st_getfi (Or.inl rfl) rfl hs0 rfl (pc' := 141) rfl ?_
  exact st_ireturn (ty := .int) rfl rfl rfl k
theorem B_Md_layNodes_0 {d : Nat} {h : PH} {Q : PQ} {r0 : Nat} {v1 : Value} {v2 : Value} {v3 : Value} {v4 : Value} {v5 : Value} (hs0 : h_sh h r0 = some (0, 12)) (kt : (h_i h r0 26) = 0 → wpx d P_Md_layNodes 8 [.ref r0, v1, v2, v3, v4, v5] [] h Q) (kf : ¬ ((h_i h r0 26) = 0) → wpx d P_Md_layNodes 7 [.ref r0, v1, v2, v3, v4, v5] [] h Q) : wpx d P_Md_layNodes 0 [.ref r0, v1, v2, v3, v4, v5] [] h Q := by
  refine st_aload (pc' := 1) rfl rfl rfl ?_
  refine st_getfi (Or.inl rfl) rfl hs0 rfl (pc' := 4) rfl ?_
  exact st_if_eq (pc' := 7) rfl rfl kt kf
theorem B_Md_layNodes_7 {d : Nat} {h : PH} {Q : PQ} {r0 : Nat} {v1 : Value} {v2 : Value} {v3 : Value} {v4 : Value} {v5 : Value}  (k : Q none h) : wpx d P_Md_layNodes 7 [.ref r0, v1, v2, v3, v4, v5] [] h Q := by
  exact st_return rfl k
theorem B_Md_layNodes_8 {d : Nat} {h : PH} {Q : PQ} {r0 : Nat} {v1 : Value} {v2 : Value} {v3 : Value} {v4 : Value} {v5 : Value} (hs0 : h_sh h r0 = some (0, 12)) (k : wpx d P_Md_layNodes 20 [.ref r0, .int 0, v2, v3, v4, v5] [] (w_i (w_i h r0 26 1) r0 53 1) Q) : wpx d P_Md_layNodes 8 [.ref r0, v1, v2, v3, v4, v5] [] h Q := by
  refine st_aload (pc' := 9) rfl rfl rfl ?_
  refine st_ipush (pc' := 10) (v := 1) rfl rfl (by decide) ?_
  refine st_putf (h' := w_i h r0 26 1) (Or.inl rfl) rfl hs0 (by decide) (by decide) rfl (pc' := 13) rfl ?_
  refine st_aload (pc' := 14) rfl rfl rfl ?_
  refine st_ipush (pc' := 15) (v := 1) rfl rfl (by decide) ?_
  refine st_putf (h' := w_i (w_i h r0 26 1) r0 53 1) (Or.inl rfl) rfl hs0 rfl rfl rfl (pc' := 18) rfl ?_
  refine st_ipush (pc' := 19) (v := 0) rfl rfl (by decide) ?_
  refine st_istore (pc' := 20) (ls' := [.ref r0, .int 0, v2, v3, v4, v5]) rfl rfl (Nat.le_of_ble_eq_true rfl) rfl ?_
  exact k
theorem B_Md_layNodes_20 {d : Nat} {h : PH} {Q : PQ} {r0 : Nat} {x1 : Int32} {v2 : Value} {v3 : Value} {v4 : Value} {v5 : Value}  (kt : (27 : Int32) ≤ x1 → wpx d P_Md_layNodes 39 [.ref r0, .int x1, v2, v3, v4, v5] [] h Q) (kf : ¬ ((27 : Int32) ≤ x1) → wpx d P_Md_layNodes 26 [.ref r0, .int x1, v2, v3, v4, v5] [] h Q) : wpx d P_Md_layNodes 20 [.ref r0, .int x1, v2, v3, v4, v5] [] h Q := by
  refine st_iload (pc' := 21) rfl rfl rfl ?_
  refine st_ipush (pc' := 23) (v := 27) rfl rfl (by decide) ?_
  exact st_icmp_ge (pc' := 26) rfl rfl kt kf
theorem B_Md_layNodes_26 {d : Nat} {h : PH} {Q : PQ} {r0 : Nat} {x1 : Int32} {v2 : Value} {v3 : Value} {v4 : Value} {v5 : Value} {a0 : Nat} {n1 : Nat} (hs0 : h_sh h r0 = some (0, 12)) (hr1 : h_r h r0 51 = some a0) (hs2 : h_sh h a0 = some (1, n1)) (hb3 : vp_in x1 n1) (k : wpx d P_Md_layNodes 20 [.ref r0, .int (x1 + 1), v2, v3, v4, v5] [] (w_i h a0 x1.toNatClampNeg (-1)) Q) : wpx d P_Md_layNodes 26 [.ref r0, .int x1, v2, v3, v4, v5] [] h Q := by
  refine st_aload (pc' := 27) rfl rfl rfl ?_
  refine st_getfr (x := some a0) (Or.inl rfl) rfl hs0 rfl hr1 (pc' := 30) rfl ?_
  refine st_iload (pc' := 31) rfl rfl rfl ?_
  refine st_ipush (pc' := 32) (v := (-1)) rfl rfl (by decide) ?_
  refine st_iastore rfl hs2 hb3 (j := x1.toNatClampNeg) rfl (pc' := 33) rfl ?_
  refine st_iinc (pc' := 36) (v := 1) (ls' := [.ref r0, .int (x1 + 1), v2, v3, v4, v5]) rfl rfl rfl (by decide) rfl ?_
  exact st_goto rfl k
theorem B_Md_layNodes_39 {d : Nat} {h : PH} {Q : PQ} {r0 : Nat} {x1 : Int32} {v2 : Value} {v3 : Value} {v4 : Value} {v5 : Value}  (k : wpx d P_Md_layNodes 41 [.ref r0, .int 0, v2, v3, v4, v5] [] h Q) : wpx d P_Md_layNodes 39 [.ref r0, .int x1, v2, v3, v4, v5] [] h Q := by
  refine st_ipush (pc' := 40) (v := 0) rfl rfl (by decide) ?_
  refine st_istore (pc' := 41) (ls' := [.ref r0, .int 0, v2, v3, v4, v5]) rfl rfl (Nat.le_of_ble_eq_true rfl) rfl ?_
  exact k
theorem B_Md_layNodes_41 {d : Nat} {h : PH} {Q : PQ} {r0 : Nat} {x1 : Int32} {v2 : Value} {v3 : Value} {v4 : Value} {v5 : Value} (hs0 : h_sh h r0 = some (0, 12)) (kt : (h_i h r0 4) ≤ x1 → wpx d P_Md_layNodes 219 [.ref r0, .int x1, v2, v3, v4, v5] [] h Q) (kf : ¬ ((h_i h r0 4) ≤ x1) → wpx d P_Md_layNodes 49 [.ref r0, .int x1, v2, v3, v4, v5] [] h Q) : wpx d P_Md_layNodes 41 [.ref r0, .int x1, v2, v3, v4, v5] [] h Q := by
  refine st_iload (pc' := 42) rfl rfl rfl ?_
  refine st_aload (pc' := 43) rfl rfl rfl ?_
  refine st_getfi (Or.inl rfl) rfl hs0 rfl (pc' := 46) rfl ?_
  exact st_icmp_ge (pc' := 49) rfl rfl kt kf
theorem B_Md_layNodes_49 {d : Nat} {h : PH} {Q : PQ} {r0 : Nat} {x1 : Int32} {v2 : Value} {v3 : Value} {v4 : Value} {v5 : Value}  (k : wpx d P_Md_layNodes 53 [.ref r0, .int x1, .int 0, .int 0, v4, v5] [] h Q) : wpx d P_Md_layNodes 49 [.ref r0, .int x1, v2, v3, v4, v5] [] h Q := by
  refine st_ipush (pc' := 50) (v := 0) rfl rfl (by decide) ?_
  refine st_istore (pc' := 51) (ls' := [.ref r0, .int x1, .int 0, v3, v4, v5]) rfl rfl (Nat.le_of_ble_eq_true rfl) rfl ?_
  refine st_ipush (pc' := 52) (v := 0) rfl rfl (by decide) ?_
  refine st_istore (pc' := 53) (ls' := [.ref r0, .int x1, .int 0, .int 0, v4, v5]) rfl rfl (Nat.le_of_ble_eq_true rfl) rfl ?_
  exact k
theorem B_Md_layNodes_53 {d : Nat} {h : PH} {Q : PQ} {r0 : Nat} {x1 : Int32} {x2 : Int32} {x3 : Int32} {v4 : Value} {v5 : Value} {a0 : Nat} {n1 : Nat} (hs0 : h_sh h r0 = some (0, 12)) (hr1 : h_r h r0 2 = some a0) (hs2 : h_sh h a0 = some (1, n1)) (hb3 : vp_in x1 n1) (kt : (h_i h a0 x1.toNatClampNeg) ≤ x3 → wpx d P_Md_layNodes 213 [.ref r0, .int x1, .int x2, .int x3, v4, v5] [] h Q) (kf : ¬ ((h_i h a0 x1.toNatClampNeg) ≤ x3) → wpx d P_Md_layNodes 63 [.ref r0, .int x1, .int x2, .int x3, v4, v5] [] h Q) : wpx d P_Md_layNodes 53 [.ref r0, .int x1, .int x2, .int x3, v4, v5] [] h Q := by
  refine st_iload (pc' := 54) rfl rfl rfl ?_
  refine st_aload (pc' := 55) rfl rfl rfl ?_
  refine st_getfr (x := some a0) (Or.inl rfl) rfl hs0 rfl hr1 (pc' := 58) rfl ?_
  refine st_iload (pc' := 59) rfl rfl rfl ?_
  refine st_iaload rfl hs2 hb3 (j := x1.toNatClampNeg) rfl (pc' := 60) rfl ?_
  exact st_icmp_ge (pc' := 63) rfl rfl kt kf
theorem B_Md_layNodes_63 {d : Nat} {h : PH} {Q : PQ} {r0 : Nat} {x1 : Int32} {x2 : Int32} {x3 : Int32} {v4 : Value} {v5 : Value} (hs0 : h_sh h r0 = some (0, 12)) (k : wpm d 171 [.int (h_i h r0 6), .int x1] h (fun r h' => wpx d P_Md_layNodes 71 [.ref r0, .int x1, .int x2, .int x3, v4, v5] (r.toList ++ []) h' Q)) : wpx d P_Md_layNodes 63 [.ref r0, .int x1, .int x2, .int x3, v4, v5] [] h Q := by
  refine st_aload (pc' := 64) rfl rfl rfl ?_
  refine st_getfi (Or.inl rfl) rfl hs0 rfl (pc' := 67) rfl ?_
  refine st_iload (pc' := 68) rfl rfl rfl ?_
  exact st_call (pc' := 71) (as := [.int (h_i h r0 6), .int x1]) (rest := []) rfl rfl (Nat.le_of_ble_eq_true rfl) rfl rfl (Nat.le_of_ble_eq_true rfl) (kd := 0) (o := 12) rfl rfl rfl k
theorem B_Md_layNodes_71 {d : Nat} {h : PH} {Q : PQ} {r0 : Nat} {x1 : Int32} {x2 : Int32} {x3 : Int32} {v4 : Value} {v5 : Value} {s0 : Int32}  (kt : s0 = 0 → wpx d P_Md_layNodes 213 [.ref r0, .int x1, .int x2, .int x3, v4, v5] [] h Q) (kf : ¬ (s0 = 0) → wpx d P_Md_layNodes 74 [.ref r0, .int x1, .int x2, .int x3, v4, v5] [] h Q) : wpx d P_Md_layNodes 71 [.ref r0, .int x1, .int x2, .int x3, v4, v5] [.int s0] h Q := by
  exact st_if_eq (pc' := 74) rfl rfl kt kf
theorem B_Md_layNodes_74 {d : Nat} {h : PH} {Q : PQ} {r0 : Nat} {x1 : Int32} {x2 : Int32} {x3 : Int32} {v4 : Value} {v5 : Value} (hs0 : h_sh h r0 = some (0, 12)) (k : wpm d 175 [.ref r0, .int x1, .int x3] h (fun r h' => wpx d P_Md_layNodes 80 [.ref r0, .int x1, .int x2, .int x3, v4, v5] (r.toList ++ []) h' Q)) : wpx d P_Md_layNodes 74 [.ref r0, .int x1, .int x2, .int x3, v4, v5] [] h Q := by
  refine st_aload (pc' := 75) rfl rfl rfl ?_
  refine st_iload (pc' := 76) rfl rfl rfl ?_
  refine st_iload (pc' := 77) rfl rfl rfl ?_
  exact st_call (pc' := 80) (as := [.ref r0, .int x1, .int x3]) (rest := []) rfl rfl (Nat.le_of_ble_eq_true rfl) rfl rfl (Nat.le_of_ble_eq_true rfl) (kd := 1) (o := 12) rfl rfl (beq_iff_eq.mpr hs0) k
theorem B_Md_layNodes_80 {d : Nat} {h : PH} {Q : PQ} {r0 : Nat} {x1 : Int32} {x2 : Int32} {x3 : Int32} {v4 : Value} {v5 : Value} {s0 : Int32} {a0 : Nat} {n1 : Nat} (hs0 : h_sh h r0 = some (0, 12)) (hr1 : h_r h r0 51 = some a0) (hs2 : h_sh h a0 = some (1, n1)) (hb3 : vp_in (((27 : Int32) * x2) + (s0 - (97 : Int32))) n1) (kt : 0 ≤ (h_i h a0 (((27 : Int32) * x2) + (s0 - (97 : Int32))).toNatClampNeg) → wpx d P_Md_layNodes 168 [.ref r0, .int x1, .int x2, .int x3, .int (s0 - (97 : Int32)), v5] [] h Q) (kf : ¬ (0 ≤ (h_i h a0 (((27 : Int32) * x2) + (s0 - (97 : Int32))).toNatClampNeg)) → wpx d P_Md_layNodes 100 [.ref r0, .int x1, .int x2, .int x3, .int (s0 - (97 : Int32)), v5] [] h Q) : wpx d P_Md_layNodes 80 [.ref r0, .int x1, .int x2, .int x3, v4, v5] [.int s0] h Q := by
  refine st_ipush (pc' := 82) (v := 97) rfl rfl (by decide) ?_
  refine st_isub (pc' := 83) rfl rfl ?_
  refine st_istore (pc' := 85) (ls' := [.ref r0, .int x1, .int x2, .int x3, .int (s0 - (97 : Int32)), v5]) rfl rfl (Nat.le_of_ble_eq_true rfl) rfl ?_
  refine st_aload (pc' := 86) rfl rfl rfl ?_
  refine st_getfr (x := some a0) (Or.inl rfl) rfl hs0 rfl hr1 (pc' := 89) rfl ?_
  refine st_ipush (pc' := 91) (v := 27) rfl rfl (by decide) ?_
  refine st_iload (pc' := 92) rfl rfl rfl ?_
  refine st_imul (pc' := 93) rfl rfl ?_
  refine st_iload (pc' := 95) rfl rfl rfl ?_
  refine st_iadd (pc' := 96) rfl rfl ?_
  refine st_iaload rfl hs2 hb3 (j := (((27 : Int32) * x2) + (s0 - (97 : Int32))).toNatClampNeg) rfl (pc' := 97) rfl ?_
  exact st_if_ge (pc' := 100) rfl rfl kt kf
theorem B_Md_layNodes_100 {d : Nat} {h : PH} {Q : PQ} {r0 : Nat} {x1 : Int32} {x2 : Int32} {x3 : Int32} {x4 : Int32} {v5 : Value} {a0 : Nat} {n1 : Nat} {a2 : Nat} {n3 : Nat} (hs0 : h_sh h r0 = some (0, 12)) (hr1 : h_r h r0 51 = some a0) (hs2 : h_sh h a0 = some (1, n1)) (hb3 : vp_in (((27 : Int32) * x2) + x4) n1) (hr4 : h_r h r0 52 = some a2) (hs5 : h_sh h a2 = some (3, n3)) (hb6 : vp_in (h_i (w_i h a0 ((((27 : Int32) * x2) + x4).toNatClampNeg) (h_i h r0 53)) r0 53) n3) (k : wpx d P_Md_layNodes 129 [.ref r0, .int x1, .int x2, .int x3, .int x4, .int 0] [] (w_i (w_i h a0 ((((27 : Int32) * x2) + x4).toNatClampNeg) (h_i h r0 53)) a2 ((h_i (w_i h a0 ((((27 : Int32) * x2) + x4).toNatClampNeg) (h_i h r0 53)) r0 53).toNatClampNeg) ((0 : Int32) &&& 1)) Q) : wpx d P_Md_layNodes 100 [.ref r0, .int x1, .int x2, .int x3, .int x4, v5] [] h Q := by
  refine st_aload (pc' := 101) rfl rfl rfl ?_
  refine st_getfr (x := some a0) (Or.inl rfl) rfl hs0 rfl hr1 (pc' := 104) rfl ?_
  refine st_ipush (pc' := 106) (v := 27) rfl rfl (by decide) ?_
  refine st_iload (pc' := 107) rfl rfl rfl ?_
  refine st_imul (pc' := 108) rfl rfl ?_
  refine st_iload (pc' := 110) rfl rfl rfl ?_
  refine st_iadd (pc' := 111) rfl rfl ?_
  refine st_aload (pc' := 112) rfl rfl rfl ?_
  refine st_getfi (Or.inl rfl) rfl hs0 rfl (pc' := 115) rfl ?_
  refine st_iastore rfl hs2 hb3 (j := (((27 : Int32) * x2) + x4).toNatClampNeg) rfl (pc' := 116) rfl ?_
  refine st_aload (pc' := 117) rfl rfl rfl ?_
  refine st_getfr (x := some a2) (Or.inl rfl) rfl hs0 rfl hr4 (pc' := 120) rfl ?_
  refine st_aload (pc' := 121) rfl rfl rfl ?_
  refine st_getfi (Or.inl rfl) rfl hs0 rfl (pc' := 124) rfl ?_
  refine st_ipush (pc' := 125) (v := 0) rfl rfl (by decide) ?_
  refine st_zastore rfl hs5 hb6 (j := (h_i (w_i h a0 ((((27 : Int32) * x2) + x4).toNatClampNeg) (h_i h r0 53)) r0 53).toNatClampNeg) rfl (pc' := 126) rfl ?_
  refine st_ipush (pc' := 127) (v := 0) rfl rfl (by decide) ?_
  refine st_istore (pc' := 129) (ls' := [.ref r0, .int x1, .int x2, .int x3, .int x4, .int 0]) rfl rfl (Nat.le_of_ble_eq_true rfl) rfl ?_
  exact k
theorem B_Md_layNodes_129 {d : Nat} {h : PH} {Q : PQ} {r0 : Nat} {x1 : Int32} {x2 : Int32} {x3 : Int32} {x4 : Int32} {x5 : Int32}  (kt : (27 : Int32) ≤ x5 → wpx d P_Md_layNodes 158 [.ref r0, .int x1, .int x2, .int x3, .int x4, .int x5] [] h Q) (kf : ¬ ((27 : Int32) ≤ x5) → wpx d P_Md_layNodes 136 [.ref r0, .int x1, .int x2, .int x3, .int x4, .int x5] [] h Q) : wpx d P_Md_layNodes 129 [.ref r0, .int x1, .int x2, .int x3, .int x4, .int x5] [] h Q := by
  refine st_iload (pc' := 131) rfl rfl rfl ?_
  refine st_ipush (pc' := 133) (v := 27) rfl rfl (by decide) ?_
  exact st_icmp_ge (pc' := 136) rfl rfl kt kf
theorem B_Md_layNodes_136 {d : Nat} {h : PH} {Q : PQ} {r0 : Nat} {x1 : Int32} {x2 : Int32} {x3 : Int32} {x4 : Int32} {x5 : Int32} {a0 : Nat} {n1 : Nat} (hs0 : h_sh h r0 = some (0, 12)) (hr1 : h_r h r0 51 = some a0) (hs2 : h_sh h a0 = some (1, n1)) (hb3 : vp_in (((27 : Int32) * (h_i h r0 53)) + x5) n1) (k : wpx d P_Md_layNodes 129 [.ref r0, .int x1, .int x2, .int x3, .int x4, .int (x5 + 1)] [] (w_i h a0 ((((27 : Int32) * (h_i h r0 53)) + x5).toNatClampNeg) (-1)) Q) : wpx d P_Md_layNodes 136 [.ref r0, .int x1, .int x2, .int x3, .int x4, .int x5] [] h Q := by
  refine st_aload (pc' := 137) rfl rfl rfl ?_
  refine st_getfr (x := some a0) (Or.inl rfl) rfl hs0 rfl hr1 (pc' := 140) rfl ?_
  refine st_ipush (pc' := 142) (v := 27) rfl rfl (by decide) ?_
  refine st_aload (pc' := 143) rfl rfl rfl ?_
  refine st_getfi (Or.inl rfl) rfl hs0 rfl (pc' := 146) rfl ?_
  refine st_imul (pc' := 147) rfl rfl ?_
  refine st_iload (pc' := 149) rfl rfl rfl ?_
  refine st_iadd (pc' := 150) rfl rfl ?_
  refine st_ipush (pc' := 151) (v := (-1)) rfl rfl (by decide) ?_
  refine st_iastore rfl hs2 hb3 (j := (((27 : Int32) * (h_i h r0 53)) + x5).toNatClampNeg) rfl (pc' := 152) rfl ?_
  refine st_iinc (pc' := 155) (v := 1) (ls' := [.ref r0, .int x1, .int x2, .int x3, .int x4, .int (x5 + 1)]) rfl rfl rfl (by decide) rfl ?_
  exact st_goto rfl k
theorem B_Md_layNodes_158 {d : Nat} {h : PH} {Q : PQ} {r0 : Nat} {x1 : Int32} {x2 : Int32} {x3 : Int32} {x4 : Int32} {x5 : Int32} (hs0 : h_sh h r0 = some (0, 12)) (k : wpx d P_Md_layNodes 168 [.ref r0, .int x1, .int x2, .int x3, .int x4, .int x5] [] (w_i h r0 53 ((h_i h r0 53) + (1 : Int32))) Q) : wpx d P_Md_layNodes 158 [.ref r0, .int x1, .int x2, .int x3, .int x4, .int x5] [] h Q := by
  refine st_aload (pc' := 159) rfl rfl rfl ?_
  refine st_dup (pc' := 160) rfl rfl rfl ?_
  refine st_getfi (Or.inl rfl) rfl hs0 rfl (pc' := 163) rfl ?_
  refine st_ipush (pc' := 164) (v := 1) rfl rfl (by decide) ?_
  refine st_iadd (pc' := 165) rfl rfl ?_
  refine st_putf (h' := w_i h r0 53 ((h_i h r0 53) + (1 : Int32))) (Or.inl rfl) rfl hs0 rfl rfl rfl (pc' := 168) rfl ?_
  exact k
theorem B_Md_layNodes_168 {d : Nat} {h : PH} {Q : PQ} {r0 : Nat} {x1 : Int32} {x2 : Int32} {x3 : Int32} {x4 : Int32} {v5 : Value} {a0 : Nat} {n1 : Nat} {a2 : Nat} {n3 : Nat} {a4 : Nat} {n5 : Nat} (hs0 : h_sh h r0 = some (0, 12)) (hr1 : h_r h r0 51 = some a0) (hs2 : h_sh h a0 = some (1, n1)) (hb3 : vp_in (((27 : Int32) * x2) + x4) n1) (hr4 : h_r h r0 52 = some a2) (hs5 : h_sh h a2 = some (3, n3)) (hb6 : vp_in (h_i h a0 (((27 : Int32) * x2) + x4).toNatClampNeg) n3) (hr7 : h_r h r0 2 = some a4) (hs8 : h_sh h a4 = some (1, n5)) (hb9 : vp_in x1 n5) (kt : ¬ (x3 = ((h_i h a4 x1.toNatClampNeg) - (1 : Int32))) → wpx d P_Md_layNodes 204 [.ref r0, .int x1, .int (h_i h a0 (((27 : Int32) * x2) + x4).toNatClampNeg), .int x3, .int x4, v5] [.int (h_i h a2 (h_i h a0 (((27 : Int32) * x2) + x4).toNatClampNeg).toNatClampNeg), .int (h_i h a0 (((27 : Int32) * x2) + x4).toNatClampNeg), .ref a2] h Q) (kf : x3 = ((h_i h a4 x1.toNatClampNeg) - (1 : Int32)) → wpx d P_Md_layNodes 200 [.ref r0, .int x1, .int (h_i h a0 (((27 : Int32) * x2) + x4).toNatClampNeg), .int x3, .int x4, v5] [.int (h_i h a2 (h_i h a0 (((27 : Int32) * x2) + x4).toNatClampNeg).toNatClampNeg), .int (h_i h a0 (((27 : Int32) * x2) + x4).toNatClampNeg), .ref a2] h Q) : wpx d P_Md_layNodes 168 [.ref r0, .int x1, .int x2, .int x3, .int x4, v5] [] h Q := by
  refine st_aload (pc' := 169) rfl rfl rfl ?_
  refine st_getfr (x := some a0) (Or.inl rfl) rfl hs0 rfl hr1 (pc' := 172) rfl ?_
  refine st_ipush (pc' := 174) (v := 27) rfl rfl (by decide) ?_
  refine st_iload (pc' := 175) rfl rfl rfl ?_
  refine st_imul (pc' := 176) rfl rfl ?_
  refine st_iload (pc' := 178) rfl rfl rfl ?_
  refine st_iadd (pc' := 179) rfl rfl ?_
  refine st_iaload rfl hs2 hb3 (j := (((27 : Int32) * x2) + x4).toNatClampNeg) rfl (pc' := 180) rfl ?_
  refine st_istore (pc' := 181) (ls' := [.ref r0, .int x1, .int (h_i h a0 (((27 : Int32) * x2) + x4).toNatClampNeg), .int x3, .int x4, v5]) rfl rfl (Nat.le_of_ble_eq_true rfl) rfl ?_
  refine st_aload (pc' := 182) rfl rfl rfl ?_
  refine st_getfr (x := some a2) (Or.inl rfl) rfl hs0 rfl hr4 (pc' := 185) rfl ?_
  refine st_iload (pc' := 186) rfl rfl rfl ?_
  refine st_dup211 (pc' := 187) rfl rfl ⟨rfl, rfl⟩ ?_
  refine st_baload rfl (Or.inr hs5) hb6 (j := (h_i h a0 (((27 : Int32) * x2) + x4).toNatClampNeg).toNatClampNeg) rfl (pc' := 188) rfl ?_
  refine st_iload (pc' := 189) rfl rfl rfl ?_
  refine st_aload (pc' := 190) rfl rfl rfl ?_
  refine st_getfr (x := some a4) (Or.inl rfl) rfl hs0 rfl hr7 (pc' := 193) rfl ?_
  refine st_iload (pc' := 194) rfl rfl rfl ?_
  refine st_iaload rfl hs8 hb9 (j := x1.toNatClampNeg) rfl (pc' := 195) rfl ?_
  refine st_ipush (pc' := 196) (v := 1) rfl rfl (by decide) ?_
  refine st_isub (pc' := 197) rfl rfl ?_
  exact st_icmp_ne (pc' := 200) rfl rfl kt kf
theorem B_Md_layNodes_200 {d : Nat} {h : PH} {Q : PQ} {r0 : Nat} {x1 : Int32} {x2 : Int32} {x3 : Int32} {x4 : Int32} {v5 : Value} {q0 : Nat} {s1 : Int32} {s2 : Int32}  (k : wpx d P_Md_layNodes 205 [.ref r0, .int x1, .int x2, .int x3, .int x4, v5] [.int 1, .int s2, .int s1, .ref q0] h Q) : wpx d P_Md_layNodes 200 [.ref r0, .int x1, .int x2, .int x3, .int x4, v5] [.int s2, .int s1, .ref q0] h Q := by
  refine st_ipush (pc' := 201) (v := 1) rfl rfl (by decide) ?_
  exact st_goto rfl k
theorem B_Md_layNodes_204 {d : Nat} {h : PH} {Q : PQ} {r0 : Nat} {x1 : Int32} {x2 : Int32} {x3 : Int32} {x4 : Int32} {v5 : Value} {q0 : Nat} {s1 : Int32} {s2 : Int32}  (k : wpx d P_Md_layNodes 205 [.ref r0, .int x1, .int x2, .int x3, .int x4, v5] [.int 0, .int s2, .int s1, .ref q0] h Q) : wpx d P_Md_layNodes 204 [.ref r0, .int x1, .int x2, .int x3, .int x4, v5] [.int s2, .int s1, .ref q0] h Q := by
  refine st_ipush (pc' := 205) (v := 0) rfl rfl (by decide) ?_
  exact k
theorem B_Md_layNodes_205 {d : Nat} {h : PH} {Q : PQ} {r0 : Nat} {x1 : Int32} {x2 : Int32} {x3 : Int32} {x4 : Int32} {v5 : Value} {q0 : Nat} {s1 : Int32} {s2 : Int32} {s3 : Int32} {n0 : Nat} (hs0 : h_sh h q0 = some (3, n0)) (hb1 : vp_in s1 n0) (k : wpx d P_Md_layNodes 53 [.ref r0, .int x1, .int x2, .int (x3 + 1), .int x4, v5] [] (w_i h q0 s1.toNatClampNeg ((s2 ||| s3) &&& 1)) Q) : wpx d P_Md_layNodes 205 [.ref r0, .int x1, .int x2, .int x3, .int x4, v5] [.int s3, .int s2, .int s1, .ref q0] h Q := by
  refine st_ior (pc' := 206) rfl rfl ?_
  refine st_zastore rfl hs0 hb1 (j := s1.toNatClampNeg) rfl (pc' := 207) rfl ?_
  refine st_iinc (pc' := 210) (v := 1) (ls' := [.ref r0, .int x1, .int x2, .int (x3 + 1), .int x4, v5]) rfl rfl rfl (by decide) rfl ?_
  exact st_goto rfl k
theorem B_Md_layNodes_213 {d : Nat} {h : PH} {Q : PQ} {r0 : Nat} {x1 : Int32} {x2 : Int32} {x3 : Int32} {v4 : Value} {v5 : Value}  (k : wpx d P_Md_layNodes 41 [.ref r0, .int (x1 + 1), .int x2, .int x3, v4, v5] [] h Q) : wpx d P_Md_layNodes 213 [.ref r0, .int x1, .int x2, .int x3, v4, v5] [] h Q := by
  refine st_iinc (pc' := 216) (v := 1) (ls' := [.ref r0, .int (x1 + 1), .int x2, .int x3, v4, v5]) rfl rfl rfl (by decide) rfl ?_
  exact st_goto rfl k
theorem B_Md_layNodes_219 {d : Nat} {h : PH} {Q : PQ} {r0 : Nat} {x1 : Int32} {v2 : Value} {v3 : Value} {v4 : Value} {v5 : Value}  (k : Q none h) : wpx d P_Md_layNodes 219 [.ref r0, .int x1, v2, v3, v4, v5] [] h Q := by
  exact st_return rfl k
theorem B_Md_often_0 {d : Nat} {h : PH} {Q : PQ} {l0 : Int64} {x2 : Int32}  (k : Q (some (.int ((((l0.toUInt64 >>> (((2 : Int32) * x2).toInt64.toUInt64 &&& Int64.toUInt64 63)).toInt64) &&& (3 : Int64)).toInt32))) h) : wpx d P_Md_often 0 [.long l0, .retAddr 2, .int x2] [] h Q := by
  refine st_lload (pc' := 1) rfl rfl rfl rfl ?_
  refine st_ipush (pc' := 2) (v := 2) rfl rfl (by decide) ?_
  refine st_iload (pc' := 3) rfl rfl rfl ?_
  refine st_imul (pc' := 4) rfl rfl ?_
  refine st_lushr (pc' := 5) rfl rfl ?_
  refine st_ldc2 (pc' := 8) (v := 3) rfl rfl (by decide) ?_
  refine st_land (pc' := 9) rfl rfl ?_
  refine st_l2i (pc' := 10) rfl rfl ?_
  exact st_ireturn (ty := .int) rfl rfl rfl k
theorem B_Md_oftenAt_0 {d : Nat} {h : PH} {Q : PQ} {r0 : Nat} {r1 : Nat} {x2 : Int32} {n0 : Nat} (hs0 : h_sh h r1 = some (4, n0)) (hb1 : vp_in (x2 / (32 : Int32)) n0) (k : wpm d 248 [.long (h_l h r1 (x2 / (32 : Int32)).toNatClampNeg), .int (x2 - x2 / (32 : Int32) * (32 : Int32))] h (fun r h' => wpx d P_Md_oftenAt 13 [.ref r0, .ref r1, .int x2] (r.toList ++ []) h' Q)) : wpx d P_Md_oftenAt 0 [.ref r0, .ref r1, .int x2] [] h Q := by
  refine st_aload (pc' := 1) rfl rfl rfl ?_
  refine st_iload (pc' := 2) rfl rfl rfl ?_
  refine st_ipush (pc' := 4) (v := 32) rfl rfl (by decide) ?_
  refine st_idiv rfl (by decide) (pc' := 5) rfl ?_
  refine st_laload rfl hs0 hb1 (j := (x2 / (32 : Int32)).toNatClampNeg) rfl (pc' := 6) rfl ?_
  refine st_iload (pc' := 7) rfl rfl rfl ?_
  refine st_ipush (pc' := 9) (v := 32) rfl rfl (by decide) ?_
  refine st_irem rfl (by decide) (pc' := 10) rfl ?_
  exact st_call (pc' := 13) (as := [.long (h_l h r1 (x2 / (32 : Int32)).toNatClampNeg), .int (x2 - x2 / (32 : Int32) * (32 : Int32))]) (rest := []) rfl rfl (Nat.le_of_ble_eq_true rfl) rfl rfl (Nat.le_of_ble_eq_true rfl) (kd := 0) (o := 12) rfl rfl rfl k
theorem B_Md_oftenAt_13 {d : Nat} {h : PH} {Q : PQ} {r0 : Nat} {r1 : Nat} {x2 : Int32} {s0 : Int32}  (k : Q (some (.int s0)) h) : wpx d P_Md_oftenAt 13 [.ref r0, .ref r1, .int x2] [.int s0] h Q := by
  exact st_ireturn (ty := .int) rfl rfl rfl k
theorem B_Md_adds_0 {d : Nat} {h : PH} {Q : PQ} {r0 : Nat} {x1 : Int32} {x2 : Int32} {v3 : Value} {v4 : Value} {a0 : Nat} (hs0 : h_sh h r0 = some (0, 12)) (hr1 : h_r h r0 60 = some a0) (k : wpm d 249 [.ref r0, .ref a0, .int x1] h (fun r h' => wpx d P_Md_adds 10 [.ref r0, .int x1, .int x2, v3, v4] (r.toList ++ [.int 2]) h' Q)) : wpx d P_Md_adds 0 [.ref r0, .int x1, .int x2, v3, v4] [] h Q := by
  refine st_ipush (pc' := 1) (v := 2) rfl rfl (by decide) ?_
  refine st_aload (pc' := 2) rfl rfl rfl ?_
  refine st_aload (pc' := 3) rfl rfl rfl ?_
  refine st_getfr (x := some a0) (Or.inl rfl) rfl hs0 rfl hr1 (pc' := 6) rfl ?_
  refine st_iload (pc' := 7) rfl rfl rfl ?_
  exact st_call (pc' := 10) (as := [.ref r0, .ref a0, .int x1]) (rest := [.int 2]) rfl rfl (Nat.le_of_ble_eq_true rfl) rfl rfl (Nat.le_of_ble_eq_true rfl) (kd := 1) (o := 12) rfl rfl (beq_iff_eq.mpr hs0) k
theorem B_Md_adds_10 {d : Nat} {h : PH} {Q : PQ} {r0 : Nat} {x1 : Int32} {x2 : Int32} {v3 : Value} {v4 : Value} {s0 : Int32} {s1 : Int32}  (k : wpm d 172 [.int s0, .int (s1 + x2)] h (fun r h' => wpx d P_Md_adds 15 [.ref r0, .int x1, .int x2, v3, v4] (r.toList ++ []) h' Q)) : wpx d P_Md_adds 10 [.ref r0, .int x1, .int x2, v3, v4] [.int s1, .int s0] h Q := by
  refine st_iload (pc' := 11) rfl rfl rfl ?_
  refine st_iadd (pc' := 12) rfl rfl ?_
  exact st_call (pc' := 15) (as := [.int s0, .int (s1 + x2)]) (rest := []) rfl rfl (Nat.le_of_ble_eq_true rfl) rfl rfl (Nat.le_of_ble_eq_true rfl) (kd := 0) (o := 12) rfl rfl rfl k
theorem B_Md_adds_15 {d : Nat} {h : PH} {Q : PQ} {r0 : Nat} {x1 : Int32} {x2 : Int32} {v3 : Value} {v4 : Value} {s0 : Int32} {a0 : Nat} {n1 : Nat} (hs0 : h_sh h r0 = some (0, 12)) (hr1 : h_r h r0 60 = some a0) (hs2 : h_sh h a0 = some (4, n1)) (hb3 : vp_in (x1 / (32 : Int32)) n1) (k : wpx d P_Md_adds 59 [.ref r0, .int x1, .int x2, .int s0, .int ((2 : Int32) * (x1 - x1 / (32 : Int32) * (32 : Int32)))] [] (w_l h a0 ((x1 / (32 : Int32)).toNatClampNeg) (((h_l h a0 (x1 / (32 : Int32)).toNatClampNeg) &&& (((3 : Int64) <<< (((2 : Int32) * (x1 - x1 / (32 : Int32) * (32 : Int32))).toInt64 &&& 63)) ^^^ (-1 : Int64))) ||| (s0.toInt64 <<< (((2 : Int32) * (x1 - x1 / (32 : Int32) * (32 : Int32))).toInt64 &&& 63)))) Q) : wpx d P_Md_adds 15 [.ref r0, .int x1, .int x2, v3, v4] [.int s0] h Q := by
  refine st_istore (pc' := 16) (ls' := [.ref r0, .int x1, .int x2, .int s0, v4]) rfl rfl (Nat.le_of_ble_eq_true rfl) rfl ?_
  refine st_ipush (pc' := 17) (v := 2) rfl rfl (by decide) ?_
  refine st_iload (pc' := 18) rfl rfl rfl ?_
  refine st_ipush (pc' := 20) (v := 32) rfl rfl (by decide) ?_
  refine st_irem rfl (by decide) (pc' := 21) rfl ?_
  refine st_imul (pc' := 22) rfl rfl ?_
  refine st_istore (pc' := 24) (ls' := [.ref r0, .int x1, .int x2, .int s0, .int ((2 : Int32) * (x1 - x1 / (32 : Int32) * (32 : Int32)))]) rfl rfl (Nat.le_of_ble_eq_true rfl) rfl ?_
  refine st_aload (pc' := 25) rfl rfl rfl ?_
  refine st_getfr (x := some a0) (Or.inl rfl) rfl hs0 rfl hr1 (pc' := 28) rfl ?_
  refine st_iload (pc' := 29) rfl rfl rfl ?_
  refine st_ipush (pc' := 31) (v := 32) rfl rfl (by decide) ?_
  refine st_idiv rfl (by decide) (pc' := 32) rfl ?_
  refine st_aload (pc' := 33) rfl rfl rfl ?_
  refine st_getfr (x := some a0) (Or.inl rfl) rfl hs0 rfl hr1 (pc' := 36) rfl ?_
  refine st_iload (pc' := 37) rfl rfl rfl ?_
  refine st_ipush (pc' := 39) (v := 32) rfl rfl (by decide) ?_
  refine st_idiv rfl (by decide) (pc' := 40) rfl ?_
  refine st_laload rfl hs2 hb3 (j := (x1 / (32 : Int32)).toNatClampNeg) rfl (pc' := 41) rfl ?_
  refine st_ldc2 (pc' := 44) (v := 3) rfl rfl (by decide) ?_
  refine st_iload (pc' := 46) rfl rfl rfl ?_
  refine st_lshl (pc' := 47) rfl rfl ?_
  refine st_ldc2 (pc' := 50) (v := (-1)) rfl rfl (by decide) ?_
  refine st_lxor (pc' := 51) rfl rfl ?_
  refine st_land (pc' := 52) rfl rfl ?_
  refine st_iload (pc' := 53) rfl rfl rfl ?_
  refine st_i2l (pc' := 54) rfl rfl ?_
  refine st_iload (pc' := 56) rfl rfl rfl ?_
  refine st_lshl (pc' := 57) rfl rfl ?_
  refine st_lor (pc' := 58) rfl rfl ?_
  refine st_lastore rfl hs2 hb3 (j := (x1 / (32 : Int32)).toNatClampNeg) rfl (pc' := 59) rfl ?_
  exact k
theorem B_Md_adds_59 {d : Nat} {h : PH} {Q : PQ} {r0 : Nat} {x1 : Int32} {x2 : Int32} {x3 : Int32} {x4 : Int32}  (k : Q none h) : wpx d P_Md_adds 59 [.ref r0, .int x1, .int x2, .int x3, .int x4] [] h Q := by
  exact st_return rfl k
theorem B_Md_steps_0 {d : Nat} {h : PH} {Q : PQ} {r0 : Nat} {x1 : Int32} {v2 : Value} {v3 : Value} {v4 : Value} {v5 : Value}  (k : wpx d P_Md_steps 2 [.ref r0, .int x1, .int 0, v3, v4, v5] [] h Q) : wpx d P_Md_steps 0 [.ref r0, .int x1, v2, v3, v4, v5] [] h Q := by
  refine st_ipush (pc' := 1) (v := 0) rfl rfl (by decide) ?_
  refine st_istore (pc' := 2) (ls' := [.ref r0, .int x1, .int 0, v3, v4, v5]) rfl rfl (Nat.le_of_ble_eq_true rfl) rfl ?_
  exact k
theorem B_Md_steps_2 {d : Nat} {h : PH} {Q : PQ} {r0 : Nat} {x1 : Int32} {x2 : Int32} {v3 : Value} {v4 : Value} {v5 : Value}  (kt : (4 : Int32) ≤ x2 → wpx d P_Md_steps 20 [.ref r0, .int x1, .int x2, v3, v4, v5] [] h Q) (kf : ¬ ((4 : Int32) ≤ x2) → wpx d P_Md_steps 7 [.ref r0, .int x1, .int x2, v3, v4, v5] [] h Q) : wpx d P_Md_steps 2 [.ref r0, .int x1, .int x2, v3, v4, v5] [] h Q := by
  refine st_iload (pc' := 3) rfl rfl rfl ?_
  refine st_ipush (pc' := 4) (v := 4) rfl rfl (by decide) ?_
  exact st_icmp_ge (pc' := 7) rfl rfl kt kf
theorem B_Md_steps_7 {d : Nat} {h : PH} {Q : PQ} {r0 : Nat} {x1 : Int32} {x2 : Int32} {v3 : Value} {v4 : Value} {v5 : Value} {a0 : Nat} {n1 : Nat} (hs0 : h_sh h r0 = some (0, 12)) (hr1 : h_r h r0 60 = some a0) (hs2 : h_sh h a0 = some (4, n1)) (hb3 : vp_in x2 n1) (k : wpx d P_Md_steps 2 [.ref r0, .int x1, .int (x2 + 1), v3, v4, v5] [] (w_l h a0 x2.toNatClampNeg 0) Q) : wpx d P_Md_steps 7 [.ref r0, .int x1, .int x2, v3, v4, v5] [] h Q := by
  refine st_aload (pc' := 8) rfl rfl rfl ?_
  refine st_getfr (x := some a0) (Or.inl rfl) rfl hs0 rfl hr1 (pc' := 11) rfl ?_
  refine st_iload (pc' := 12) rfl rfl rfl ?_
  refine st_lpush (pc' := 13) (v := 0) rfl rfl (by decide) ?_
  refine st_lastore rfl hs2 hb3 (j := x2.toNatClampNeg) rfl (pc' := 14) rfl ?_
  refine st_iinc (pc' := 17) (v := 1) (ls' := [.ref r0, .int x1, .int (x2 + 1), v3, v4, v5]) rfl rfl rfl (by decide) rfl ?_
  exact st_goto rfl k
theorem B_Md_steps_20 {d : Nat} {h : PH} {Q : PQ} {r0 : Nat} {x1 : Int32} {x2 : Int32} {v3 : Value} {v4 : Value} {v5 : Value}  (k : wpx d P_Md_steps 24 [.ref r0, .int x1, .int 0, .int 0, v4, v5] [] h Q) : wpx d P_Md_steps 20 [.ref r0, .int x1, .int x2, v3, v4, v5] [] h Q := by
  refine st_ipush (pc' := 21) (v := 0) rfl rfl (by decide) ?_
  refine st_istore (pc' := 22) (ls' := [.ref r0, .int x1, .int 0, v3, v4, v5]) rfl rfl (Nat.le_of_ble_eq_true rfl) rfl ?_
  refine st_ipush (pc' := 23) (v := 0) rfl rfl (by decide) ?_
  refine st_istore (pc' := 24) (ls' := [.ref r0, .int x1, .int 0, .int 0, v4, v5]) rfl rfl (Nat.le_of_ble_eq_true rfl) rfl ?_
  exact k
theorem B_Md_steps_24 {d : Nat} {h : PH} {Q : PQ} {r0 : Nat} {x1 : Int32} {x2 : Int32} {x3 : Int32} {v4 : Value} {v5 : Value} (hs0 : h_sh h r0 = some (0, 12)) (kt : (h_i h r0 53) ≤ x3 → wpx d P_Md_steps 106 [.ref r0, .int x1, .int x2, .int x3, v4, v5] [] h Q) (kf : ¬ ((h_i h r0 53) ≤ x3) → wpx d P_Md_steps 32 [.ref r0, .int x1, .int x2, .int x3, v4, v5] [] h Q) : wpx d P_Md_steps 24 [.ref r0, .int x1, .int x2, .int x3, v4, v5] [] h Q := by
  refine st_iload (pc' := 25) rfl rfl rfl ?_
  refine st_aload (pc' := 26) rfl rfl rfl ?_
  refine st_getfi (Or.inl rfl) rfl hs0 rfl (pc' := 29) rfl ?_
  exact st_icmp_ge (pc' := 32) rfl rfl kt kf
theorem B_Md_steps_32 {d : Nat} {h : PH} {Q : PQ} {r0 : Nat} {x1 : Int32} {x2 : Int32} {x3 : Int32} {v4 : Value} {v5 : Value} {a0 : Nat} (hs0 : h_sh h r0 = some (0, 12)) (hr1 : h_r h r0 59 = some a0) (k : wpm d 249 [.ref r0, .ref a0, .int x3] h (fun r h' => wpx d P_Md_steps 41 [.ref r0, .int x1, .int x2, .int x3, v4, v5] (r.toList ++ []) h' Q)) : wpx d P_Md_steps 32 [.ref r0, .int x1, .int x2, .int x3, v4, v5] [] h Q := by
  refine st_aload (pc' := 33) rfl rfl rfl ?_
  refine st_aload (pc' := 34) rfl rfl rfl ?_
  refine st_getfr (x := some a0) (Or.inl rfl) rfl hs0 rfl hr1 (pc' := 37) rfl ?_
  refine st_iload (pc' := 38) rfl rfl rfl ?_
  exact st_call (pc' := 41) (as := [.ref r0, .ref a0, .int x3]) (rest := []) rfl rfl (Nat.le_of_ble_eq_true rfl) rfl rfl (Nat.le_of_ble_eq_true rfl) (kd := 1) (o := 12) rfl rfl (beq_iff_eq.mpr hs0) k
theorem B_Md_steps_41 {d : Nat} {h : PH} {Q : PQ} {r0 : Nat} {x1 : Int32} {x2 : Int32} {x3 : Int32} {v4 : Value} {v5 : Value} {s0 : Int32}  (kt : ¬ (s0 = 0) → wpx d P_Md_steps 52 [.ref r0, .int x1, .int x2, .int x3, .int s0, v5] [] h Q) (kf : s0 = 0 → wpx d P_Md_steps 48 [.ref r0, .int x1, .int x2, .int x3, .int s0, v5] [] h Q) : wpx d P_Md_steps 41 [.ref r0, .int x1, .int x2, .int x3, v4, v5] [.int s0] h Q := by
  refine st_istore (pc' := 43) (ls' := [.ref r0, .int x1, .int x2, .int x3, .int s0, v5]) rfl rfl (Nat.le_of_ble_eq_true rfl) rfl ?_
  refine st_iload (pc' := 45) rfl rfl rfl ?_
  exact st_if_ne (pc' := 48) rfl rfl kt kf
theorem B_Md_steps_48 {d : Nat} {h : PH} {Q : PQ} {r0 : Nat} {x1 : Int32} {x2 : Int32} {x3 : Int32} {x4 : Int32} {v5 : Value}  (k : wpx d P_Md_steps 63 [.ref r0, .int x1, .int x2, .int x3, .int x4, v5] [.int (-1)] h Q) : wpx d P_Md_steps 48 [.ref r0, .int x1, .int x2, .int x3, .int x4, v5] [] h Q := by
  refine st_ipush (pc' := 49) (v := (-1)) rfl rfl (by decide) ?_
  exact st_goto rfl k
theorem B_Md_steps_52 {d : Nat} {h : PH} {Q : PQ} {r0 : Nat} {x1 : Int32} {x2 : Int32} {x3 : Int32} {x4 : Int32} {v5 : Value} {a0 : Nat} {n1 : Nat} (hs0 : h_sh h r0 = some (0, 12)) (hr1 : h_r h r0 51 = some a0) (hs2 : h_sh h a0 = some (1, n1)) (hb3 : vp_in (((27 : Int32) * x3) + x1) n1) (k : wpx d P_Md_steps 63 [.ref r0, .int x1, .int x2, .int x3, .int x4, v5] [.int (h_i h a0 (((27 : Int32) * x3) + x1).toNatClampNeg)] h Q) : wpx d P_Md_steps 52 [.ref r0, .int x1, .int x2, .int x3, .int x4, v5] [] h Q := by
  refine st_aload (pc' := 53) rfl rfl rfl ?_
  refine st_getfr (x := some a0) (Or.inl rfl) rfl hs0 rfl hr1 (pc' := 56) rfl ?_
  refine st_ipush (pc' := 58) (v := 27) rfl rfl (by decide) ?_
  refine st_iload (pc' := 59) rfl rfl rfl ?_
  refine st_imul (pc' := 60) rfl rfl ?_
  refine st_iload (pc' := 61) rfl rfl rfl ?_
  refine st_iadd (pc' := 62) rfl rfl ?_
  refine st_iaload rfl hs2 hb3 (j := (((27 : Int32) * x3) + x1).toNatClampNeg) rfl (pc' := 63) rfl ?_
  exact k
theorem B_Md_steps_63 {d : Nat} {h : PH} {Q : PQ} {r0 : Nat} {x1 : Int32} {x2 : Int32} {x3 : Int32} {x4 : Int32} {v5 : Value} {s0 : Int32}  (kt : 0 ≤ s0 → wpx d P_Md_steps 73 [.ref r0, .int x1, .int x2, .int x3, .int x4, .int s0] [] h Q) (kf : ¬ (0 ≤ s0) → wpx d P_Md_steps 70 [.ref r0, .int x1, .int x2, .int x3, .int x4, .int s0] [] h Q) : wpx d P_Md_steps 63 [.ref r0, .int x1, .int x2, .int x3, .int x4, v5] [.int s0] h Q := by
  refine st_istore (pc' := 65) (ls' := [.ref r0, .int x1, .int x2, .int x3, .int x4, .int s0]) rfl rfl (Nat.le_of_ble_eq_true rfl) rfl ?_
  refine st_iload (pc' := 67) rfl rfl rfl ?_
  exact st_if_ge (pc' := 70) rfl rfl kt kf
theorem B_Md_steps_70 {d : Nat} {h : PH} {Q : PQ} {r0 : Nat} {x1 : Int32} {x2 : Int32} {x3 : Int32} {x4 : Int32} {x5 : Int32}  (k : wpx d P_Md_steps 100 [.ref r0, .int x1, .int x2, .int x3, .int x4, .int x5] [] h Q) : wpx d P_Md_steps 70 [.ref r0, .int x1, .int x2, .int x3, .int x4, .int x5] [] h Q := by
  exact st_goto rfl k
theorem B_Md_steps_73 {d : Nat} {h : PH} {Q : PQ} {r0 : Nat} {x1 : Int32} {x2 : Int32} {x3 : Int32} {x4 : Int32} {x5 : Int32} (hs0 : h_sh h r0 = some (0, 12)) (k : wpm d 250 [.ref r0, .int x5, .int x4] h (fun r h' => wpx d P_Md_steps 83 [.ref r0, .int x1, .int 1, .int x3, .int x4, .int x5] (r.toList ++ []) h' Q)) : wpx d P_Md_steps 73 [.ref r0, .int x1, .int x2, .int x3, .int x4, .int x5] [] h Q := by
  refine st_ipush (pc' := 74) (v := 1) rfl rfl (by decide) ?_
  refine st_istore (pc' := 75) (ls' := [.ref r0, .int x1, .int 1, .int x3, .int x4, .int x5]) rfl rfl (Nat.le_of_ble_eq_true rfl) rfl ?_
  refine st_aload (pc' := 76) rfl rfl rfl ?_
  refine st_iload (pc' := 78) rfl rfl rfl ?_
  refine st_iload (pc' := 80) rfl rfl rfl ?_
  exact st_call (pc' := 83) (as := [.ref r0, .int x5, .int x4]) (rest := []) rfl rfl (Nat.le_of_ble_eq_true rfl) rfl rfl (Nat.le_of_ble_eq_true rfl) (kd := 1) (o := 12) rfl rfl (beq_iff_eq.mpr hs0) k
theorem B_Md_steps_83 {d : Nat} {h : PH} {Q : PQ} {r0 : Nat} {x1 : Int32} {x2 : Int32} {x3 : Int32} {x4 : Int32} {x5 : Int32} {a0 : Nat} {n1 : Nat} (hs0 : h_sh h r0 = some (0, 12)) (hr1 : h_r h r0 52 = some a0) (hs2 : h_sh h a0 = some (3, n1)) (hb3 : vp_in x5 n1) (kt : (h_i h a0 x5.toNatClampNeg) = 0 → wpx d P_Md_steps 100 [.ref r0, .int x1, .int x2, .int x3, .int x4, .int x5] [] h Q) (kf : ¬ ((h_i h a0 x5.toNatClampNeg) = 0) → wpx d P_Md_steps 93 [.ref r0, .int x1, .int x2, .int x3, .int x4, .int x5] [] h Q) : wpx d P_Md_steps 83 [.ref r0, .int x1, .int x2, .int x3, .int x4, .int x5] [] h Q := by
  refine st_aload (pc' := 84) rfl rfl rfl ?_
  refine st_getfr (x := some a0) (Or.inl rfl) rfl hs0 rfl hr1 (pc' := 87) rfl ?_
  refine st_iload (pc' := 89) rfl rfl rfl ?_
  refine st_baload rfl (Or.inr hs2) hb3 (j := x5.toNatClampNeg) rfl (pc' := 90) rfl ?_
  exact st_if_eq (pc' := 93) rfl rfl kt kf
theorem B_Md_steps_93 {d : Nat} {h : PH} {Q : PQ} {r0 : Nat} {x1 : Int32} {x2 : Int32} {x3 : Int32} {x4 : Int32} {x5 : Int32} (hs0 : h_sh h r0 = some (0, 12)) (k : wpm d 250 [.ref r0, .int 0, .int x4] h (fun r h' => wpx d P_Md_steps 100 [.ref r0, .int x1, .int x2, .int x3, .int x4, .int x5] (r.toList ++ []) h' Q)) : wpx d P_Md_steps 93 [.ref r0, .int x1, .int x2, .int x3, .int x4, .int x5] [] h Q := by
  refine st_aload (pc' := 94) rfl rfl rfl ?_
  refine st_ipush (pc' := 95) (v := 0) rfl rfl (by decide) ?_
  refine st_iload (pc' := 97) rfl rfl rfl ?_
  exact st_call (pc' := 100) (as := [.ref r0, .int 0, .int x4]) (rest := []) rfl rfl (Nat.le_of_ble_eq_true rfl) rfl rfl (Nat.le_of_ble_eq_true rfl) (kd := 1) (o := 12) rfl rfl (beq_iff_eq.mpr hs0) k
theorem B_Md_steps_100 {d : Nat} {h : PH} {Q : PQ} {r0 : Nat} {x1 : Int32} {x2 : Int32} {x3 : Int32} {x4 : Int32} {x5 : Int32}  (k : wpx d P_Md_steps 24 [.ref r0, .int x1, .int x2, .int (x3 + 1), .int x4, .int x5] [] h Q) : wpx d P_Md_steps 100 [.ref r0, .int x1, .int x2, .int x3, .int x4, .int x5] [] h Q := by
  refine st_iinc (pc' := 103) (v := 1) (ls' := [.ref r0, .int x1, .int x2, .int (x3 + 1), .int x4, .int x5]) rfl rfl rfl (by decide) rfl ?_
  exact st_goto rfl k
theorem B_Md_steps_106 {d : Nat} {h : PH} {Q : PQ} {r0 : Nat} {x1 : Int32} {x2 : Int32} {x3 : Int32} {v4 : Value} {v5 : Value} (hz0 : narrow .boolean (.int x2) = .int x2) (k : Q (some (.int x2)) h) : wpx d P_Md_steps 106 [.ref r0, .int x1, .int x2, .int x3, v4, v5] [] h Q := by
  refine st_iload (pc' := 107) rfl rfl rfl ?_
  exact st_ireturn (ty := .boolean) rfl rfl hz0 k
theorem B_Md_empties_0 {d : Nat} {h : PH} {Q : PQ} {r0 : Nat} {x1 : Int32} {v2 : Value}  (k : wpx d P_Md_empties 2 [.ref r0, .int x1, .int 0] [] h Q) : wpx d P_Md_empties 0 [.ref r0, .int x1, v2] [] h Q := by
  refine st_ipush (pc' := 1) (v := 0) rfl rfl (by decide) ?_
  refine st_istore (pc' := 2) (ls' := [.ref r0, .int x1, .int 0]) rfl rfl (Nat.le_of_ble_eq_true rfl) rfl ?_
  exact k
theorem B_Md_empties_2 {d : Nat} {h : PH} {Q : PQ} {r0 : Nat} {x1 : Int32} {x2 : Int32} {a0 : Nat} {n1 : Nat} (hs0 : h_sh h r0 = some (0, 12)) (hr1 : h_r h r0 58 = some a0) (hs2 : h_sh h a0 = some (1, n1)) (hb3 : vp_in x1 n1) (kt : (h_i h a0 x1.toNatClampNeg) ≤ x2 → wpx d P_Md_empties 36 [.ref r0, .int x1, .int x2] [] h Q) (kf : ¬ ((h_i h a0 x1.toNatClampNeg) ≤ x2) → wpx d P_Md_empties 12 [.ref r0, .int x1, .int x2] [] h Q) : wpx d P_Md_empties 2 [.ref r0, .int x1, .int x2] [] h Q := by
  refine st_iload (pc' := 3) rfl rfl rfl ?_
  refine st_aload (pc' := 4) rfl rfl rfl ?_
  refine st_getfr (x := some a0) (Or.inl rfl) rfl hs0 rfl hr1 (pc' := 7) rfl ?_
  refine st_iload (pc' := 8) rfl rfl rfl ?_
  refine st_iaload rfl hs2 hb3 (j := x1.toNatClampNeg) rfl (pc' := 9) rfl ?_
  exact st_icmp_ge (pc' := 12) rfl rfl kt kf
theorem B_Md_empties_12 {d : Nat} {h : PH} {Q : PQ} {r0 : Nat} {x1 : Int32} {x2 : Int32} {a0 : Nat} {a1 : Nat} {n2 : Nat} {n3 : Nat} (hs0 : h_sh h r0 = some (0, 12)) (hr1 : h_r h r0 56 = some a0) (hr2 : h_r h r0 57 = some a1) (hs3 : h_sh h a1 = some (1, n2)) (hb4 : vp_in (((16384 : Int32) * x1) + x2) n2) (hs5 : h_sh h a0 = some (3, n3)) (hb6 : vp_in (h_i h a1 (((16384 : Int32) * x1) + x2).toNatClampNeg) n3) (k : wpx d P_Md_empties 2 [.ref r0, .int x1, .int (x2 + 1)] [] (w_i h a0 ((h_i h a1 (((16384 : Int32) * x1) + x2).toNatClampNeg).toNatClampNeg) ((0 : Int32) &&& 1)) Q) : wpx d P_Md_empties 12 [.ref r0, .int x1, .int x2] [] h Q := by
  refine st_aload (pc' := 13) rfl rfl rfl ?_
  refine st_getfr (x := some a0) (Or.inl rfl) rfl hs0 rfl hr1 (pc' := 16) rfl ?_
  refine st_aload (pc' := 17) rfl rfl rfl ?_
  refine st_getfr (x := some a1) (Or.inl rfl) rfl hs0 rfl hr2 (pc' := 20) rfl ?_
  refine st_ipush (pc' := 23) (v := 16384) rfl rfl (by decide) ?_
  refine st_iload (pc' := 24) rfl rfl rfl ?_
  refine st_imul (pc' := 25) rfl rfl ?_
  refine st_iload (pc' := 26) rfl rfl rfl ?_
  refine st_iadd (pc' := 27) rfl rfl ?_
  refine st_iaload rfl hs3 hb4 (j := (((16384 : Int32) * x1) + x2).toNatClampNeg) rfl (pc' := 28) rfl ?_
  refine st_ipush (pc' := 29) (v := 0) rfl rfl (by decide) ?_
  refine st_zastore rfl hs5 hb6 (j := (h_i h a1 (((16384 : Int32) * x1) + x2).toNatClampNeg).toNatClampNeg) rfl (pc' := 30) rfl ?_
  refine st_iinc (pc' := 33) (v := 1) (ls' := [.ref r0, .int x1, .int (x2 + 1)]) rfl rfl rfl (by decide) rfl ?_
  exact st_goto rfl k
theorem B_Md_empties_36 {d : Nat} {h : PH} {Q : PQ} {r0 : Nat} {x1 : Int32} {x2 : Int32} {a0 : Nat} {n1 : Nat} (hs0 : h_sh h r0 = some (0, 12)) (hr1 : h_r h r0 58 = some a0) (hs2 : h_sh h a0 = some (1, n1)) (hb3 : vp_in x1 n1) (k : Q none (w_i h a0 x1.toNatClampNeg 0)) : wpx d P_Md_empties 36 [.ref r0, .int x1, .int x2] [] h Q := by
  refine st_aload (pc' := 37) rfl rfl rfl ?_
  refine st_getfr (x := some a0) (Or.inl rfl) rfl hs0 rfl hr1 (pc' := 40) rfl ?_
  refine st_iload (pc' := 41) rfl rfl rfl ?_
  refine st_ipush (pc' := 42) (v := 0) rfl rfl (by decide) ?_
  refine st_iastore rfl hs2 hb3 (j := x1.toNatClampNeg) rfl (pc' := 43) rfl ?_
  exact st_return rfl k
theorem B_Md_isThere_0 {d : Nat} {h : PH} {Q : PQ} {r0 : Nat} {x1 : Int32} {v2 : Value}  (k : wpx d P_Md_isThere 2 [.ref r0, .int x1, .int 0] [] h Q) : wpx d P_Md_isThere 0 [.ref r0, .int x1, v2] [] h Q := by
  refine st_ipush (pc' := 1) (v := 0) rfl rfl (by decide) ?_
  refine st_istore (pc' := 2) (ls' := [.ref r0, .int x1, .int 0]) rfl rfl (Nat.le_of_ble_eq_true rfl) rfl ?_
  exact k
theorem B_Md_isThere_2 {d : Nat} {h : PH} {Q : PQ} {r0 : Nat} {x1 : Int32} {x2 : Int32}  (kt : (4 : Int32) ≤ x2 → wpx d P_Md_isThere 35 [.ref r0, .int x1, .int x2] [] h Q) (kf : ¬ ((4 : Int32) ≤ x2) → wpx d P_Md_isThere 7 [.ref r0, .int x1, .int x2] [] h Q) : wpx d P_Md_isThere 2 [.ref r0, .int x1, .int x2] [] h Q := by
  refine st_iload (pc' := 3) rfl rfl rfl ?_
  refine st_ipush (pc' := 4) (v := 4) rfl rfl (by decide) ?_
  exact st_icmp_ge (pc' := 7) rfl rfl kt kf
theorem B_Md_isThere_7 {d : Nat} {h : PH} {Q : PQ} {r0 : Nat} {x1 : Int32} {x2 : Int32} {a0 : Nat} {n1 : Nat} {a2 : Nat} {n3 : Nat} (hs0 : h_sh h r0 = some (0, 12)) (hr1 : h_r h r0 54 = some a0) (hs2 : h_sh h a0 = some (4, n1)) (hb3 : vp_in (((4 : Int32) * x1) + x2) n1) (hr4 : h_r h r0 60 = some a2) (hs5 : h_sh h a2 = some (4, n3)) (hb6 : vp_in x2 n3) (kt : (lg_cmp (h_l h a0 (((4 : Int32) * x1) + x2).toNatClampNeg) (h_l h a2 x2.toNatClampNeg)) = 0 → wpx d P_Md_isThere 29 [.ref r0, .int x1, .int x2] [] h Q) (kf : ¬ ((lg_cmp (h_l h a0 (((4 : Int32) * x1) + x2).toNatClampNeg) (h_l h a2 x2.toNatClampNeg)) = 0) → wpx d P_Md_isThere 27 [.ref r0, .int x1, .int x2] [] h Q) : wpx d P_Md_isThere 7 [.ref r0, .int x1, .int x2] [] h Q := by
  refine st_aload (pc' := 8) rfl rfl rfl ?_
  refine st_getfr (x := some a0) (Or.inl rfl) rfl hs0 rfl hr1 (pc' := 11) rfl ?_
  refine st_ipush (pc' := 12) (v := 4) rfl rfl (by decide) ?_
  refine st_iload (pc' := 13) rfl rfl rfl ?_
  refine st_imul (pc' := 14) rfl rfl ?_
  refine st_iload (pc' := 15) rfl rfl rfl ?_
  refine st_iadd (pc' := 16) rfl rfl ?_
  refine st_laload rfl hs2 hb3 (j := (((4 : Int32) * x1) + x2).toNatClampNeg) rfl (pc' := 17) rfl ?_
  refine st_aload (pc' := 18) rfl rfl rfl ?_
  refine st_getfr (x := some a2) (Or.inl rfl) rfl hs0 rfl hr4 (pc' := 21) rfl ?_
  refine st_iload (pc' := 22) rfl rfl rfl ?_
  refine st_laload rfl hs5 hb6 (j := x2.toNatClampNeg) rfl (pc' := 23) rfl ?_
  refine st_lcmp (pc' := 24) rfl rfl ?_
  exact st_if_eq (pc' := 27) rfl rfl kt kf
theorem B_Md_isThere_27 {d : Nat} {h : PH} {Q : PQ} {r0 : Nat} {x1 : Int32} {x2 : Int32}  (k : Q (some (.int 0)) h) : wpx d P_Md_isThere 27 [.ref r0, .int x1, .int x2] [] h Q := by
  refine st_ipush (pc' := 28) (v := 0) rfl rfl (by decide) ?_
  exact st_ireturn (ty := .boolean) rfl rfl (by decide) k
theorem B_Md_isThere_29 {d : Nat} {h : PH} {Q : PQ} {r0 : Nat} {x1 : Int32} {x2 : Int32}  (k : wpx d P_Md_isThere 2 [.ref r0, .int x1, .int (x2 + 1)] [] h Q) : wpx d P_Md_isThere 29 [.ref r0, .int x1, .int x2] [] h Q := by
  refine st_iinc (pc' := 32) (v := 1) (ls' := [.ref r0, .int x1, .int (x2 + 1)]) rfl rfl rfl (by decide) rfl ?_
  exact st_goto rfl k
theorem B_Md_isThere_35 {d : Nat} {h : PH} {Q : PQ} {r0 : Nat} {x1 : Int32} {x2 : Int32}  (k : Q (some (.int 1)) h) : wpx d P_Md_isThere 35 [.ref r0, .int x1, .int x2] [] h Q := by
  refine st_ipush (pc' := 36) (v := 1) rfl rfl (by decide) ?_
  exact st_ireturn (ty := .boolean) rfl rfl (by decide) k
theorem B_Md_counts_0 {d : Nat} {h : PH} {Q : PQ} {r0 : Nat} {x1 : Int32} {l2 : Int64} {v4 : Value} {v5 : Value} {v6 : Value} {v7 : Value} {a0 : Nat} {n1 : Nat} (hs0 : h_sh h r0 = some (0, 12)) (hr1 : h_r h r0 60 = some a0) (hs2 : h_sh h a0 = some (4, n1)) (hb3 : vp_in 0 n1) (hb4 : vp_in 1 n1) (hb5 : vp_in 2 n1) (hb6 : vp_in 3 n1) (k : wpx d P_Md_counts 72 [.ref r0, .int x1, .long l2, .retAddr 2, .long (((((((h_l h a0 0) * (31 : Int64)) + ((h_l h a0 1) * (1000003 : Int64))) + ((h_l h a0 2) * (7919 : Int64))) + (h_l h a0 3)) ^^^ (((((((h_l h a0 0) * (31 : Int64)) + ((h_l h a0 1) * (1000003 : Int64))) + ((h_l h a0 2) * (7919 : Int64))) + (h_l h a0 3)).toUInt64 >>> ((17 : Int32).toInt64.toUInt64 &&& Int64.toUInt64 63)).toInt64)) ^^^ (((((((h_l h a0 0) * (31 : Int64)) + ((h_l h a0 1) * (1000003 : Int64))) + ((h_l h a0 2) * (7919 : Int64))) + (h_l h a0 3)).toUInt64 >>> ((37 : Int32).toInt64.toUInt64 &&& Int64.toUInt64 63)).toInt64)), .retAddr 2, .int (((16384 : Int32) * x1) + (((((((((h_l h a0 0) * (31 : Int64)) + ((h_l h a0 1) * (1000003 : Int64))) + ((h_l h a0 2) * (7919 : Int64))) + (h_l h a0 3)) ^^^ (((((((h_l h a0 0) * (31 : Int64)) + ((h_l h a0 1) * (1000003 : Int64))) + ((h_l h a0 2) * (7919 : Int64))) + (h_l h a0 3)).toUInt64 >>> ((17 : Int32).toInt64.toUInt64 &&& Int64.toUInt64 63)).toInt64)) ^^^ (((((((h_l h a0 0) * (31 : Int64)) + ((h_l h a0 1) * (1000003 : Int64))) + ((h_l h a0 2) * (7919 : Int64))) + (h_l h a0 3)).toUInt64 >>> ((37 : Int32).toInt64.toUInt64 &&& Int64.toUInt64 63)).toInt64)) &&& (16383 : Int64)).toInt32)), v7] [] h Q) : wpx d P_Md_counts 0 [.ref r0, .int x1, .long l2, .retAddr 2, v4, v5, v6, v7] [] h Q := by
  refine st_aload (pc' := 1) rfl rfl rfl ?_
  refine st_getfr (x := some a0) (Or.inl rfl) rfl hs0 rfl hr1 (pc' := 4) rfl ?_
  refine st_ipush (pc' := 5) (v := 0) rfl rfl (by decide) ?_
  refine st_laload rfl hs2 hb3 (j := 0) (by decide) (pc' := 6) rfl ?_
  refine st_ldc2 (pc' := 9) (v := 31) rfl rfl (by decide) ?_
  refine st_lmul (pc' := 10) rfl rfl ?_
  refine st_aload (pc' := 11) rfl rfl rfl ?_
  refine st_getfr (x := some a0) (Or.inl rfl) rfl hs0 rfl hr1 (pc' := 14) rfl ?_
  refine st_ipush (pc' := 15) (v := 1) rfl rfl (by decide) ?_
  refine st_laload rfl hs2 hb4 (j := 1) (by decide) (pc' := 16) rfl ?_
  refine st_ldc2 (pc' := 19) (v := 1000003) rfl rfl (by decide) ?_
  refine st_lmul (pc' := 20) rfl rfl ?_
  refine st_ladd (pc' := 21) rfl rfl ?_
  refine st_aload (pc' := 22) rfl rfl rfl ?_
  refine st_getfr (x := some a0) (Or.inl rfl) rfl hs0 rfl hr1 (pc' := 25) rfl ?_
  refine st_ipush (pc' := 26) (v := 2) rfl rfl (by decide) ?_
  refine st_laload rfl hs2 hb5 (j := 2) (by decide) (pc' := 27) rfl ?_
  refine st_ldc2 (pc' := 30) (v := 7919) rfl rfl (by decide) ?_
  refine st_lmul (pc' := 31) rfl rfl ?_
  refine st_ladd (pc' := 32) rfl rfl ?_
  refine st_aload (pc' := 33) rfl rfl rfl ?_
  refine st_getfr (x := some a0) (Or.inl rfl) rfl hs0 rfl hr1 (pc' := 36) rfl ?_
  refine st_ipush (pc' := 37) (v := 3) rfl rfl (by decide) ?_
  refine st_laload rfl hs2 hb6 (j := 3) (by decide) (pc' := 38) rfl ?_
  refine st_ladd (pc' := 39) rfl rfl ?_
  refine st_lstore (pc' := 41) (ls' := [.ref r0, .int x1, .long l2, .retAddr 2, .long (((((h_l h a0 0) * (31 : Int64)) + ((h_l h a0 1) * (1000003 : Int64))) + ((h_l h a0 2) * (7919 : Int64))) + (h_l h a0 3)), .retAddr 2, v6, v7]) rfl rfl (Nat.le_of_ble_eq_true rfl) rfl ?_
  refine st_lload (pc' := 43) rfl rfl rfl rfl ?_
  refine st_lload (pc' := 45) rfl rfl rfl rfl ?_
  refine st_ipush (pc' := 47) (v := 17) rfl rfl (by decide) ?_
  refine st_lushr (pc' := 48) rfl rfl ?_
  refine st_lxor (pc' := 49) rfl rfl ?_
  refine st_lload (pc' := 51) rfl rfl rfl rfl ?_
  refine st_ipush (pc' := 53) (v := 37) rfl rfl (by decide) ?_
  refine st_lushr (pc' := 54) rfl rfl ?_
  refine st_lxor (pc' := 55) rfl rfl ?_
  refine st_lstore (pc' := 57) (ls' := [.ref r0, .int x1, .long l2, .retAddr 2, .long (((((((h_l h a0 0) * (31 : Int64)) + ((h_l h a0 1) * (1000003 : Int64))) + ((h_l h a0 2) * (7919 : Int64))) + (h_l h a0 3)) ^^^ (((((((h_l h a0 0) * (31 : Int64)) + ((h_l h a0 1) * (1000003 : Int64))) + ((h_l h a0 2) * (7919 : Int64))) + (h_l h a0 3)).toUInt64 >>> ((17 : Int32).toInt64.toUInt64 &&& Int64.toUInt64 63)).toInt64)) ^^^ (((((((h_l h a0 0) * (31 : Int64)) + ((h_l h a0 1) * (1000003 : Int64))) + ((h_l h a0 2) * (7919 : Int64))) + (h_l h a0 3)).toUInt64 >>> ((37 : Int32).toInt64.toUInt64 &&& Int64.toUInt64 63)).toInt64)), .retAddr 2, v6, v7]) rfl rfl (Nat.le_of_ble_eq_true rfl) rfl ?_
  refine st_ipush (pc' := 60) (v := 16384) rfl rfl (by decide) ?_
  refine st_iload (pc' := 61) rfl rfl rfl ?_
  refine st_imul (pc' := 62) rfl rfl ?_
  refine st_lload (pc' := 64) rfl rfl rfl rfl ?_
  refine st_ldc2 (pc' := 67) (v := 16383) rfl rfl (by decide) ?_
  refine st_land (pc' := 68) rfl rfl ?_
  refine st_l2i (pc' := 69) rfl rfl ?_
  refine st_iadd (pc' := 70) rfl rfl ?_
  refine st_istore (pc' := 72) (ls' := [.ref r0, .int x1, .long l2, .retAddr 2, .long (((((((h_l h a0 0) * (31 : Int64)) + ((h_l h a0 1) * (1000003 : Int64))) + ((h_l h a0 2) * (7919 : Int64))) + (h_l h a0 3)) ^^^ (((((((h_l h a0 0) * (31 : Int64)) + ((h_l h a0 1) * (1000003 : Int64))) + ((h_l h a0 2) * (7919 : Int64))) + (h_l h a0 3)).toUInt64 >>> ((17 : Int32).toInt64.toUInt64 &&& Int64.toUInt64 63)).toInt64)) ^^^ (((((((h_l h a0 0) * (31 : Int64)) + ((h_l h a0 1) * (1000003 : Int64))) + ((h_l h a0 2) * (7919 : Int64))) + (h_l h a0 3)).toUInt64 >>> ((37 : Int32).toInt64.toUInt64 &&& Int64.toUInt64 63)).toInt64)), .retAddr 2, .int (((16384 : Int32) * x1) + (((((((((h_l h a0 0) * (31 : Int64)) + ((h_l h a0 1) * (1000003 : Int64))) + ((h_l h a0 2) * (7919 : Int64))) + (h_l h a0 3)) ^^^ (((((((h_l h a0 0) * (31 : Int64)) + ((h_l h a0 1) * (1000003 : Int64))) + ((h_l h a0 2) * (7919 : Int64))) + (h_l h a0 3)).toUInt64 >>> ((17 : Int32).toInt64.toUInt64 &&& Int64.toUInt64 63)).toInt64)) ^^^ (((((((h_l h a0 0) * (31 : Int64)) + ((h_l h a0 1) * (1000003 : Int64))) + ((h_l h a0 2) * (7919 : Int64))) + (h_l h a0 3)).toUInt64 >>> ((37 : Int32).toInt64.toUInt64 &&& Int64.toUInt64 63)).toInt64)) &&& (16383 : Int64)).toInt32)), v7]) rfl rfl (Nat.le_of_ble_eq_true rfl) rfl ?_
  exact k
theorem B_Md_counts_72 {d : Nat} {h : PH} {Q : PQ} {r0 : Nat} {x1 : Int32} {l2 : Int64} {l4 : Int64} {x6 : Int32} {v7 : Value} {a0 : Nat} {n1 : Nat} (hs0 : h_sh h r0 = some (0, 12)) (hr1 : h_r h r0 56 = some a0) (hs2 : h_sh h a0 = some (3, n1)) (hb3 : vp_in x6 n1) (kt : (h_i h a0 x6.toNatClampNeg) = 0 → wpx d P_Md_counts 110 [.ref r0, .int x1, .long l2, .retAddr 2, .long l4, .retAddr 2, .int x6, v7] [] h Q) (kf : ¬ ((h_i h a0 x6.toNatClampNeg) = 0) → wpx d P_Md_counts 82 [.ref r0, .int x1, .long l2, .retAddr 2, .long l4, .retAddr 2, .int x6, v7] [] h Q) : wpx d P_Md_counts 72 [.ref r0, .int x1, .long l2, .retAddr 2, .long l4, .retAddr 2, .int x6, v7] [] h Q := by
  refine st_aload (pc' := 73) rfl rfl rfl ?_
  refine st_getfr (x := some a0) (Or.inl rfl) rfl hs0 rfl hr1 (pc' := 76) rfl ?_
  refine st_iload (pc' := 78) rfl rfl rfl ?_
  refine st_baload rfl (Or.inr hs2) hb3 (j := x6.toNatClampNeg) rfl (pc' := 79) rfl ?_
  exact st_if_eq (pc' := 82) rfl rfl kt kf
theorem B_Md_counts_82 {d : Nat} {h : PH} {Q : PQ} {r0 : Nat} {x1 : Int32} {l2 : Int64} {l4 : Int64} {x6 : Int32} {v7 : Value} (hs0 : h_sh h r0 = some (0, 12)) (k : wpm d 253 [.ref r0, .int x6] h (fun r h' => wpx d P_Md_counts 88 [.ref r0, .int x1, .long l2, .retAddr 2, .long l4, .retAddr 2, .int x6, v7] (r.toList ++ []) h' Q)) : wpx d P_Md_counts 82 [.ref r0, .int x1, .long l2, .retAddr 2, .long l4, .retAddr 2, .int x6, v7] [] h Q := by
  refine st_aload (pc' := 83) rfl rfl rfl ?_
  refine st_iload (pc' := 85) rfl rfl rfl ?_
  exact st_call (pc' := 88) (as := [.ref r0, .int x6]) (rest := []) rfl rfl (Nat.le_of_ble_eq_true rfl) rfl rfl (Nat.le_of_ble_eq_true rfl) (kd := 1) (o := 12) rfl rfl (beq_iff_eq.mpr hs0) k
theorem B_Md_counts_88 {d : Nat} {h : PH} {Q : PQ} {r0 : Nat} {x1 : Int32} {l2 : Int64} {l4 : Int64} {x6 : Int32} {v7 : Value} {s0 : Int32}  (kt : ¬ (s0 = 0) → wpx d P_Md_counts 110 [.ref r0, .int x1, .long l2, .retAddr 2, .long l4, .retAddr 2, .int x6, v7] [] h Q) (kf : s0 = 0 → wpx d P_Md_counts 91 [.ref r0, .int x1, .long l2, .retAddr 2, .long l4, .retAddr 2, .int x6, v7] [] h Q) : wpx d P_Md_counts 88 [.ref r0, .int x1, .long l2, .retAddr 2, .long l4, .retAddr 2, .int x6, v7] [.int s0] h Q := by
  exact st_if_ne (pc' := 91) rfl rfl kt kf
theorem B_Md_counts_91 {d : Nat} {h : PH} {Q : PQ} {r0 : Nat} {x1 : Int32} {l2 : Int64} {l4 : Int64} {x6 : Int32} {v7 : Value}  (k : wpx d P_Md_counts 72 [.ref r0, .int x1, .long l2, .retAddr 2, .long l4, .retAddr 2, .int (((16384 : Int32) * x1) + ((x6 + (1 : Int32)) &&& (16383 : Int32))), v7] [] h Q) : wpx d P_Md_counts 91 [.ref r0, .int x1, .long l2, .retAddr 2, .long l4, .retAddr 2, .int x6, v7] [] h Q := by
  refine st_ipush (pc' := 94) (v := 16384) rfl rfl (by decide) ?_
  refine st_iload (pc' := 95) rfl rfl rfl ?_
  refine st_imul (pc' := 96) rfl rfl ?_
  refine st_iload (pc' := 98) rfl rfl rfl ?_
  refine st_ipush (pc' := 99) (v := 1) rfl rfl (by decide) ?_
  refine st_iadd (pc' := 100) rfl rfl ?_
  refine st_ipush (pc' := 103) (v := 16383) rfl rfl (by decide) ?_
  refine st_iand (pc' := 104) rfl rfl ?_
  refine st_iadd (pc' := 105) rfl rfl ?_
  refine st_istore (pc' := 107) (ls' := [.ref r0, .int x1, .long l2, .retAddr 2, .long l4, .retAddr 2, .int (((16384 : Int32) * x1) + ((x6 + (1 : Int32)) &&& (16383 : Int32))), v7]) rfl rfl (Nat.le_of_ble_eq_true rfl) rfl ?_
  exact st_goto rfl k
theorem B_Md_counts_110 {d : Nat} {h : PH} {Q : PQ} {r0 : Nat} {x1 : Int32} {l2 : Int64} {l4 : Int64} {x6 : Int32} {v7 : Value} {a0 : Nat} {n1 : Nat} (hs0 : h_sh h r0 = some (0, 12)) (hr1 : h_r h r0 56 = some a0) (hs2 : h_sh h a0 = some (3, n1)) (hb3 : vp_in x6 n1) (kt : ¬ ((h_i h a0 x6.toNatClampNeg) = 0) → wpx d P_Md_counts 199 [.ref r0, .int x1, .long l2, .retAddr 2, .long l4, .retAddr 2, .int x6, v7] [] h Q) (kf : (h_i h a0 x6.toNatClampNeg) = 0 → wpx d P_Md_counts 120 [.ref r0, .int x1, .long l2, .retAddr 2, .long l4, .retAddr 2, .int x6, v7] [] h Q) : wpx d P_Md_counts 110 [.ref r0, .int x1, .long l2, .retAddr 2, .long l4, .retAddr 2, .int x6, v7] [] h Q := by
  refine st_aload (pc' := 111) rfl rfl rfl ?_
  refine st_getfr (x := some a0) (Or.inl rfl) rfl hs0 rfl hr1 (pc' := 114) rfl ?_
  refine st_iload (pc' := 116) rfl rfl rfl ?_
  refine st_baload rfl (Or.inr hs2) hb3 (j := x6.toNatClampNeg) rfl (pc' := 117) rfl ?_
  exact st_if_ne (pc' := 120) rfl rfl kt kf
theorem B_Md_counts_120 {d : Nat} {h : PH} {Q : PQ} {r0 : Nat} {x1 : Int32} {l2 : Int64} {l4 : Int64} {x6 : Int32} {v7 : Value} {a0 : Nat} {n1 : Nat} {a2 : Nat} {a3 : Nat} {n4 : Nat} {n5 : Nat} (hs0 : h_sh h r0 = some (0, 12)) (hr1 : h_r h r0 56 = some a0) (hs2 : h_sh h a0 = some (3, n1)) (hb3 : vp_in x6 n1) (hr4 : h_r h r0 57 = some a2) (hr5 : h_r h r0 58 = some a3) (hs6 : h_sh h a3 = some (1, n4)) (hb7 : vp_in x1 n4) (hs8 : h_sh h a2 = some (1, n5)) (hb9 : vp_in (((16384 : Int32) * x1) + (h_i (w_i h a0 x6.toNatClampNeg ((1 : Int32) &&& 1)) a3 x1.toNatClampNeg)) n5) (k : wpx d P_Md_counts 157 [.ref r0, .int x1, .long l2, .retAddr 2, .long l4, .retAddr 2, .int x6, v7] [] (w_i (w_i (w_i h a0 x6.toNatClampNeg ((1 : Int32) &&& 1)) a2 ((((16384 : Int32) * x1) + (h_i (w_i h a0 x6.toNatClampNeg ((1 : Int32) &&& 1)) a3 x1.toNatClampNeg)).toNatClampNeg) x6) a3 x1.toNatClampNeg ((h_i (w_i (w_i h a0 x6.toNatClampNeg ((1 : Int32) &&& 1)) a2 ((((16384 : Int32) * x1) + (h_i (w_i h a0 x6.toNatClampNeg ((1 : Int32) &&& 1)) a3 x1.toNatClampNeg)).toNatClampNeg) x6) a3 x1.toNatClampNeg) + (1 : Int32))) Q) : wpx d P_Md_counts 120 [.ref r0, .int x1, .long l2, .retAddr 2, .long l4, .retAddr 2, .int x6, v7] [] h Q := by
  refine st_aload (pc' := 121) rfl rfl rfl ?_
  refine st_getfr (x := some a0) (Or.inl rfl) rfl hs0 rfl hr1 (pc' := 124) rfl ?_
  refine st_iload (pc' := 126) rfl rfl rfl ?_
  refine st_ipush (pc' := 127) (v := 1) rfl rfl (by decide) ?_
  refine st_zastore rfl hs2 hb3 (j := x6.toNatClampNeg) rfl (pc' := 128) rfl ?_
  refine st_aload (pc' := 129) rfl rfl rfl ?_
  refine st_getfr (x := some a2) (Or.inl rfl) rfl hs0 rfl hr4 (pc' := 132) rfl ?_
  refine st_ipush (pc' := 135) (v := 16384) rfl rfl (by decide) ?_
  refine st_iload (pc' := 136) rfl rfl rfl ?_
  refine st_imul (pc' := 137) rfl rfl ?_
  refine st_aload (pc' := 138) rfl rfl rfl ?_
  refine st_getfr (x := some a3) (Or.inl rfl) rfl hs0 rfl hr5 (pc' := 141) rfl ?_
  refine st_iload (pc' := 142) rfl rfl rfl ?_
  refine st_iaload rfl hs6 hb7 (j := x1.toNatClampNeg) rfl (pc' := 143) rfl ?_
  refine st_iadd (pc' := 144) rfl rfl ?_
  refine st_iload (pc' := 146) rfl rfl rfl ?_
  refine st_iastore rfl hs8 hb9 (j := (((16384 : Int32) * x1) + (h_i (w_i h a0 x6.toNatClampNeg ((1 : Int32) &&& 1)) a3 x1.toNatClampNeg)).toNatClampNeg) rfl (pc' := 147) rfl ?_
  refine st_aload (pc' := 148) rfl rfl rfl ?_
  refine st_getfr (x := some a3) (Or.inl rfl) rfl hs0 rfl hr5 (pc' := 151) rfl ?_
  refine st_iload (pc' := 152) rfl rfl rfl ?_
  refine st_dup211 (pc' := 153) rfl rfl ⟨rfl, rfl⟩ ?_
  refine st_iaload rfl hs6 hb7 (j := x1.toNatClampNeg) rfl (pc' := 154) rfl ?_
  refine st_ipush (pc' := 155) (v := 1) rfl rfl (by decide) ?_
  refine st_iadd (pc' := 156) rfl rfl ?_
  refine st_iastore rfl hs6 hb7 (j := x1.toNatClampNeg) rfl (pc' := 157) rfl ?_
  exact k
theorem B_Md_counts_168 {d : Nat} {h : PH} {Q : PQ} {r0 : Nat} {x1 : Int32} {l2 : Int64} {l4 : Int64} {x6 : Int32} {x7 : Int32}  (kt : (4 : Int32) ≤ x7 → wpx d P_Md_counts 199 [.ref r0, .int x1, .long l2, .retAddr 2, .long l4, .retAddr 2, .int x6, .int x7] [] h Q) (kf : ¬ ((4 : Int32) ≤ x7) → wpx d P_Md_counts 174 [.ref r0, .int x1, .long l2, .retAddr 2, .long l4, .retAddr 2, .int x6, .int x7] [] h Q) : wpx d P_Md_counts 168 [.ref r0, .int x1, .long l2, .retAddr 2, .long l4, .retAddr 2, .int x6, .int x7] [] h Q := by
  refine st_iload (pc' := 170) rfl rfl rfl ?_
  refine st_ipush (pc' := 171) (v := 4) rfl rfl (by decide) ?_
  exact st_icmp_ge (pc' := 174) rfl rfl kt kf
theorem B_Md_counts_174 {d : Nat} {h : PH} {Q : PQ} {r0 : Nat} {x1 : Int32} {l2 : Int64} {l4 : Int64} {x6 : Int32} {x7 : Int32} {a0 : Nat} {a1 : Nat} {n2 : Nat} {n3 : Nat} (hs0 : h_sh h r0 = some (0, 12)) (hr1 : h_r h r0 54 = some a0) (hr2 : h_r h r0 60 = some a1) (hs3 : h_sh h a1 = some (4, n2)) (hb4 : vp_in x7 n2) (hs5 : h_sh h a0 = some (4, n3)) (hb6 : vp_in (((4 : Int32) * x6) + x7) n3) (k : wpx d P_Md_counts 168 [.ref r0, .int x1, .long l2, .retAddr 2, .long l4, .retAddr 2, .int x6, .int (x7 + 1)] [] (w_l h a0 ((((4 : Int32) * x6) + x7).toNatClampNeg) (h_l h a1 x7.toNatClampNeg)) Q) : wpx d P_Md_counts 174 [.ref r0, .int x1, .long l2, .retAddr 2, .long l4, .retAddr 2, .int x6, .int x7] [] h Q := by
  refine st_aload (pc' := 175) rfl rfl rfl ?_
  refine st_getfr (x := some a0) (Or.inl rfl) rfl hs0 rfl hr1 (pc' := 178) rfl ?_
  refine st_ipush (pc' := 179) (v := 4) rfl rfl (by decide) ?_
  refine st_iload (pc' := 181) rfl rfl rfl ?_
  refine st_imul (pc' := 182) rfl rfl ?_
  refine st_iload (pc' := 184) rfl rfl rfl ?_
  refine st_iadd (pc' := 185) rfl rfl ?_
  refine st_aload (pc' := 186) rfl rfl rfl ?_
  refine st_getfr (x := some a1) (Or.inl rfl) rfl hs0 rfl hr2 (pc' := 189) rfl ?_
  refine st_iload (pc' := 191) rfl rfl rfl ?_
  refine st_laload rfl hs3 hb4 (j := x7.toNatClampNeg) rfl (pc' := 192) rfl ?_
  refine st_lastore rfl hs5 hb6 (j := (((4 : Int32) * x6) + x7).toNatClampNeg) rfl (pc' := 193) rfl ?_
  refine st_iinc (pc' := 196) (v := 1) (ls' := [.ref r0, .int x1, .long l2, .retAddr 2, .long l4, .retAddr 2, .int x6, .int (x7 + 1)]) rfl rfl rfl (by decide) rfl ?_
  exact st_goto rfl k
theorem B_Md_counts_199 {d : Nat} {h : PH} {Q : PQ} {r0 : Nat} {x1 : Int32} {l2 : Int64} {l4 : Int64} {x6 : Int32} {v7 : Value} {a0 : Nat} {n1 : Nat} (hs0 : h_sh h r0 = some (0, 12)) (hr1 : h_r h r0 55 = some a0) (hs2 : h_sh h a0 = some (4, n1)) (hb3 : vp_in x6 n1) (k : Q none (w_l h a0 x6.toNatClampNeg ((h_l h a0 x6.toNatClampNeg) + l2))) : wpx d P_Md_counts 199 [.ref r0, .int x1, .long l2, .retAddr 2, .long l4, .retAddr 2, .int x6, v7] [] h Q := by
  refine st_aload (pc' := 200) rfl rfl rfl ?_
  refine st_getfr (x := some a0) (Or.inl rfl) rfl hs0 rfl hr1 (pc' := 203) rfl ?_
  refine st_iload (pc' := 205) rfl rfl rfl ?_
  refine st_dup211 (pc' := 206) rfl rfl ⟨rfl, rfl⟩ ?_
  refine st_laload rfl hs2 hb3 (j := x6.toNatClampNeg) rfl (pc' := 207) rfl ?_
  refine st_lload (pc' := 208) rfl rfl rfl rfl ?_
  refine st_ladd (pc' := 209) rfl rfl ?_
  refine st_lastore rfl hs2 hb3 (j := x6.toNatClampNeg) rfl (pc' := 210) rfl ?_
  exact st_return rfl k
theorem B_Md_counts_157 {d : Nat} {h : PH} {Q : PQ} {r0 : Nat} {x1 : Int32} {l2 : Int64} {l4 : Int64} {x6 : Int32} {v7 : Value} {a0 : Nat} {n1 : Nat} (hs0 : h_sh h r0 = some (0, 12)) (hr1 : h_r h r0 55 = some a0) (hs2 : h_sh h a0 = some (4, n1)) (hb3 : vp_in x6 n1) (k : wpx d P_Md_counts 168 [.ref r0, .int x1, .long l2, .retAddr 2, .long l4, .retAddr 2, .int x6, .int 0] [] (w_l h a0 x6.toNatClampNeg 0) Q) : wpx d P_Md_counts 157 [.ref r0, .int x1, .long l2, .retAddr 2, .long l4, .retAddr 2, .int x6, v7] [] h Q := by
  refine st_aload (pc' := 158) rfl rfl rfl ?_
  refine st_getfr (x := some a0) (Or.inl rfl) rfl hs0 rfl hr1 (pc' := 161) rfl ?_
  refine st_iload (pc' := 163) rfl rfl rfl ?_
  refine st_lpush (pc' := 164) (v := 0) rfl rfl (by decide) ?_
  refine st_lastore rfl hs2 hb3 (j := x6.toNatClampNeg) rfl (pc' := 165) rfl ?_
  refine st_ipush (pc' := 166) (v := 0) rfl rfl (by decide) ?_
  refine st_istore (pc' := 168) (ls' := [.ref r0, .int x1, .long l2, .retAddr 2, .long l4, .retAddr 2, .int x6, .int 0]) rfl rfl (Nat.le_of_ble_eq_true rfl) rfl ?_
  exact k
theorem B_Md_countFrom_0 {d : Nat} {h : PH} {Q : PQ} {r0 : Nat} {x1 : Int32} {v2 : Value} {v3 : Value} {v4 : Value} {v5 : Value} {v6 : Value} {v7 : Value} (hs0 : h_sh h r0 = some (0, 12)) (k : wpm d 252 [.ref r0, .int 0] h (fun r h' => wpx d P_Md_countFrom 5 [.ref r0, .int x1, v2, v3, v4, v5, v6, v7] (r.toList ++ []) h' Q)) : wpx d P_Md_countFrom 0 [.ref r0, .int x1, v2, v3, v4, v5, v6, v7] [] h Q := by
  refine st_aload (pc' := 1) rfl rfl rfl ?_
  refine st_ipush (pc' := 2) (v := 0) rfl rfl (by decide) ?_
  exact st_call (pc' := 5) (as := [.ref r0, .int 0]) (rest := []) rfl rfl (Nat.le_of_ble_eq_true rfl) rfl rfl (Nat.le_of_ble_eq_true rfl) (kd := 1) (o := 12) rfl rfl (beq_iff_eq.mpr hs0) k
theorem B_Md_countFrom_5 {d : Nat} {h : PH} {Q : PQ} {r0 : Nat} {x1 : Int32} {v2 : Value} {v3 : Value} {v4 : Value} {v5 : Value} {v6 : Value} {v7 : Value}  (k : wpx d P_Md_countFrom 7 [.ref r0, .int x1, .int 0, v3, v4, v5, v6, v7] [] h Q) : wpx d P_Md_countFrom 5 [.ref r0, .int x1, v2, v3, v4, v5, v6, v7] [] h Q := by
  refine st_ipush (pc' := 6) (v := 0) rfl rfl (by decide) ?_
  refine st_istore (pc' := 7) (ls' := [.ref r0, .int x1, .int 0, v3, v4, v5, v6, v7]) rfl rfl (Nat.le_of_ble_eq_true rfl) rfl ?_
  exact k
theorem B_Md_countFrom_7 {d : Nat} {h : PH} {Q : PQ} {r0 : Nat} {x1 : Int32} {x2 : Int32} {v3 : Value} {v4 : Value} {v5 : Value} {v6 : Value} {v7 : Value}  (kt : (4 : Int32) ≤ x2 → wpx d P_Md_countFrom 30 [.ref r0, .int x1, .int x2, v3, v4, v5, v6, v7] [] h Q) (kf : ¬ ((4 : Int32) ≤ x2) → wpx d P_Md_countFrom 12 [.ref r0, .int x1, .int x2, v3, v4, v5, v6, v7] [] h Q) : wpx d P_Md_countFrom 7 [.ref r0, .int x1, .int x2, v3, v4, v5, v6, v7] [] h Q := by
  refine st_iload (pc' := 8) rfl rfl rfl ?_
  refine st_ipush (pc' := 9) (v := 4) rfl rfl (by decide) ?_
  exact st_icmp_ge (pc' := 12) rfl rfl kt kf
theorem B_Md_countFrom_12 {d : Nat} {h : PH} {Q : PQ} {r0 : Nat} {x1 : Int32} {x2 : Int32} {v3 : Value} {v4 : Value} {v5 : Value} {v6 : Value} {v7 : Value} {a0 : Nat} {a1 : Nat} {n2 : Nat} {n3 : Nat} (hs0 : h_sh h r0 = some (0, 12)) (hr1 : h_r h r0 60 = some a0) (hr2 : h_r h r0 59 = some a1) (hs3 : h_sh h a1 = some (4, n2)) (hb4 : vp_in x2 n2) (hs5 : h_sh h a0 = some (4, n3)) (hb6 : vp_in x2 n3) (k : wpx d P_Md_countFrom 7 [.ref r0, .int x1, .int (x2 + 1), v3, v4, v5, v6, v7] [] (w_l h a0 x2.toNatClampNeg (h_l h a1 x2.toNatClampNeg)) Q) : wpx d P_Md_countFrom 12 [.ref r0, .int x1, .int x2, v3, v4, v5, v6, v7] [] h Q := by
  refine st_aload (pc' := 13) rfl rfl rfl ?_
  refine st_getfr (x := some a0) (Or.inl rfl) rfl hs0 rfl hr1 (pc' := 16) rfl ?_
  refine st_iload (pc' := 17) rfl rfl rfl ?_
  refine st_aload (pc' := 18) rfl rfl rfl ?_
  refine st_getfr (x := some a1) (Or.inl rfl) rfl hs0 rfl hr2 (pc' := 21) rfl ?_
  refine st_iload (pc' := 22) rfl rfl rfl ?_
  refine st_laload rfl hs3 hb4 (j := x2.toNatClampNeg) rfl (pc' := 23) rfl ?_
  refine st_lastore rfl hs5 hb6 (j := x2.toNatClampNeg) rfl (pc' := 24) rfl ?_
  refine st_iinc (pc' := 27) (v := 1) (ls' := [.ref r0, .int x1, .int (x2 + 1), v3, v4, v5, v6, v7]) rfl rfl rfl (by decide) rfl ?_
  exact st_goto rfl k
theorem B_Md_countFrom_30 {d : Nat} {h : PH} {Q : PQ} {r0 : Nat} {x1 : Int32} {x2 : Int32} {v3 : Value} {v4 : Value} {v5 : Value} {v6 : Value} {v7 : Value} (hs0 : h_sh h r0 = some (0, 12)) (k : wpm d 254 [.ref r0, .int 0, .long 1] h (fun r h' => wpx d P_Md_countFrom 36 [.ref r0, .int x1, .int x2, v3, v4, v5, v6, v7] (r.toList ++ []) h' Q)) : wpx d P_Md_countFrom 30 [.ref r0, .int x1, .int x2, v3, v4, v5, v6, v7] [] h Q := by
  refine st_aload (pc' := 31) rfl rfl rfl ?_
  refine st_ipush (pc' := 32) (v := 0) rfl rfl (by decide) ?_
  refine st_lpush (pc' := 33) (v := 1) rfl rfl (by decide) ?_
  exact st_call (pc' := 36) (as := [.ref r0, .int 0, .long 1]) (rest := []) rfl rfl (Nat.le_of_ble_eq_true rfl) rfl rfl (Nat.le_of_ble_eq_true rfl) (kd := 1) (o := 12) rfl rfl (beq_iff_eq.mpr hs0) k
theorem B_Md_countFrom_36 {d : Nat} {h : PH} {Q : PQ} {r0 : Nat} {x1 : Int32} {x2 : Int32} {v3 : Value} {v4 : Value} {v5 : Value} {v6 : Value} {v7 : Value}  (k : wpx d P_Md_countFrom 40 [.ref r0, .int x1, .int 0, .int 0, v4, v5, v6, v7] [] h Q) : wpx d P_Md_countFrom 36 [.ref r0, .int x1, .int x2, v3, v4, v5, v6, v7] [] h Q := by
  refine st_ipush (pc' := 37) (v := 0) rfl rfl (by decide) ?_
  refine st_istore (pc' := 38) (ls' := [.ref r0, .int x1, .int 0, v3, v4, v5, v6, v7]) rfl rfl (Nat.le_of_ble_eq_true rfl) rfl ?_
  refine st_ipush (pc' := 39) (v := 0) rfl rfl (by decide) ?_
  refine st_istore (pc' := 40) (ls' := [.ref r0, .int x1, .int 0, .int 0, v4, v5, v6, v7]) rfl rfl (Nat.le_of_ble_eq_true rfl) rfl ?_
  exact k
theorem B_Md_countFrom_40 {d : Nat} {h : PH} {Q : PQ} {r0 : Nat} {x1 : Int32} {x2 : Int32} {x3 : Int32} {v4 : Value} {v5 : Value} {v6 : Value} {v7 : Value}  (kt : x1 ≤ x3 → wpx d P_Md_countFrom 170 [.ref r0, .int x1, .int x2, .int x3, v4, v5, v6, v7] [] h Q) (kf : ¬ (x1 ≤ x3) → wpx d P_Md_countFrom 45 [.ref r0, .int x1, .int x2, .int x3, v4, v5, v6, v7] [] h Q) : wpx d P_Md_countFrom 40 [.ref r0, .int x1, .int x2, .int x3, v4, v5, v6, v7] [] h Q := by
  refine st_iload (pc' := 41) rfl rfl rfl ?_
  refine st_iload (pc' := 42) rfl rfl rfl ?_
  exact st_icmp_ge (pc' := 45) rfl rfl kt kf
theorem B_Md_countFrom_45 {d : Nat} {h : PH} {Q : PQ} {r0 : Nat} {x1 : Int32} {x2 : Int32} {x3 : Int32} {v4 : Value} {v5 : Value} {v6 : Value} {v7 : Value} (hs0 : h_sh h r0 = some (0, 12)) (k : wpm d 252 [.ref r0, .int ((1 : Int32) - x2)] h (fun r h' => wpx d P_Md_countFrom 52 [.ref r0, .int x1, .int x2, .int x3, v4, v5, v6, v7] (r.toList ++ []) h' Q)) : wpx d P_Md_countFrom 45 [.ref r0, .int x1, .int x2, .int x3, v4, v5, v6, v7] [] h Q := by
  refine st_aload (pc' := 46) rfl rfl rfl ?_
  refine st_ipush (pc' := 47) (v := 1) rfl rfl (by decide) ?_
  refine st_iload (pc' := 48) rfl rfl rfl ?_
  refine st_isub (pc' := 49) rfl rfl ?_
  exact st_call (pc' := 52) (as := [.ref r0, .int ((1 : Int32) - x2)]) (rest := []) rfl rfl (Nat.le_of_ble_eq_true rfl) rfl rfl (Nat.le_of_ble_eq_true rfl) (kd := 1) (o := 12) rfl rfl (beq_iff_eq.mpr hs0) k
theorem B_Md_countFrom_52 {d : Nat} {h : PH} {Q : PQ} {r0 : Nat} {x1 : Int32} {x2 : Int32} {x3 : Int32} {v4 : Value} {v5 : Value} {v6 : Value} {v7 : Value}  (k : wpx d P_Md_countFrom 55 [.ref r0, .int x1, .int x2, .int x3, .int 0, v5, v6, v7] [] h Q) : wpx d P_Md_countFrom 52 [.ref r0, .int x1, .int x2, .int x3, v4, v5, v6, v7] [] h Q := by
  refine st_ipush (pc' := 53) (v := 0) rfl rfl (by decide) ?_
  refine st_istore (pc' := 55) (ls' := [.ref r0, .int x1, .int x2, .int x3, .int 0, v5, v6, v7]) rfl rfl (Nat.le_of_ble_eq_true rfl) rfl ?_
  exact k
theorem B_Md_countFrom_55 {d : Nat} {h : PH} {Q : PQ} {r0 : Nat} {x1 : Int32} {x2 : Int32} {x3 : Int32} {x4 : Int32} {v5 : Value} {v6 : Value} {v7 : Value} {a0 : Nat} {n1 : Nat} (hs0 : h_sh h r0 = some (0, 12)) (hr1 : h_r h r0 58 = some a0) (hs2 : h_sh h a0 = some (1, n1)) (hb3 : vp_in x2 n1) (kt : (h_i h a0 x2.toNatClampNeg) ≤ x4 → wpx d P_Md_countFrom 160 [.ref r0, .int x1, .int x2, .int x3, .int x4, v5, v6, v7] [] h Q) (kf : ¬ ((h_i h a0 x2.toNatClampNeg) ≤ x4) → wpx d P_Md_countFrom 66 [.ref r0, .int x1, .int x2, .int x3, .int x4, v5, v6, v7] [] h Q) : wpx d P_Md_countFrom 55 [.ref r0, .int x1, .int x2, .int x3, .int x4, v5, v6, v7] [] h Q := by
  refine st_iload (pc' := 57) rfl rfl rfl ?_
  refine st_aload (pc' := 58) rfl rfl rfl ?_
  refine st_getfr (x := some a0) (Or.inl rfl) rfl hs0 rfl hr1 (pc' := 61) rfl ?_
  refine st_iload (pc' := 62) rfl rfl rfl ?_
  refine st_iaload rfl hs2 hb3 (j := x2.toNatClampNeg) rfl (pc' := 63) rfl ?_
  exact st_icmp_ge (pc' := 66) rfl rfl kt kf
theorem B_Md_countFrom_66 {d : Nat} {h : PH} {Q : PQ} {r0 : Nat} {x1 : Int32} {x2 : Int32} {x3 : Int32} {x4 : Int32} {v5 : Value} {v6 : Value} {v7 : Value} {a0 : Nat} {n1 : Nat} (hs0 : h_sh h r0 = some (0, 12)) (hr1 : h_r h r0 57 = some a0) (hs2 : h_sh h a0 = some (1, n1)) (hb3 : vp_in (((16384 : Int32) * x2) + x4) n1) (k : wpx d P_Md_countFrom 84 [.ref r0, .int x1, .int x2, .int x3, .int x4, .int (h_i h a0 (((16384 : Int32) * x2) + x4).toNatClampNeg), .int 0, v7] [] h Q) : wpx d P_Md_countFrom 66 [.ref r0, .int x1, .int x2, .int x3, .int x4, v5, v6, v7] [] h Q := by
  refine st_aload (pc' := 67) rfl rfl rfl ?_
  refine st_getfr (x := some a0) (Or.inl rfl) rfl hs0 rfl hr1 (pc' := 70) rfl ?_
  refine st_ipush (pc' := 73) (v := 16384) rfl rfl (by decide) ?_
  refine st_iload (pc' := 74) rfl rfl rfl ?_
  refine st_imul (pc' := 75) rfl rfl ?_
  refine st_iload (pc' := 77) rfl rfl rfl ?_
  refine st_iadd (pc' := 78) rfl rfl ?_
  refine st_iaload rfl hs2 hb3 (j := (((16384 : Int32) * x2) + x4).toNatClampNeg) rfl (pc' := 79) rfl ?_
  refine st_istore (pc' := 81) (ls' := [.ref r0, .int x1, .int x2, .int x3, .int x4, .int (h_i h a0 (((16384 : Int32) * x2) + x4).toNatClampNeg), v6, v7]) rfl rfl (Nat.le_of_ble_eq_true rfl) rfl ?_
  refine st_ipush (pc' := 82) (v := 0) rfl rfl (by decide) ?_
  refine st_istore (pc' := 84) (ls' := [.ref r0, .int x1, .int x2, .int x3, .int x4, .int (h_i h a0 (((16384 : Int32) * x2) + x4).toNatClampNeg), .int 0, v7]) rfl rfl (Nat.le_of_ble_eq_true rfl) rfl ?_
  exact k
theorem B_Md_countFrom_84 {d : Nat} {h : PH} {Q : PQ} {r0 : Nat} {x1 : Int32} {x2 : Int32} {x3 : Int32} {x4 : Int32} {x5 : Int32} {x6 : Int32} {v7 : Value}  (kt : (27 : Int32) ≤ x6 → wpx d P_Md_countFrom 154 [.ref r0, .int x1, .int x2, .int x3, .int x4, .int x5, .int x6, v7] [] h Q) (kf : ¬ ((27 : Int32) ≤ x6) → wpx d P_Md_countFrom 91 [.ref r0, .int x1, .int x2, .int x3, .int x4, .int x5, .int x6, v7] [] h Q) : wpx d P_Md_countFrom 84 [.ref r0, .int x1, .int x2, .int x3, .int x4, .int x5, .int x6, v7] [] h Q := by
  refine st_iload (pc' := 86) rfl rfl rfl ?_
  refine st_ipush (pc' := 88) (v := 27) rfl rfl (by decide) ?_
  exact st_icmp_ge (pc' := 91) rfl rfl kt kf
theorem B_Md_countFrom_91 {d : Nat} {h : PH} {Q : PQ} {r0 : Nat} {x1 : Int32} {x2 : Int32} {x3 : Int32} {x4 : Int32} {x5 : Int32} {x6 : Int32} {v7 : Value}  (k : wpx d P_Md_countFrom 94 [.ref r0, .int x1, .int x2, .int x3, .int x4, .int x5, .int x6, .int 0] [] h Q) : wpx d P_Md_countFrom 91 [.ref r0, .int x1, .int x2, .int x3, .int x4, .int x5, .int x6, v7] [] h Q := by
  refine st_ipush (pc' := 92) (v := 0) rfl rfl (by decide) ?_
  refine st_istore (pc' := 94) (ls' := [.ref r0, .int x1, .int x2, .int x3, .int x4, .int x5, .int x6, .int 0]) rfl rfl (Nat.le_of_ble_eq_true rfl) rfl ?_
  exact k
theorem B_Md_countFrom_94 {d : Nat} {h : PH} {Q : PQ} {r0 : Nat} {x1 : Int32} {x2 : Int32} {x3 : Int32} {x4 : Int32} {x5 : Int32} {x6 : Int32} {x7 : Int32}  (kt : (4 : Int32) ≤ x7 → wpx d P_Md_countFrom 125 [.ref r0, .int x1, .int x2, .int x3, .int x4, .int x5, .int x6, .int x7] [] h Q) (kf : ¬ ((4 : Int32) ≤ x7) → wpx d P_Md_countFrom 100 [.ref r0, .int x1, .int x2, .int x3, .int x4, .int x5, .int x6, .int x7] [] h Q) : wpx d P_Md_countFrom 94 [.ref r0, .int x1, .int x2, .int x3, .int x4, .int x5, .int x6, .int x7] [] h Q := by
  refine st_iload (pc' := 96) rfl rfl rfl ?_
  refine st_ipush (pc' := 97) (v := 4) rfl rfl (by decide) ?_
  exact st_icmp_ge (pc' := 100) rfl rfl kt kf
theorem B_Md_countFrom_100 {d : Nat} {h : PH} {Q : PQ} {r0 : Nat} {x1 : Int32} {x2 : Int32} {x3 : Int32} {x4 : Int32} {x5 : Int32} {x6 : Int32} {x7 : Int32} {a0 : Nat} {a1 : Nat} {n2 : Nat} {n3 : Nat} (hs0 : h_sh h r0 = some (0, 12)) (hr1 : h_r h r0 59 = some a0) (hr2 : h_r h r0 54 = some a1) (hs3 : h_sh h a1 = some (4, n2)) (hb4 : vp_in (((4 : Int32) * x5) + x7) n2) (hs5 : h_sh h a0 = some (4, n3)) (hb6 : vp_in x7 n3) (k : wpx d P_Md_countFrom 94 [.ref r0, .int x1, .int x2, .int x3, .int x4, .int x5, .int x6, .int (x7 + 1)] [] (w_l h a0 x7.toNatClampNeg (h_l h a1 (((4 : Int32) * x5) + x7).toNatClampNeg)) Q) : wpx d P_Md_countFrom 100 [.ref r0, .int x1, .int x2, .int x3, .int x4, .int x5, .int x6, .int x7] [] h Q := by
  refine st_aload (pc' := 101) rfl rfl rfl ?_
  refine st_getfr (x := some a0) (Or.inl rfl) rfl hs0 rfl hr1 (pc' := 104) rfl ?_
  refine st_iload (pc' := 106) rfl rfl rfl ?_
  refine st_aload (pc' := 107) rfl rfl rfl ?_
  refine st_getfr (x := some a1) (Or.inl rfl) rfl hs0 rfl hr2 (pc' := 110) rfl ?_
  refine st_ipush (pc' := 111) (v := 4) rfl rfl (by decide) ?_
  refine st_iload (pc' := 113) rfl rfl rfl ?_
  refine st_imul (pc' := 114) rfl rfl ?_
  refine st_iload (pc' := 116) rfl rfl rfl ?_
  refine st_iadd (pc' := 117) rfl rfl ?_
  refine st_laload rfl hs3 hb4 (j := (((4 : Int32) * x5) + x7).toNatClampNeg) rfl (pc' := 118) rfl ?_
  refine st_lastore rfl hs5 hb6 (j := x7.toNatClampNeg) rfl (pc' := 119) rfl ?_
  refine st_iinc (pc' := 122) (v := 1) (ls' := [.ref r0, .int x1, .int x2, .int x3, .int x4, .int x5, .int x6, .int (x7 + 1)]) rfl rfl rfl (by decide) rfl ?_
  exact st_goto rfl k
theorem B_Md_countFrom_125 {d : Nat} {h : PH} {Q : PQ} {r0 : Nat} {x1 : Int32} {x2 : Int32} {x3 : Int32} {x4 : Int32} {x5 : Int32} {x6 : Int32} {x7 : Int32} (hs0 : h_sh h r0 = some (0, 12)) (k : wpm d 251 [.ref r0, .int x6] h (fun r h' => wpx d P_Md_countFrom 131 [.ref r0, .int x1, .int x2, .int x3, .int x4, .int x5, .int x6, .int x7] (r.toList ++ []) h' Q)) : wpx d P_Md_countFrom 125 [.ref r0, .int x1, .int x2, .int x3, .int x4, .int x5, .int x6, .int x7] [] h Q := by
  refine st_aload (pc' := 126) rfl rfl rfl ?_
  refine st_iload (pc' := 128) rfl rfl rfl ?_
  exact st_call (pc' := 131) (as := [.ref r0, .int x6]) (rest := []) rfl rfl (Nat.le_of_ble_eq_true rfl) rfl rfl (Nat.le_of_ble_eq_true rfl) (kd := 1) (o := 12) rfl rfl (beq_iff_eq.mpr hs0) k
theorem B_Md_countFrom_131 {d : Nat} {h : PH} {Q : PQ} {r0 : Nat} {x1 : Int32} {x2 : Int32} {x3 : Int32} {x4 : Int32} {x5 : Int32} {x6 : Int32} {x7 : Int32} {s0 : Int32}  (kt : s0 = 0 → wpx d P_Md_countFrom 148 [.ref r0, .int x1, .int x2, .int x3, .int x4, .int x5, .int x6, .int x7] [] h Q) (kf : ¬ (s0 = 0) → wpx d P_Md_countFrom 134 [.ref r0, .int x1, .int x2, .int x3, .int x4, .int x5, .int x6, .int x7] [] h Q) : wpx d P_Md_countFrom 131 [.ref r0, .int x1, .int x2, .int x3, .int x4, .int x5, .int x6, .int x7] [.int s0] h Q := by
  exact st_if_eq (pc' := 134) rfl rfl kt kf
theorem B_Md_countFrom_134 {d : Nat} {h : PH} {Q : PQ} {r0 : Nat} {x1 : Int32} {x2 : Int32} {x3 : Int32} {x4 : Int32} {x5 : Int32} {x6 : Int32} {x7 : Int32} {a0 : Nat} {n1 : Nat} (hs0 : h_sh h r0 = some (0, 12)) (hr1 : h_r h r0 55 = some a0) (hs2 : h_sh h a0 = some (4, n1)) (hb3 : vp_in x5 n1) (k : wpm d 254 [.ref r0, .int ((1 : Int32) - x2), .long (h_l h a0 x5.toNatClampNeg)] h (fun r h' => wpx d P_Md_countFrom 148 [.ref r0, .int x1, .int x2, .int x3, .int x4, .int x5, .int x6, .int x7] (r.toList ++ []) h' Q)) : wpx d P_Md_countFrom 134 [.ref r0, .int x1, .int x2, .int x3, .int x4, .int x5, .int x6, .int x7] [] h Q := by
  refine st_aload (pc' := 135) rfl rfl rfl ?_
  refine st_ipush (pc' := 136) (v := 1) rfl rfl (by decide) ?_
  refine st_iload (pc' := 137) rfl rfl rfl ?_
  refine st_isub (pc' := 138) rfl rfl ?_
  refine st_aload (pc' := 139) rfl rfl rfl ?_
  refine st_getfr (x := some a0) (Or.inl rfl) rfl hs0 rfl hr1 (pc' := 142) rfl ?_
  refine st_iload (pc' := 144) rfl rfl rfl ?_
  refine st_laload rfl hs2 hb3 (j := x5.toNatClampNeg) rfl (pc' := 145) rfl ?_
  exact st_call (pc' := 148) (as := [.ref r0, .int ((1 : Int32) - x2), .long (h_l h a0 x5.toNatClampNeg)]) (rest := []) rfl rfl (Nat.le_of_ble_eq_true rfl) rfl rfl (Nat.le_of_ble_eq_true rfl) (kd := 1) (o := 12) rfl rfl (beq_iff_eq.mpr hs0) k
theorem B_Md_countFrom_148 {d : Nat} {h : PH} {Q : PQ} {r0 : Nat} {x1 : Int32} {x2 : Int32} {x3 : Int32} {x4 : Int32} {x5 : Int32} {x6 : Int32} {x7 : Int32}  (k : wpx d P_Md_countFrom 84 [.ref r0, .int x1, .int x2, .int x3, .int x4, .int x5, .int (x6 + 1), .int x7] [] h Q) : wpx d P_Md_countFrom 148 [.ref r0, .int x1, .int x2, .int x3, .int x4, .int x5, .int x6, .int x7] [] h Q := by
  refine st_iinc (pc' := 151) (v := 1) (ls' := [.ref r0, .int x1, .int x2, .int x3, .int x4, .int x5, .int (x6 + 1), .int x7]) rfl rfl rfl (by decide) rfl ?_
  exact st_goto rfl k
theorem B_Md_countFrom_154 {d : Nat} {h : PH} {Q : PQ} {r0 : Nat} {x1 : Int32} {x2 : Int32} {x3 : Int32} {x4 : Int32} {x5 : Int32} {x6 : Int32} {v7 : Value}  (k : wpx d P_Md_countFrom 55 [.ref r0, .int x1, .int x2, .int x3, .int (x4 + 1), .int x5, .int x6, v7] [] h Q) : wpx d P_Md_countFrom 154 [.ref r0, .int x1, .int x2, .int x3, .int x4, .int x5, .int x6, v7] [] h Q := by
  refine st_iinc (pc' := 157) (v := 1) (ls' := [.ref r0, .int x1, .int x2, .int x3, .int (x4 + 1), .int x5, .int x6, v7]) rfl rfl rfl (by decide) rfl ?_
  exact st_goto rfl k
theorem B_Md_countFrom_160 {d : Nat} {h : PH} {Q : PQ} {r0 : Nat} {x1 : Int32} {x2 : Int32} {x3 : Int32} {x4 : Int32} {v5 : Value} {v6 : Value} {v7 : Value}  (k : wpx d P_Md_countFrom 40 [.ref r0, .int x1, .int ((1 : Int32) - x2), .int (x3 + 1), .int x4, v5, v6, v7] [] h Q) : wpx d P_Md_countFrom 160 [.ref r0, .int x1, .int x2, .int x3, .int x4, v5, v6, v7] [] h Q := by
  refine st_ipush (pc' := 161) (v := 1) rfl rfl (by decide) ?_
  refine st_iload (pc' := 162) rfl rfl rfl ?_
  refine st_isub (pc' := 163) rfl rfl ?_
  refine st_istore (pc' := 164) (ls' := [.ref r0, .int x1, .int ((1 : Int32) - x2), .int x3, .int x4, v5, v6, v7]) rfl rfl (Nat.le_of_ble_eq_true rfl) rfl ?_
  refine st_iinc (pc' := 167) (v := 1) (ls' := [.ref r0, .int x1, .int ((1 : Int32) - x2), .int (x3 + 1), .int x4, v5, v6, v7]) rfl rfl rfl (by decide) rfl ?_
  exact st_goto rfl k
theorem B_Md_countFrom_170 {d : Nat} {h : PH} {Q : PQ} {r0 : Nat} {x1 : Int32} {x2 : Int32} {x3 : Int32} {v4 : Value} {v5 : Value} {v6 : Value} {v7 : Value} (hs0 : h_sh h r0 = some (0, 12)) (k : wpx d P_Md_countFrom 182 [.ref r0, .int x1, .int x2, .int 0, v4, v5, v6, v7] [] (w_l (w_l h r0 61 0) r0 62 0) Q) : wpx d P_Md_countFrom 170 [.ref r0, .int x1, .int x2, .int x3, v4, v5, v6, v7] [] h Q := by
  refine st_aload (pc' := 171) rfl rfl rfl ?_
  refine st_lpush (pc' := 172) (v := 0) rfl rfl (by decide) ?_
  refine st_putf (h' := w_l h r0 61 0) (Or.inl rfl) rfl hs0 rfl rfl rfl (pc' := 175) rfl ?_
  refine st_aload (pc' := 176) rfl rfl rfl ?_
  refine st_lpush (pc' := 177) (v := 0) rfl rfl (by decide) ?_
  refine st_putf (h' := w_l (w_l h r0 61 0) r0 62 0) (Or.inl rfl) rfl hs0 rfl rfl rfl (pc' := 180) rfl ?_
  refine st_ipush (pc' := 181) (v := 0) rfl rfl (by decide) ?_
  refine st_istore (pc' := 182) (ls' := [.ref r0, .int x1, .int x2, .int 0, v4, v5, v6, v7]) rfl rfl (Nat.le_of_ble_eq_true rfl) rfl ?_
  exact k
theorem B_Md_countFrom_182 {d : Nat} {h : PH} {Q : PQ} {r0 : Nat} {x1 : Int32} {x2 : Int32} {x3 : Int32} {v4 : Value} {v5 : Value} {v6 : Value} {v7 : Value} {a0 : Nat} {n1 : Nat} (hs0 : h_sh h r0 = some (0, 12)) (hr1 : h_r h r0 58 = some a0) (hs2 : h_sh h a0 = some (1, n1)) (hb3 : vp_in x2 n1) (kt : (h_i h a0 x2.toNatClampNeg) ≤ x3 → wpx d P_Md_countFrom 278 [.ref r0, .int x1, .int x2, .int x3, v4, v5, v6, v7] [] h Q) (kf : ¬ ((h_i h a0 x2.toNatClampNeg) ≤ x3) → wpx d P_Md_countFrom 192 [.ref r0, .int x1, .int x2, .int x3, v4, v5, v6, v7] [] h Q) : wpx d P_Md_countFrom 182 [.ref r0, .int x1, .int x2, .int x3, v4, v5, v6, v7] [] h Q := by
  refine st_iload (pc' := 183) rfl rfl rfl ?_
  refine st_aload (pc' := 184) rfl rfl rfl ?_
  refine st_getfr (x := some a0) (Or.inl rfl) rfl hs0 rfl hr1 (pc' := 187) rfl ?_
  refine st_iload (pc' := 188) rfl rfl rfl ?_
  refine st_iaload rfl hs2 hb3 (j := x2.toNatClampNeg) rfl (pc' := 189) rfl ?_
  exact st_icmp_ge (pc' := 192) rfl rfl kt kf
theorem B_Md_countFrom_192 {d : Nat} {h : PH} {Q : PQ} {r0 : Nat} {x1 : Int32} {x2 : Int32} {x3 : Int32} {v4 : Value} {v5 : Value} {v6 : Value} {v7 : Value} {a0 : Nat} {n1 : Nat} {a2 : Nat} {n3 : Nat} (hs0 : h_sh h r0 = some (0, 12)) (hr1 : h_r h r0 57 = some a0) (hs2 : h_sh h a0 = some (1, n1)) (hb3 : vp_in (((16384 : Int32) * x2) + x3) n1) (hr4 : h_r h r0 54 = some a2) (hs5 : h_sh h a2 = some (4, n3)) (hb6 : vp_in ((4 : Int32) * (h_i h a0 (((16384 : Int32) * x2) + x3).toNatClampNeg)) n3) (k : wpm d 248 [.long (h_l h a2 ((4 : Int32) * (h_i h a0 (((16384 : Int32) * x2) + x3).toNatClampNeg)).toNatClampNeg), .int 0] h (fun r h' => wpx d P_Md_countFrom 219 [.ref r0, .int x1, .int x2, .int x3, .int (h_i h a0 (((16384 : Int32) * x2) + x3).toNatClampNeg), v5, v6, v7] (r.toList ++ []) h' Q)) : wpx d P_Md_countFrom 192 [.ref r0, .int x1, .int x2, .int x3, v4, v5, v6, v7] [] h Q := by
  refine st_aload (pc' := 193) rfl rfl rfl ?_
  refine st_getfr (x := some a0) (Or.inl rfl) rfl hs0 rfl hr1 (pc' := 196) rfl ?_
  refine st_ipush (pc' := 199) (v := 16384) rfl rfl (by decide) ?_
  refine st_iload (pc' := 200) rfl rfl rfl ?_
  refine st_imul (pc' := 201) rfl rfl ?_
  refine st_iload (pc' := 202) rfl rfl rfl ?_
  refine st_iadd (pc' := 203) rfl rfl ?_
  refine st_iaload rfl hs2 hb3 (j := (((16384 : Int32) * x2) + x3).toNatClampNeg) rfl (pc' := 204) rfl ?_
  refine st_istore (pc' := 206) (ls' := [.ref r0, .int x1, .int x2, .int x3, .int (h_i h a0 (((16384 : Int32) * x2) + x3).toNatClampNeg), v5, v6, v7]) rfl rfl (Nat.le_of_ble_eq_true rfl) rfl ?_
  refine st_aload (pc' := 207) rfl rfl rfl ?_
  refine st_getfr (x := some a2) (Or.inl rfl) rfl hs0 rfl hr4 (pc' := 210) rfl ?_
  refine st_ipush (pc' := 211) (v := 4) rfl rfl (by decide) ?_
  refine st_iload (pc' := 213) rfl rfl rfl ?_
  refine st_imul (pc' := 214) rfl rfl ?_
  refine st_laload rfl hs5 hb6 (j := ((4 : Int32) * (h_i h a0 (((16384 : Int32) * x2) + x3).toNatClampNeg)).toNatClampNeg) rfl (pc' := 215) rfl ?_
  refine st_ipush (pc' := 216) (v := 0) rfl rfl (by decide) ?_
  exact st_call (pc' := 219) (as := [.long (h_l h a2 ((4 : Int32) * (h_i h a0 (((16384 : Int32) * x2) + x3).toNatClampNeg)).toNatClampNeg), .int 0]) (rest := []) rfl rfl (Nat.le_of_ble_eq_true rfl) rfl rfl (Nat.le_of_ble_eq_true rfl) (kd := 0) (o := 12) rfl rfl rfl k
theorem B_Md_countFrom_219 {d : Nat} {h : PH} {Q : PQ} {r0 : Nat} {x1 : Int32} {x2 : Int32} {x3 : Int32} {x4 : Int32} {v5 : Value} {v6 : Value} {v7 : Value} {s0 : Int32} (hs0 : h_sh h r0 = some (0, 12)) (kt : s0 ≤ 0 → wpx d P_Md_countFrom 241 [.ref r0, .int x1, .int x2, .int x3, .int x4, .int s0, v6, v7] [.long (h_l h r0 61), .ref r0] h Q) (kf : ¬ (s0 ≤ 0) → wpx d P_Md_countFrom 231 [.ref r0, .int x1, .int x2, .int x3, .int x4, .int s0, v6, v7] [.long (h_l h r0 61), .ref r0] h Q) : wpx d P_Md_countFrom 219 [.ref r0, .int x1, .int x2, .int x3, .int x4, v5, v6, v7] [.int s0] h Q := by
  refine st_istore (pc' := 221) (ls' := [.ref r0, .int x1, .int x2, .int x3, .int x4, .int s0, v6, v7]) rfl rfl (Nat.le_of_ble_eq_true rfl) rfl ?_
  refine st_aload (pc' := 222) rfl rfl rfl ?_
  refine st_dup (pc' := 223) rfl rfl rfl ?_
  refine st_getfl (Or.inl rfl) rfl hs0 rfl (pc' := 226) rfl ?_
  refine st_iload (pc' := 228) rfl rfl rfl ?_
  exact st_if_le (pc' := 231) rfl rfl kt kf
theorem B_Md_countFrom_231 {d : Nat} {h : PH} {Q : PQ} {r0 : Nat} {x1 : Int32} {x2 : Int32} {x3 : Int32} {x4 : Int32} {x5 : Int32} {v6 : Value} {v7 : Value} {q0 : Nat} {t1 : Int64} {a0 : Nat} {n1 : Nat} (hs0 : h_sh h r0 = some (0, 12)) (hr1 : h_r h r0 55 = some a0) (hs2 : h_sh h a0 = some (4, n1)) (hb3 : vp_in x4 n1) (k : wpx d P_Md_countFrom 242 [.ref r0, .int x1, .int x2, .int x3, .int x4, .int x5, v6, v7] [.long (h_l h a0 x4.toNatClampNeg), .long t1, .ref q0] h Q) : wpx d P_Md_countFrom 231 [.ref r0, .int x1, .int x2, .int x3, .int x4, .int x5, v6, v7] [.long t1, .ref q0] h Q := by
  refine st_aload (pc' := 232) rfl rfl rfl ?_
  refine st_getfr (x := some a0) (Or.inl rfl) rfl hs0 rfl hr1 (pc' := 235) rfl ?_
  refine st_iload (pc' := 237) rfl rfl rfl ?_
  refine st_laload rfl hs2 hb3 (j := x4.toNatClampNeg) rfl (pc' := 238) rfl ?_
  exact st_goto rfl k
theorem B_Md_countFrom_241 {d : Nat} {h : PH} {Q : PQ} {r0 : Nat} {x1 : Int32} {x2 : Int32} {x3 : Int32} {x4 : Int32} {x5 : Int32} {v6 : Value} {v7 : Value} {q0 : Nat} {t1 : Int64}  (k : wpx d P_Md_countFrom 242 [.ref r0, .int x1, .int x2, .int x3, .int x4, .int x5, v6, v7] [.long 0, .long t1, .ref q0] h Q) : wpx d P_Md_countFrom 241 [.ref r0, .int x1, .int x2, .int x3, .int x4, .int x5, v6, v7] [.long t1, .ref q0] h Q := by
  refine st_lpush (pc' := 242) (v := 0) rfl rfl (by decide) ?_
  exact k
theorem B_Md_countFrom_242 {d : Nat} {h : PH} {Q : PQ} {r0 : Nat} {x1 : Int32} {x2 : Int32} {x3 : Int32} {x4 : Int32} {x5 : Int32} {v6 : Value} {v7 : Value} {q0 : Nat} {t1 : Int64} {t2 : Int64} (hs0 : h_sh h q0 = some (0, 12)) (hs1 : h_sh h r0 = some (0, 12)) (kt : x5 ≤ (1 : Int32) → wpx d P_Md_countFrom 267 [.ref r0, .int x1, .int x2, .int x3, .int x4, .int x5, v6, v7] [.long (h_l (w_l h q0 61 (t1 + t2)) r0 62), .ref r0] (w_l h q0 61 (t1 + t2)) Q) (kf : ¬ (x5 ≤ (1 : Int32)) → wpx d P_Md_countFrom 257 [.ref r0, .int x1, .int x2, .int x3, .int x4, .int x5, v6, v7] [.long (h_l (w_l h q0 61 (t1 + t2)) r0 62), .ref r0] (w_l h q0 61 (t1 + t2)) Q) : wpx d P_Md_countFrom 242 [.ref r0, .int x1, .int x2, .int x3, .int x4, .int x5, v6, v7] [.long t2, .long t1, .ref q0] h Q := by
  refine st_ladd (pc' := 243) rfl rfl ?_
  refine st_putf (h' := w_l h q0 61 (t1 + t2)) (Or.inl rfl) rfl hs0 rfl rfl rfl (pc' := 246) rfl ?_
  refine st_aload (pc' := 247) rfl rfl rfl ?_
  refine st_dup (pc' := 248) rfl rfl rfl ?_
  refine st_getfl (Or.inl rfl) rfl hs1 rfl (pc' := 251) rfl ?_
  refine st_iload (pc' := 253) rfl rfl rfl ?_
  refine st_ipush (pc' := 254) (v := 1) rfl rfl (by decide) ?_
  exact st_icmp_le (pc' := 257) rfl rfl kt kf
theorem B_Md_countFrom_257 {d : Nat} {h : PH} {Q : PQ} {r0 : Nat} {x1 : Int32} {x2 : Int32} {x3 : Int32} {x4 : Int32} {x5 : Int32} {v6 : Value} {v7 : Value} {q0 : Nat} {t1 : Int64} {a0 : Nat} {n1 : Nat} (hs0 : h_sh h r0 = some (0, 12)) (hr1 : h_r h r0 55 = some a0) (hs2 : h_sh h a0 = some (4, n1)) (hb3 : vp_in x4 n1) (k : wpx d P_Md_countFrom 268 [.ref r0, .int x1, .int x2, .int x3, .int x4, .int x5, v6, v7] [.long (h_l h a0 x4.toNatClampNeg), .long t1, .ref q0] h Q) : wpx d P_Md_countFrom 257 [.ref r0, .int x1, .int x2, .int x3, .int x4, .int x5, v6, v7] [.long t1, .ref q0] h Q := by
  refine st_aload (pc' := 258) rfl rfl rfl ?_
  refine st_getfr (x := some a0) (Or.inl rfl) rfl hs0 rfl hr1 (pc' := 261) rfl ?_
  refine st_iload (pc' := 263) rfl rfl rfl ?_
  refine st_laload rfl hs2 hb3 (j := x4.toNatClampNeg) rfl (pc' := 264) rfl ?_
  exact st_goto rfl k
theorem B_Md_countFrom_267 {d : Nat} {h : PH} {Q : PQ} {r0 : Nat} {x1 : Int32} {x2 : Int32} {x3 : Int32} {x4 : Int32} {x5 : Int32} {v6 : Value} {v7 : Value} {q0 : Nat} {t1 : Int64}  (k : wpx d P_Md_countFrom 268 [.ref r0, .int x1, .int x2, .int x3, .int x4, .int x5, v6, v7] [.long 0, .long t1, .ref q0] h Q) : wpx d P_Md_countFrom 267 [.ref r0, .int x1, .int x2, .int x3, .int x4, .int x5, v6, v7] [.long t1, .ref q0] h Q := by
  refine st_lpush (pc' := 268) (v := 0) rfl rfl (by decide) ?_
  exact k
theorem B_Md_countFrom_268 {d : Nat} {h : PH} {Q : PQ} {r0 : Nat} {x1 : Int32} {x2 : Int32} {x3 : Int32} {x4 : Int32} {x5 : Int32} {v6 : Value} {v7 : Value} {q0 : Nat} {t1 : Int64} {t2 : Int64} (hs0 : h_sh h q0 = some (0, 12)) (k : wpx d P_Md_countFrom 182 [.ref r0, .int x1, .int x2, .int (x3 + 1), .int x4, .int x5, v6, v7] [] (w_l h q0 62 (t1 + t2)) Q) : wpx d P_Md_countFrom 268 [.ref r0, .int x1, .int x2, .int x3, .int x4, .int x5, v6, v7] [.long t2, .long t1, .ref q0] h Q := by
  refine st_ladd (pc' := 269) rfl rfl ?_
  refine st_putf (h' := w_l h q0 62 (t1 + t2)) (Or.inl rfl) rfl hs0 rfl rfl rfl (pc' := 272) rfl ?_
  refine st_iinc (pc' := 275) (v := 1) (ls' := [.ref r0, .int x1, .int x2, .int (x3 + 1), .int x4, .int x5, v6, v7]) rfl rfl rfl (by decide) rfl ?_
  exact st_goto rfl k
theorem B_Md_countFrom_278 {d : Nat} {h : PH} {Q : PQ} {r0 : Nat} {x1 : Int32} {x2 : Int32} {x3 : Int32} {v4 : Value} {v5 : Value} {v6 : Value} {v7 : Value}  (k : Q none h) : wpx d P_Md_countFrom 278 [.ref r0, .int x1, .int x2, .int x3, v4, v5, v6, v7] [] h Q := by
  exact st_return rfl k
theorem B_Md_startsAnew_0 {d : Nat} {h : PH} {Q : PQ} {r0 : Nat} (hs0 : h_sh h r0 = some (0, 12)) (k : wpm d 247 [.ref r0] h (fun r h' => wpx d P_Md_startsAnew 4 [.ref r0] (r.toList ++ []) h' Q)) : wpx d P_Md_startsAnew 0 [.ref r0] [] h Q := by
  refine st_aload (pc' := 1) rfl rfl rfl ?_
  exact st_call (pc' := 4) (as := [.ref r0]) (rest := []) rfl rfl (Nat.le_of_ble_eq_true rfl) rfl rfl (Nat.le_of_ble_eq_true rfl) (kd := 1) (o := 12) rfl rfl (beq_iff_eq.mpr hs0) k
theorem B_Md_startsAnew_4 {d : Nat} {h : PH} {Q : PQ} {r0 : Nat} {a0 : Nat} {n1 : Nat} (hs0 : h_sh h r0 = some (0, 12)) (hr1 : h_r h r0 59 = some a0) (hs2 : h_sh h a0 = some (4, n1)) (hb3 : vp_in 0 n1) (hb4 : vp_in 1 n1) (hb5 : vp_in 2 n1) (hb6 : vp_in 3 n1) (k : Q none (w_l (w_l (w_l (w_l h a0 0 1) a0 1 0) a0 2 0) a0 3 0)) : wpx d P_Md_startsAnew 4 [.ref r0] [] h Q := by
  refine st_aload (pc' := 5) rfl rfl rfl ?_
  refine st_getfr (x := some a0) (Or.inl rfl) rfl hs0 rfl hr1 (pc' := 8) rfl ?_
  refine st_ipush (pc' := 9) (v := 0) rfl rfl (by decide) ?_
  refine st_lpush (pc' := 10) (v := 1) rfl rfl (by decide) ?_
  refine st_lastore rfl hs2 hb3 (j := 0) (by decide) (pc' := 11) rfl ?_
  refine st_aload (pc' := 12) rfl rfl rfl ?_
  refine st_getfr (x := some a0) (Or.inl rfl) rfl hs0 rfl hr1 (pc' := 15) rfl ?_
  refine st_ipush (pc' := 16) (v := 1) rfl rfl (by decide) ?_
  refine st_lpush (pc' := 17) (v := 0) rfl rfl (by decide) ?_
  refine st_lastore rfl hs2 hb4 (j := 1) (by decide) (pc' := 18) rfl ?_
  refine st_aload (pc' := 19) rfl rfl rfl ?_
  refine st_getfr (x := some a0) (Or.inl rfl) rfl hs0 rfl hr1 (pc' := 22) rfl ?_
  refine st_ipush (pc' := 23) (v := 2) rfl rfl (by decide) ?_
  refine st_lpush (pc' := 24) (v := 0) rfl rfl (by decide) ?_
  refine st_lastore rfl hs2 hb5 (j := 2) (by decide) (pc' := 25) rfl ?_
  refine st_aload (pc' := 26) rfl rfl rfl ?_
  refine st_getfr (x := some a0) (Or.inl rfl) rfl hs0 rfl hr1 (pc' := 29) rfl ?_
  refine st_ipush (pc' := 30) (v := 3) rfl rfl (by decide) ?_
  refine st_lpush (pc' := 31) (v := 0) rfl rfl (by decide) ?_
  refine st_lastore rfl hs2 hb6 (j := 3) (by decide) (pc' := 32) rfl ?_
  exact st_return rfl k
theorem B_Md_words_0 {d : Nat} {h : PH} {Q : PQ} {r0 : Nat} {x1 : Int32} {x2 : Int32} (hs0 : h_sh h r0 = some (0, 12)) (k : wpm d 170 [.int x1, .int 0, .int 10] (w_i h r0 0 0) (fun r h' => wpx d P_Md_words 12 [.ref r0, .int x1, .int x2] (r.toList ++ []) h' Q)) : wpx d P_Md_words 0 [.ref r0, .int x1, .int x2] [] h Q := by
  refine st_aload (pc' := 1) rfl rfl rfl ?_
  refine st_ipush (pc' := 2) (v := 0) rfl rfl (by decide) ?_
  refine st_putf (h' := w_i h r0 0 0) (Or.inl rfl) rfl hs0 rfl rfl rfl (pc' := 5) rfl ?_
  refine st_iload (pc' := 6) rfl rfl rfl ?_
  refine st_ipush (pc' := 7) (v := 0) rfl rfl (by decide) ?_
  refine st_ipush (pc' := 9) (v := 10) rfl rfl (by decide) ?_
  exact st_call (pc' := 12) (as := [.int x1, .int 0, .int 10]) (rest := []) rfl rfl (Nat.le_of_ble_eq_true rfl) rfl rfl (Nat.le_of_ble_eq_true rfl) (kd := 0) (o := 12) rfl rfl rfl k
theorem B_Md_words_12 {d : Nat} {h : PH} {Q : PQ} {r0 : Nat} {x1 : Int32} {x2 : Int32} {s0 : Int32}  (kt : s0 = 0 → wpx d P_Md_words 24 [.ref r0, .int x1, .int x2] [] h Q) (kf : ¬ (s0 = 0) → wpx d P_Md_words 15 [.ref r0, .int x1, .int x2] [] h Q) : wpx d P_Md_words 12 [.ref r0, .int x1, .int x2] [.int s0] h Q := by
  exact st_if_eq (pc' := 15) rfl rfl kt kf
theorem B_Md_words_15 {d : Nat} {h : PH} {Q : PQ} {r0 : Nat} {x1 : Int32} {x2 : Int32}  (k : wpm d 170 [.int x2, .int 0, .int 2] h (fun r h' => wpx d P_Md_words 21 [.ref r0, .int x1, .int x2] (r.toList ++ []) h' Q)) : wpx d P_Md_words 15 [.ref r0, .int x1, .int x2] [] h Q := by
  refine st_iload (pc' := 16) rfl rfl rfl ?_
  refine st_ipush (pc' := 17) (v := 0) rfl rfl (by decide) ?_
  refine st_ipush (pc' := 18) (v := 2) rfl rfl (by decide) ?_
  exact st_call (pc' := 21) (as := [.int x2, .int 0, .int 2]) (rest := []) rfl rfl (Nat.le_of_ble_eq_true rfl) rfl rfl (Nat.le_of_ble_eq_true rfl) (kd := 0) (o := 12) rfl rfl rfl k
theorem B_Md_words_21 {d : Nat} {h : PH} {Q : PQ} {r0 : Nat} {x1 : Int32} {x2 : Int32} {s0 : Int32}  (kt : ¬ (s0 = 0) → wpx d P_Md_words 28 [.ref r0, .int x1, .int x2] [] h Q) (kf : s0 = 0 → wpx d P_Md_words 24 [.ref r0, .int x1, .int x2] [] h Q) : wpx d P_Md_words 21 [.ref r0, .int x1, .int x2] [.int s0] h Q := by
  exact st_if_ne (pc' := 24) rfl rfl kt kf
theorem B_Md_words_24 {d : Nat} {h : PH} {Q : PQ} {r0 : Nat} {x1 : Int32} {x2 : Int32}  (k : Q (some (.long (-1))) h) : wpx d P_Md_words 24 [.ref r0, .int x1, .int x2] [] h Q := by
  refine st_ldc2 (pc' := 27) (v := (-1)) rfl rfl (by decide) ?_
  exact st_lreturn rfl k
theorem B_Md_words_28 {d : Nat} {h : PH} {Q : PQ} {r0 : Nat} {x1 : Int32} {x2 : Int32} (hs0 : h_sh h r0 = some (0, 12)) (k : wpm d 256 [.ref r0] h (fun r h' => wpx d P_Md_words 32 [.ref r0, .int x1, .int x2] (r.toList ++ []) h' Q)) : wpx d P_Md_words 28 [.ref r0, .int x1, .int x2] [] h Q := by
  refine st_aload (pc' := 29) rfl rfl rfl ?_
  exact st_call (pc' := 32) (as := [.ref r0]) (rest := []) rfl rfl (Nat.le_of_ble_eq_true rfl) rfl rfl (Nat.le_of_ble_eq_true rfl) (kd := 1) (o := 12) rfl rfl (beq_iff_eq.mpr hs0) k
theorem B_Md_words_32 {d : Nat} {h : PH} {Q : PQ} {r0 : Nat} {x1 : Int32} {x2 : Int32} (hs0 : h_sh h r0 = some (0, 12)) (k : wpm d 255 [.ref r0, .int x1] h (fun r h' => wpx d P_Md_words 37 [.ref r0, .int x1, .int x2] (r.toList ++ []) h' Q)) : wpx d P_Md_words 32 [.ref r0, .int x1, .int x2] [] h Q := by
  refine st_aload (pc' := 33) rfl rfl rfl ?_
  refine st_iload (pc' := 34) rfl rfl rfl ?_
  exact st_call (pc' := 37) (as := [.ref r0, .int x1]) (rest := []) rfl rfl (Nat.le_of_ble_eq_true rfl) rfl rfl (Nat.le_of_ble_eq_true rfl) (kd := 1) (o := 12) rfl rfl (beq_iff_eq.mpr hs0) k
theorem B_Md_words_37 {d : Nat} {h : PH} {Q : PQ} {r0 : Nat} {x1 : Int32} {x2 : Int32}  (kt : ¬ (x2 = 0) → wpx d P_Md_words 48 [.ref r0, .int x1, .int x2] [] h Q) (kf : x2 = 0 → wpx d P_Md_words 41 [.ref r0, .int x1, .int x2] [] h Q) : wpx d P_Md_words 37 [.ref r0, .int x1, .int x2] [] h Q := by
  refine st_iload (pc' := 38) rfl rfl rfl ?_
  exact st_if_ne (pc' := 41) rfl rfl kt kf
theorem B_Md_words_41 {d : Nat} {h : PH} {Q : PQ} {r0 : Nat} {x1 : Int32} {x2 : Int32} (hs0 : h_sh h r0 = some (0, 12)) (k : wpx d P_Md_words 69 [.ref r0, .int x1, .int x2] [.long (h_l h r0 61)] h Q) : wpx d P_Md_words 41 [.ref r0, .int x1, .int x2] [] h Q := by
  refine st_aload (pc' := 42) rfl rfl rfl ?_
  refine st_getfl (Or.inl rfl) rfl hs0 rfl (pc' := 45) rfl ?_
  exact st_goto rfl k
theorem B_Md_words_48 {d : Nat} {h : PH} {Q : PQ} {r0 : Nat} {x1 : Int32} {x2 : Int32}  (kt : ¬ (x2 = (1 : Int32)) → wpx d P_Md_words 65 [.ref r0, .int x1, .int x2] [] h Q) (kf : x2 = (1 : Int32) → wpx d P_Md_words 53 [.ref r0, .int x1, .int x2] [] h Q) : wpx d P_Md_words 48 [.ref r0, .int x1, .int x2] [] h Q := by
  refine st_iload (pc' := 49) rfl rfl rfl ?_
  refine st_ipush (pc' := 50) (v := 1) rfl rfl (by decide) ?_
  exact st_icmp_ne (pc' := 53) rfl rfl kt kf
theorem B_Md_words_53 {d : Nat} {h : PH} {Q : PQ} {r0 : Nat} {x1 : Int32} {x2 : Int32} (hs0 : h_sh h r0 = some (0, 12)) (k : wpx d P_Md_words 69 [.ref r0, .int x1, .int x2] [.long ((h_l h r0 61) - (h_l h r0 62))] h Q) : wpx d P_Md_words 53 [.ref r0, .int x1, .int x2] [] h Q := by
  refine st_aload (pc' := 54) rfl rfl rfl ?_
  refine st_getfl (Or.inl rfl) rfl hs0 rfl (pc' := 57) rfl ?_
  refine st_aload (pc' := 58) rfl rfl rfl ?_
  refine st_getfl (Or.inl rfl) rfl hs0 rfl (pc' := 61) rfl ?_
  refine st_lsub (pc' := 62) rfl rfl ?_
  exact st_goto rfl k
theorem B_Md_words_65 {d : Nat} {h : PH} {Q : PQ} {r0 : Nat} {x1 : Int32} {x2 : Int32} (hs0 : h_sh h r0 = some (0, 12)) (k : wpx d P_Md_words 69 [.ref r0, .int x1, .int x2] [.long (h_l h r0 62)] h Q) : wpx d P_Md_words 65 [.ref r0, .int x1, .int x2] [] h Q := by
  refine st_aload (pc' := 66) rfl rfl rfl ?_
  refine st_getfl (Or.inl rfl) rfl hs0 rfl (pc' := 69) rfl ?_
  exact k
theorem B_Md_words_69 {d : Nat} {h : PH} {Q : PQ} {r0 : Nat} {x1 : Int32} {x2 : Int32} {t0 : Int64}  (k : Q (some (.long t0)) h) : wpx d P_Md_words 69 [.ref r0, .int x1, .int x2] [.long t0] h Q := by
  exact st_lreturn rfl k
theorem B_Md_behindBy_0 {d : Nat} {h : PH} {Q : PQ} {r0 : Nat} {x1 : Int32} {x2 : Int32} {v3 : Value}  (k : wpx d P_Md_behindBy 2 [.ref r0, .int x1, .int x2, .int 0] [] h Q) : wpx d P_Md_behindBy 0 [.ref r0, .int x1, .int x2, v3] [] h Q := by
  refine st_ipush (pc' := 1) (v := 0) rfl rfl (by decide) ?_
  refine st_istore (pc' := 2) (ls' := [.ref r0, .int x1, .int x2, .int 0]) rfl rfl (Nat.le_of_ble_eq_true rfl) rfl ?_
  exact k
theorem B_Md_behindBy_2 {d : Nat} {h : PH} {Q : PQ} {r0 : Nat} {x1 : Int32} {x2 : Int32} {x3 : Int32}  (kt : (4 : Int32) ≤ x3 → wpx d P_Md_behindBy 25 [.ref r0, .int x1, .int x2, .int x3] [] h Q) (kf : ¬ ((4 : Int32) ≤ x3) → wpx d P_Md_behindBy 7 [.ref r0, .int x1, .int x2, .int x3] [] h Q) : wpx d P_Md_behindBy 2 [.ref r0, .int x1, .int x2, .int x3] [] h Q := by
  refine st_iload (pc' := 3) rfl rfl rfl ?_
  refine st_ipush (pc' := 4) (v := 4) rfl rfl (by decide) ?_
  exact st_icmp_ge (pc' := 7) rfl rfl kt kf
theorem B_Md_behindBy_7 {d : Nat} {h : PH} {Q : PQ} {r0 : Nat} {x1 : Int32} {x2 : Int32} {x3 : Int32} {a0 : Nat} {a1 : Nat} {n2 : Nat} {n3 : Nat} (hs0 : h_sh h r0 = some (0, 12)) (hr1 : h_r h r0 59 = some a0) (hr2 : h_r h r0 63 = some a1) (hs3 : h_sh h a1 = some (4, n2)) (hb4 : vp_in x3 n2) (hs5 : h_sh h a0 = some (4, n3)) (hb6 : vp_in x3 n3) (k : wpx d P_Md_behindBy 2 [.ref r0, .int x1, .int x2, .int (x3 + 1)] [] (w_l h a0 x3.toNatClampNeg (h_l h a1 x3.toNatClampNeg)) Q) : wpx d P_Md_behindBy 7 [.ref r0, .int x1, .int x2, .int x3] [] h Q := by
  refine st_aload (pc' := 8) rfl rfl rfl ?_
  refine st_getfr (x := some a0) (Or.inl rfl) rfl hs0 rfl hr1 (pc' := 11) rfl ?_
  refine st_iload (pc' := 12) rfl rfl rfl ?_
  refine st_aload (pc' := 13) rfl rfl rfl ?_
  refine st_getfr (x := some a1) (Or.inl rfl) rfl hs0 rfl hr2 (pc' := 16) rfl ?_
  refine st_iload (pc' := 17) rfl rfl rfl ?_
  refine st_laload rfl hs3 hb4 (j := x3.toNatClampNeg) rfl (pc' := 18) rfl ?_
  refine st_lastore rfl hs5 hb6 (j := x3.toNatClampNeg) rfl (pc' := 19) rfl ?_
  refine st_iinc (pc' := 22) (v := 1) (ls' := [.ref r0, .int x1, .int x2, .int (x3 + 1)]) rfl rfl rfl (by decide) rfl ?_
  exact st_goto rfl k
theorem B_Md_behindBy_25 {d : Nat} {h : PH} {Q : PQ} {r0 : Nat} {x1 : Int32} {x2 : Int32} {x3 : Int32} (hs0 : h_sh h r0 = some (0, 12)) (k : wpm d 251 [.ref r0, .int x1] h (fun r h' => wpx d P_Md_behindBy 30 [.ref r0, .int x1, .int x2, .int x3] (r.toList ++ []) h' Q)) : wpx d P_Md_behindBy 25 [.ref r0, .int x1, .int x2, .int x3] [] h Q := by
  refine st_aload (pc' := 26) rfl rfl rfl ?_
  refine st_iload (pc' := 27) rfl rfl rfl ?_
  exact st_call (pc' := 30) (as := [.ref r0, .int x1]) (rest := []) rfl rfl (Nat.le_of_ble_eq_true rfl) rfl rfl (Nat.le_of_ble_eq_true rfl) (kd := 1) (o := 12) rfl rfl (beq_iff_eq.mpr hs0) k
theorem B_Md_behindBy_30 {d : Nat} {h : PH} {Q : PQ} {r0 : Nat} {x1 : Int32} {x2 : Int32} {x3 : Int32} {s0 : Int32}  (kt : ¬ (s0 = 0) → wpx d P_Md_behindBy 35 [.ref r0, .int x1, .int x2, .int x3] [] h Q) (kf : s0 = 0 → wpx d P_Md_behindBy 33 [.ref r0, .int x1, .int x2, .int x3] [] h Q) : wpx d P_Md_behindBy 30 [.ref r0, .int x1, .int x2, .int x3] [.int s0] h Q := by
  exact st_if_ne (pc' := 33) rfl rfl kt kf
theorem B_Md_behindBy_33 {d : Nat} {h : PH} {Q : PQ} {r0 : Nat} {x1 : Int32} {x2 : Int32} {x3 : Int32}  (k : Q (some (.long 0)) h) : wpx d P_Md_behindBy 33 [.ref r0, .int x1, .int x2, .int x3] [] h Q := by
  refine st_lpush (pc' := 34) (v := 0) rfl rfl (by decide) ?_
  exact st_lreturn rfl k
theorem B_Md_behindBy_35 {d : Nat} {h : PH} {Q : PQ} {r0 : Nat} {x1 : Int32} {x2 : Int32} {x3 : Int32}  (k : wpx d P_Md_behindBy 37 [.ref r0, .int x1, .int x2, .int 0] [] h Q) : wpx d P_Md_behindBy 35 [.ref r0, .int x1, .int x2, .int x3] [] h Q := by
  refine st_ipush (pc' := 36) (v := 0) rfl rfl (by decide) ?_
  refine st_istore (pc' := 37) (ls' := [.ref r0, .int x1, .int x2, .int 0]) rfl rfl (Nat.le_of_ble_eq_true rfl) rfl ?_
  exact k
theorem B_Md_behindBy_37 {d : Nat} {h : PH} {Q : PQ} {r0 : Nat} {x1 : Int32} {x2 : Int32} {x3 : Int32}  (kt : (4 : Int32) ≤ x3 → wpx d P_Md_behindBy 72 [.ref r0, .int x1, .int x2, .int x3] [] h Q) (kf : ¬ ((4 : Int32) ≤ x3) → wpx d P_Md_behindBy 42 [.ref r0, .int x1, .int x2, .int x3] [] h Q) : wpx d P_Md_behindBy 37 [.ref r0, .int x1, .int x2, .int x3] [] h Q := by
  refine st_iload (pc' := 38) rfl rfl rfl ?_
  refine st_ipush (pc' := 39) (v := 4) rfl rfl (by decide) ?_
  exact st_icmp_ge (pc' := 42) rfl rfl kt kf
theorem B_Md_behindBy_42 {d : Nat} {h : PH} {Q : PQ} {r0 : Nat} {x1 : Int32} {x2 : Int32} {x3 : Int32} {a0 : Nat} {a1 : Nat} {n2 : Nat} {n3 : Nat} {a4 : Nat} {n5 : Nat} (hs0 : h_sh h r0 = some (0, 12)) (hr1 : h_r h r0 59 = some a0) (hr2 : h_r h r0 60 = some a1) (hs3 : h_sh h a1 = some (4, n2)) (hb4 : vp_in x3 n2) (hs5 : h_sh h a0 = some (4, n3)) (hb6 : vp_in x3 n3) (hr7 : h_r h r0 64 = some a4) (hs8 : h_sh h a4 = some (4, n5)) (hb9 : vp_in x3 n5) (k : wpx d P_Md_behindBy 37 [.ref r0, .int x1, .int x2, .int (x3 + 1)] [] (w_l (w_l h a0 x3.toNatClampNeg (h_l h a1 x3.toNatClampNeg)) a4 x3.toNatClampNeg (h_l (w_l h a0 x3.toNatClampNeg (h_l h a1 x3.toNatClampNeg)) a1 x3.toNatClampNeg)) Q) : wpx d P_Md_behindBy 42 [.ref r0, .int x1, .int x2, .int x3] [] h Q := by
  refine st_aload (pc' := 43) rfl rfl rfl ?_
  refine st_getfr (x := some a0) (Or.inl rfl) rfl hs0 rfl hr1 (pc' := 46) rfl ?_
  refine st_iload (pc' := 47) rfl rfl rfl ?_
  refine st_aload (pc' := 48) rfl rfl rfl ?_
  refine st_getfr (x := some a1) (Or.inl rfl) rfl hs0 rfl hr2 (pc' := 51) rfl ?_
  refine st_iload (pc' := 52) rfl rfl rfl ?_
  refine st_laload rfl hs3 hb4 (j := x3.toNatClampNeg) rfl (pc' := 53) rfl ?_
  refine st_lastore rfl hs5 hb6 (j := x3.toNatClampNeg) rfl (pc' := 54) rfl ?_
  refine st_aload (pc' := 55) rfl rfl rfl ?_
  refine st_getfr (x := some a4) (Or.inl rfl) rfl hs0 rfl hr7 (pc' := 58) rfl ?_
  refine st_iload (pc' := 59) rfl rfl rfl ?_
  refine st_aload (pc' := 60) rfl rfl rfl ?_
  refine st_getfr (x := some a1) (Or.inl rfl) rfl hs0 rfl hr2 (pc' := 63) rfl ?_
  refine st_iload (pc' := 64) rfl rfl rfl ?_
  refine st_laload rfl hs3 hb4 (j := x3.toNatClampNeg) rfl (pc' := 65) rfl ?_
  refine st_lastore rfl hs8 hb9 (j := x3.toNatClampNeg) rfl (pc' := 66) rfl ?_
  refine st_iinc (pc' := 69) (v := 1) (ls' := [.ref r0, .int x1, .int x2, .int (x3 + 1)]) rfl rfl rfl (by decide) rfl ?_
  exact st_goto rfl k
theorem B_Md_behindBy_72 {d : Nat} {h : PH} {Q : PQ} {r0 : Nat} {x1 : Int32} {x2 : Int32} {x3 : Int32} (hs0 : h_sh h r0 = some (0, 12)) (k : wpm d 255 [.ref r0, .int x2] h (fun r h' => wpx d P_Md_behindBy 77 [.ref r0, .int x1, .int x2, .int x3] (r.toList ++ []) h' Q)) : wpx d P_Md_behindBy 72 [.ref r0, .int x1, .int x2, .int x3] [] h Q := by
  refine st_aload (pc' := 73) rfl rfl rfl ?_
  refine st_iload (pc' := 74) rfl rfl rfl ?_
  exact st_call (pc' := 77) (as := [.ref r0, .int x2]) (rest := []) rfl rfl (Nat.le_of_ble_eq_true rfl) rfl rfl (Nat.le_of_ble_eq_true rfl) (kd := 1) (o := 12) rfl rfl (beq_iff_eq.mpr hs0) k
theorem B_Md_behindBy_77 {d : Nat} {h : PH} {Q : PQ} {r0 : Nat} {x1 : Int32} {x2 : Int32} {x3 : Int32} (hs0 : h_sh h r0 = some (0, 12)) (k : Q (some (.long (h_l h r0 61))) h) : wpx d P_Md_behindBy 77 [.ref r0, .int x1, .int x2, .int x3] [] h Q := by
  refine st_aload (pc' := 78) rfl rfl rfl ?_
  refine st_getfl (Or.inl rfl) rfl hs0 rfl (pc' := 81) rfl ?_
  exact st_lreturn rfl k
theorem B_Md_goesThere_0 {d : Nat} {h : PH} {Q : PQ} {r0 : Nat} {v1 : Value}  (k : wpx d P_Md_goesThere 2 [.ref r0, .int 0] [] h Q) : wpx d P_Md_goesThere 0 [.ref r0, v1] [] h Q := by
  refine st_ipush (pc' := 1) (v := 0) rfl rfl (by decide) ?_
  refine st_istore (pc' := 2) (ls' := [.ref r0, .int 0]) rfl rfl (Nat.le_of_ble_eq_true rfl) rfl ?_
  exact k
theorem B_Md_goesThere_2 {d : Nat} {h : PH} {Q : PQ} {r0 : Nat} {x1 : Int32}  (kt : (4 : Int32) ≤ x1 → wpx d P_Md_goesThere 25 [.ref r0, .int x1] [] h Q) (kf : ¬ ((4 : Int32) ≤ x1) → wpx d P_Md_goesThere 7 [.ref r0, .int x1] [] h Q) : wpx d P_Md_goesThere 2 [.ref r0, .int x1] [] h Q := by
  refine st_iload (pc' := 3) rfl rfl rfl ?_
  refine st_ipush (pc' := 4) (v := 4) rfl rfl (by decide) ?_
  exact st_icmp_ge (pc' := 7) rfl rfl kt kf
theorem B_Md_goesThere_7 {d : Nat} {h : PH} {Q : PQ} {r0 : Nat} {x1 : Int32} {a0 : Nat} {a1 : Nat} {n2 : Nat} {n3 : Nat} (hs0 : h_sh h r0 = some (0, 12)) (hr1 : h_r h r0 63 = some a0) (hr2 : h_r h r0 64 = some a1) (hs3 : h_sh h a1 = some (4, n2)) (hb4 : vp_in x1 n2) (hs5 : h_sh h a0 = some (4, n3)) (hb6 : vp_in x1 n3) (k : wpx d P_Md_goesThere 2 [.ref r0, .int (x1 + 1)] [] (w_l h a0 x1.toNatClampNeg (h_l h a1 x1.toNatClampNeg)) Q) : wpx d P_Md_goesThere 7 [.ref r0, .int x1] [] h Q := by
  refine st_aload (pc' := 8) rfl rfl rfl ?_
  refine st_getfr (x := some a0) (Or.inl rfl) rfl hs0 rfl hr1 (pc' := 11) rfl ?_
  refine st_iload (pc' := 12) rfl rfl rfl ?_
  refine st_aload (pc' := 13) rfl rfl rfl ?_
  refine st_getfr (x := some a1) (Or.inl rfl) rfl hs0 rfl hr2 (pc' := 16) rfl ?_
  refine st_iload (pc' := 17) rfl rfl rfl ?_
  refine st_laload rfl hs3 hb4 (j := x1.toNatClampNeg) rfl (pc' := 18) rfl ?_
  refine st_lastore rfl hs5 hb6 (j := x1.toNatClampNeg) rfl (pc' := 19) rfl ?_
  refine st_iinc (pc' := 22) (v := 1) (ls' := [.ref r0, .int (x1 + 1)]) rfl rfl rfl (by decide) rfl ?_
  exact st_goto rfl k
theorem B_Md_goesThere_25 {d : Nat} {h : PH} {Q : PQ} {r0 : Nat} {x1 : Int32}  (k : Q none h) : wpx d P_Md_goesThere 25 [.ref r0, .int x1] [] h Q := by
  exact st_return rfl k
theorem B_Md_nth_0 {d : Nat} {h : PH} {Q : PQ} {r0 : Nat} {x1 : Int32} {l2 : Int64} {v4 : Value} {v5 : Value} {v6 : Value} {v7 : Value} {v8 : Value} {v9 : Value} (hs0 : h_sh h r0 = some (0, 12)) (k : wpm d 170 [.int x1, .int 0, .int 10] (w_i h r0 0 0) (fun r h' => wpx d P_Md_nth 12 [.ref r0, .int x1, .long l2, .retAddr 2, v4, v5, v6, v7, v8, v9] (r.toList ++ []) h' Q)) : wpx d P_Md_nth 0 [.ref r0, .int x1, .long l2, .retAddr 2, v4, v5, v6, v7, v8, v9] [] h Q := by
  refine st_aload (pc' := 1) rfl rfl rfl ?_
  refine st_ipush (pc' := 2) (v := 0) rfl rfl (by decide) ?_
  refine st_putf (h' := w_i h r0 0 0) (Or.inl rfl) rfl hs0 rfl rfl rfl (pc' := 5) rfl ?_
  refine st_iload (pc' := 6) rfl rfl rfl ?_
  refine st_ipush (pc' := 7) (v := 0) rfl rfl (by decide) ?_
  refine st_ipush (pc' := 9) (v := 10) rfl rfl (by decide) ?_
  exact st_call (pc' := 12) (as := [.int x1, .int 0, .int 10]) (rest := []) rfl rfl (Nat.le_of_ble_eq_true rfl) rfl rfl (Nat.le_of_ble_eq_true rfl) (kd := 0) (o := 12) rfl rfl rfl k
theorem B_Md_nth_12 {d : Nat} {h : PH} {Q : PQ} {r0 : Nat} {x1 : Int32} {l2 : Int64} {v4 : Value} {v5 : Value} {v6 : Value} {v7 : Value} {v8 : Value} {v9 : Value} {s0 : Int32}  (kt : s0 = 0 → wpx d P_Md_nth 21 [.ref r0, .int x1, .long l2, .retAddr 2, v4, v5, v6, v7, v8, v9] [] h Q) (kf : ¬ (s0 = 0) → wpx d P_Md_nth 15 [.ref r0, .int x1, .long l2, .retAddr 2, v4, v5, v6, v7, v8, v9] [] h Q) : wpx d P_Md_nth 12 [.ref r0, .int x1, .long l2, .retAddr 2, v4, v5, v6, v7, v8, v9] [.int s0] h Q := by
  exact st_if_eq (pc' := 15) rfl rfl kt kf
theorem B_Md_nth_15 {d : Nat} {h : PH} {Q : PQ} {r0 : Nat} {x1 : Int32} {l2 : Int64} {v4 : Value} {v5 : Value} {v6 : Value} {v7 : Value} {v8 : Value} {v9 : Value}  (kt : 0 ≤ (lg_cmp l2 (0 : Int64)) → wpx d P_Md_nth 23 [.ref r0, .int x1, .long l2, .retAddr 2, v4, v5, v6, v7, v8, v9] [] h Q) (kf : ¬ (0 ≤ (lg_cmp l2 (0 : Int64))) → wpx d P_Md_nth 21 [.ref r0, .int x1, .long l2, .retAddr 2, v4, v5, v6, v7, v8, v9] [] h Q) : wpx d P_Md_nth 15 [.ref r0, .int x1, .long l2, .retAddr 2, v4, v5, v6, v7, v8, v9] [] h Q := by
  refine st_lload (pc' := 16) rfl rfl rfl rfl ?_
  refine st_lpush (pc' := 17) (v := 0) rfl rfl (by decide) ?_
  refine st_lcmp (pc' := 18) rfl rfl ?_
  exact st_if_ge (pc' := 21) rfl rfl kt kf
theorem B_Md_nth_21 {d : Nat} {h : PH} {Q : PQ} {r0 : Nat} {x1 : Int32} {l2 : Int64} {v4 : Value} {v5 : Value} {v6 : Value} {v7 : Value} {v8 : Value} {v9 : Value}  (k : Q (some (.int 0)) h) : wpx d P_Md_nth 21 [.ref r0, .int x1, .long l2, .retAddr 2, v4, v5, v6, v7, v8, v9] [] h Q := by
  refine st_ipush (pc' := 22) (v := 0) rfl rfl (by decide) ?_
  exact st_ireturn (ty := .boolean) rfl rfl (by decide) k
theorem B_Md_nth_23 {d : Nat} {h : PH} {Q : PQ} {r0 : Nat} {x1 : Int32} {l2 : Int64} {v4 : Value} {v5 : Value} {v6 : Value} {v7 : Value} {v8 : Value} {v9 : Value} (hs0 : h_sh h r0 = some (0, 12)) (k : wpm d 256 [.ref r0] h (fun r h' => wpx d P_Md_nth 27 [.ref r0, .int x1, .long l2, .retAddr 2, v4, v5, v6, v7, v8, v9] (r.toList ++ []) h' Q)) : wpx d P_Md_nth 23 [.ref r0, .int x1, .long l2, .retAddr 2, v4, v5, v6, v7, v8, v9] [] h Q := by
  refine st_aload (pc' := 24) rfl rfl rfl ?_
  exact st_call (pc' := 27) (as := [.ref r0]) (rest := []) rfl rfl (Nat.le_of_ble_eq_true rfl) rfl rfl (Nat.le_of_ble_eq_true rfl) (kd := 1) (o := 12) rfl rfl (beq_iff_eq.mpr hs0) k
theorem B_Md_nth_27 {d : Nat} {h : PH} {Q : PQ} {r0 : Nat} {x1 : Int32} {l2 : Int64} {v4 : Value} {v5 : Value} {v6 : Value} {v7 : Value} {v8 : Value} {v9 : Value}  (k : wpx d P_Md_nth 30 [.ref r0, .int x1, .long l2, .retAddr 2, .int 0, v5, v6, v7, v8, v9] [] h Q) : wpx d P_Md_nth 27 [.ref r0, .int x1, .long l2, .retAddr 2, v4, v5, v6, v7, v8, v9] [] h Q := by
  refine st_ipush (pc' := 28) (v := 0) rfl rfl (by decide) ?_
  refine st_istore (pc' := 30) (ls' := [.ref r0, .int x1, .long l2, .retAddr 2, .int 0, v5, v6, v7, v8, v9]) rfl rfl (Nat.le_of_ble_eq_true rfl) rfl ?_
  exact k
theorem B_Md_nth_30 {d : Nat} {h : PH} {Q : PQ} {r0 : Nat} {x1 : Int32} {l2 : Int64} {x4 : Int32} {v5 : Value} {v6 : Value} {v7 : Value} {v8 : Value} {v9 : Value}  (kt : (4 : Int32) ≤ x4 → wpx d P_Md_nth 56 [.ref r0, .int x1, .long l2, .retAddr 2, .int x4, v5, v6, v7, v8, v9] [] h Q) (kf : ¬ ((4 : Int32) ≤ x4) → wpx d P_Md_nth 36 [.ref r0, .int x1, .long l2, .retAddr 2, .int x4, v5, v6, v7, v8, v9] [] h Q) : wpx d P_Md_nth 30 [.ref r0, .int x1, .long l2, .retAddr 2, .int x4, v5, v6, v7, v8, v9] [] h Q := by
  refine st_iload (pc' := 32) rfl rfl rfl ?_
  refine st_ipush (pc' := 33) (v := 4) rfl rfl (by decide) ?_
  exact st_icmp_ge (pc' := 36) rfl rfl kt kf
theorem B_Md_nth_36 {d : Nat} {h : PH} {Q : PQ} {r0 : Nat} {x1 : Int32} {l2 : Int64} {x4 : Int32} {v5 : Value} {v6 : Value} {v7 : Value} {v8 : Value} {v9 : Value} {a0 : Nat} {a1 : Nat} {n2 : Nat} {n3 : Nat} (hs0 : h_sh h r0 = some (0, 12)) (hr1 : h_r h r0 63 = some a0) (hr2 : h_r h r0 59 = some a1) (hs3 : h_sh h a1 = some (4, n2)) (hb4 : vp_in x4 n2) (hs5 : h_sh h a0 = some (4, n3)) (hb6 : vp_in x4 n3) (k : wpx d P_Md_nth 30 [.ref r0, .int x1, .long l2, .retAddr 2, .int (x4 + 1), v5, v6, v7, v8, v9] [] (w_l h a0 x4.toNatClampNeg (h_l h a1 x4.toNatClampNeg)) Q) : wpx d P_Md_nth 36 [.ref r0, .int x1, .long l2, .retAddr 2, .int x4, v5, v6, v7, v8, v9] [] h Q := by
  refine st_aload (pc' := 37) rfl rfl rfl ?_
  refine st_getfr (x := some a0) (Or.inl rfl) rfl hs0 rfl hr1 (pc' := 40) rfl ?_
  refine st_iload (pc' := 42) rfl rfl rfl ?_
  refine st_aload (pc' := 43) rfl rfl rfl ?_
  refine st_getfr (x := some a1) (Or.inl rfl) rfl hs0 rfl hr2 (pc' := 46) rfl ?_
  refine st_iload (pc' := 48) rfl rfl rfl ?_
  refine st_laload rfl hs3 hb4 (j := x4.toNatClampNeg) rfl (pc' := 49) rfl ?_
  refine st_lastore rfl hs5 hb6 (j := x4.toNatClampNeg) rfl (pc' := 50) rfl ?_
  refine st_iinc (pc' := 53) (v := 1) (ls' := [.ref r0, .int x1, .long l2, .retAddr 2, .int (x4 + 1), v5, v6, v7, v8, v9]) rfl rfl rfl (by decide) rfl ?_
  exact st_goto rfl k
theorem B_Md_nth_56 {d : Nat} {h : PH} {Q : PQ} {r0 : Nat} {x1 : Int32} {l2 : Int64} {x4 : Int32} {v5 : Value} {v6 : Value} {v7 : Value} {v8 : Value} {v9 : Value} (hs0 : h_sh h r0 = some (0, 12)) (k : wpm d 255 [.ref r0, .int x1] h (fun r h' => wpx d P_Md_nth 61 [.ref r0, .int x1, .long l2, .retAddr 2, .int x4, v5, v6, v7, v8, v9] (r.toList ++ []) h' Q)) : wpx d P_Md_nth 56 [.ref r0, .int x1, .long l2, .retAddr 2, .int x4, v5, v6, v7, v8, v9] [] h Q := by
  refine st_aload (pc' := 57) rfl rfl rfl ?_
  refine st_iload (pc' := 58) rfl rfl rfl ?_
  exact st_call (pc' := 61) (as := [.ref r0, .int x1]) (rest := []) rfl rfl (Nat.le_of_ble_eq_true rfl) rfl rfl (Nat.le_of_ble_eq_true rfl) (kd := 1) (o := 12) rfl rfl (beq_iff_eq.mpr hs0) k
theorem B_Md_nth_61 {d : Nat} {h : PH} {Q : PQ} {r0 : Nat} {x1 : Int32} {l2 : Int64} {x4 : Int32} {v5 : Value} {v6 : Value} {v7 : Value} {v8 : Value} {v9 : Value} (hs0 : h_sh h r0 = some (0, 12)) (kt : (lg_cmp l2 (h_l h r0 61)) < 0 → wpx d P_Md_nth 72 [.ref r0, .int x1, .long l2, .retAddr 2, .int x4, v5, v6, v7, v8, v9] [] h Q) (kf : ¬ ((lg_cmp l2 (h_l h r0 61)) < 0) → wpx d P_Md_nth 70 [.ref r0, .int x1, .long l2, .retAddr 2, .int x4, v5, v6, v7, v8, v9] [] h Q) : wpx d P_Md_nth 61 [.ref r0, .int x1, .long l2, .retAddr 2, .int x4, v5, v6, v7, v8, v9] [] h Q := by
  refine st_lload (pc' := 62) rfl rfl rfl rfl ?_
  refine st_aload (pc' := 63) rfl rfl rfl ?_
  refine st_getfl (Or.inl rfl) rfl hs0 rfl (pc' := 66) rfl ?_
  refine st_lcmp (pc' := 67) rfl rfl ?_
  exact st_if_lt (pc' := 70) rfl rfl kt kf
theorem B_Md_nth_70 {d : Nat} {h : PH} {Q : PQ} {r0 : Nat} {x1 : Int32} {l2 : Int64} {x4 : Int32} {v5 : Value} {v6 : Value} {v7 : Value} {v8 : Value} {v9 : Value}  (k : Q (some (.int 0)) h) : wpx d P_Md_nth 70 [.ref r0, .int x1, .long l2, .retAddr 2, .int x4, v5, v6, v7, v8, v9] [] h Q := by
  refine st_ipush (pc' := 71) (v := 0) rfl rfl (by decide) ?_
  exact st_ireturn (ty := .boolean) rfl rfl (by decide) k
theorem B_Md_nth_72 {d : Nat} {h : PH} {Q : PQ} {r0 : Nat} {x1 : Int32} {l2 : Int64} {x4 : Int32} {v5 : Value} {v6 : Value} {v7 : Value} {v8 : Value} {v9 : Value}  (k : wpx d P_Md_nth 78 [.ref r0, .int x1, .long l2, .retAddr 2, .long l2, .retAddr 2, .int 0, v7, v8, v9] [] h Q) : wpx d P_Md_nth 72 [.ref r0, .int x1, .long l2, .retAddr 2, .int x4, v5, v6, v7, v8, v9] [] h Q := by
  refine st_lload (pc' := 73) rfl rfl rfl rfl ?_
  refine st_lstore (pc' := 75) (ls' := [.ref r0, .int x1, .long l2, .retAddr 2, .long l2, .retAddr 2, v6, v7, v8, v9]) rfl rfl (Nat.le_of_ble_eq_true rfl) rfl ?_
  refine st_ipush (pc' := 76) (v := 0) rfl rfl (by decide) ?_
  refine st_istore (pc' := 78) (ls' := [.ref r0, .int x1, .long l2, .retAddr 2, .long l2, .retAddr 2, .int 0, v7, v8, v9]) rfl rfl (Nat.le_of_ble_eq_true rfl) rfl ?_
  exact k
theorem B_Md_nth_78 {d : Nat} {h : PH} {Q : PQ} {r0 : Nat} {x1 : Int32} {l2 : Int64} {l4 : Int64} {x6 : Int32} {v7 : Value} {v8 : Value} {v9 : Value}  (kt : x1 ≤ x6 → wpx d P_Md_nth 158 [.ref r0, .int x1, .long l2, .retAddr 2, .long l4, .retAddr 2, .int x6, v7, v8, v9] [] h Q) (kf : ¬ (x1 ≤ x6) → wpx d P_Md_nth 84 [.ref r0, .int x1, .long l2, .retAddr 2, .long l4, .retAddr 2, .int x6, v7, v8, v9] [] h Q) : wpx d P_Md_nth 78 [.ref r0, .int x1, .long l2, .retAddr 2, .long l4, .retAddr 2, .int x6, v7, v8, v9] [] h Q := by
  refine st_iload (pc' := 80) rfl rfl rfl ?_
  refine st_iload (pc' := 81) rfl rfl rfl ?_
  exact st_icmp_ge (pc' := 84) rfl rfl kt kf
theorem B_Md_nth_84 {d : Nat} {h : PH} {Q : PQ} {r0 : Nat} {x1 : Int32} {l2 : Int64} {l4 : Int64} {x6 : Int32} {v7 : Value} {v8 : Value} {v9 : Value} (hs0 : h_sh h r0 = some (0, 12)) (k : wpm d 258 [.ref r0, .int 0, .int ((x1 - (1 : Int32)) - x6)] h (fun r h' => wpx d P_Md_nth 99 [.ref r0, .int x1, .long l2, .retAddr 2, .long l4, .retAddr 2, .int x6, .int 0, v8, v9] (r.toList ++ []) h' Q)) : wpx d P_Md_nth 84 [.ref r0, .int x1, .long l2, .retAddr 2, .long l4, .retAddr 2, .int x6, v7, v8, v9] [] h Q := by
  refine st_ipush (pc' := 85) (v := 0) rfl rfl (by decide) ?_
  refine st_istore (pc' := 87) (ls' := [.ref r0, .int x1, .long l2, .retAddr 2, .long l4, .retAddr 2, .int x6, .int 0, v8, v9]) rfl rfl (Nat.le_of_ble_eq_true rfl) rfl ?_
  refine st_aload (pc' := 88) rfl rfl rfl ?_
  refine st_iload (pc' := 90) rfl rfl rfl ?_
  refine st_iload (pc' := 91) rfl rfl rfl ?_
  refine st_ipush (pc' := 92) (v := 1) rfl rfl (by decide) ?_
  refine st_isub (pc' := 93) rfl rfl ?_
  refine st_iload (pc' := 95) rfl rfl rfl ?_
  refine st_isub (pc' := 96) rfl rfl ?_
  exact st_call (pc' := 99) (as := [.ref r0, .int 0, .int ((x1 - (1 : Int32)) - x6)]) (rest := []) rfl rfl (Nat.le_of_ble_eq_true rfl) rfl rfl (Nat.le_of_ble_eq_true rfl) (kd := 1) (o := 12) rfl rfl (beq_iff_eq.mpr hs0) k
theorem B_Md_nth_99 {d : Nat} {h : PH} {Q : PQ} {r0 : Nat} {x1 : Int32} {l2 : Int64} {l4 : Int64} {x6 : Int32} {x7 : Int32} {v8 : Value} {v9 : Value} {t0 : Int64}  (k : wpx d P_Md_nth 101 [.ref r0, .int x1, .long l2, .retAddr 2, .long l4, .retAddr 2, .int x6, .int x7, .long t0, .retAddr 2] [] h Q) : wpx d P_Md_nth 99 [.ref r0, .int x1, .long l2, .retAddr 2, .long l4, .retAddr 2, .int x6, .int x7, v8, v9] [.long t0] h Q := by
  refine st_lstore (pc' := 101) (ls' := [.ref r0, .int x1, .long l2, .retAddr 2, .long l4, .retAddr 2, .int x6, .int x7, .long t0, .retAddr 2]) rfl rfl (Nat.le_of_ble_eq_true rfl) rfl ?_
  exact k
theorem B_Md_nth_101 {d : Nat} {h : PH} {Q : PQ} {r0 : Nat} {x1 : Int32} {l2 : Int64} {l4 : Int64} {x6 : Int32} {x7 : Int32} {l8 : Int64}  (kt : (lg_cmp l4 l8) < 0 → wpx d P_Md_nth 136 [.ref r0, .int x1, .long l2, .retAddr 2, .long l4, .retAddr 2, .int x6, .int x7, .long l8, .retAddr 2] [] h Q) (kf : ¬ ((lg_cmp l4 l8) < 0) → wpx d P_Md_nth 109 [.ref r0, .int x1, .long l2, .retAddr 2, .long l4, .retAddr 2, .int x6, .int x7, .long l8, .retAddr 2] [] h Q) : wpx d P_Md_nth 101 [.ref r0, .int x1, .long l2, .retAddr 2, .long l4, .retAddr 2, .int x6, .int x7, .long l8, .retAddr 2] [] h Q := by
  refine st_lload (pc' := 103) rfl rfl rfl rfl ?_
  refine st_lload (pc' := 105) rfl rfl rfl rfl ?_
  refine st_lcmp (pc' := 106) rfl rfl ?_
  exact st_if_lt (pc' := 109) rfl rfl kt kf
theorem B_Md_nth_109 {d : Nat} {h : PH} {Q : PQ} {r0 : Nat} {x1 : Int32} {l2 : Int64} {l4 : Int64} {x6 : Int32} {x7 : Int32} {l8 : Int64} (hs0 : h_sh h r0 = some (0, 12)) (k : wpm d 258 [.ref r0, .int (x7 + 1), .int ((x1 - (1 : Int32)) - x6)] h (fun r h' => wpx d P_Md_nth 131 [.ref r0, .int x1, .long l2, .retAddr 2, .long (l4 - l8), .retAddr 2, .int x6, .int (x7 + 1), .long l8, .retAddr 2] (r.toList ++ []) h' Q)) : wpx d P_Md_nth 109 [.ref r0, .int x1, .long l2, .retAddr 2, .long l4, .retAddr 2, .int x6, .int x7, .long l8, .retAddr 2] [] h Q := by
  refine st_lload (pc' := 111) rfl rfl rfl rfl ?_
  refine st_lload (pc' := 113) rfl rfl rfl rfl ?_
  refine st_lsub (pc' := 114) rfl rfl ?_
  refine st_lstore (pc' := 116) (ls' := [.ref r0, .int x1, .long l2, .retAddr 2, .long (l4 - l8), .retAddr 2, .int x6, .int x7, .long l8, .retAddr 2]) rfl rfl (Nat.le_of_ble_eq_true rfl) rfl ?_
  refine st_iinc (pc' := 119) (v := 1) (ls' := [.ref r0, .int x1, .long l2, .retAddr 2, .long (l4 - l8), .retAddr 2, .int x6, .int (x7 + 1), .long l8, .retAddr 2]) rfl rfl rfl (by decide) rfl ?_
  refine st_aload (pc' := 120) rfl rfl rfl ?_
  refine st_iload (pc' := 122) rfl rfl rfl ?_
  refine st_iload (pc' := 123) rfl rfl rfl ?_
  refine st_ipush (pc' := 124) (v := 1) rfl rfl (by decide) ?_
  refine st_isub (pc' := 125) rfl rfl ?_
  refine st_iload (pc' := 127) rfl rfl rfl ?_
  refine st_isub (pc' := 128) rfl rfl ?_
  exact st_call (pc' := 131) (as := [.ref r0, .int (x7 + 1), .int ((x1 - (1 : Int32)) - x6)]) (rest := []) rfl rfl (Nat.le_of_ble_eq_true rfl) rfl rfl (Nat.le_of_ble_eq_true rfl) (kd := 1) (o := 12) rfl rfl (beq_iff_eq.mpr hs0) k
theorem B_Md_nth_131 {d : Nat} {h : PH} {Q : PQ} {r0 : Nat} {x1 : Int32} {l2 : Int64} {l4 : Int64} {x6 : Int32} {x7 : Int32} {l8 : Int64} {t0 : Int64}  (k : wpx d P_Md_nth 101 [.ref r0, .int x1, .long l2, .retAddr 2, .long l4, .retAddr 2, .int x6, .int x7, .long t0, .retAddr 2] [] h Q) : wpx d P_Md_nth 131 [.ref r0, .int x1, .long l2, .retAddr 2, .long l4, .retAddr 2, .int x6, .int x7, .long l8, .retAddr 2] [.long t0] h Q := by
  refine st_lstore (pc' := 133) (ls' := [.ref r0, .int x1, .long l2, .retAddr 2, .long l4, .retAddr 2, .int x6, .int x7, .long t0, .retAddr 2]) rfl rfl (Nat.le_of_ble_eq_true rfl) rfl ?_
  exact st_goto rfl k
theorem B_Md_nth_136 {d : Nat} {h : PH} {Q : PQ} {r0 : Nat} {x1 : Int32} {l2 : Int64} {l4 : Int64} {x6 : Int32} {x7 : Int32} {l8 : Int64} (hs0 : h_sh h r0 = some (0, 12)) (k : wpm d 259 [.ref r0] h (fun r h' => wpx d P_Md_nth 140 [.ref r0, .int x1, .long l2, .retAddr 2, .long l4, .retAddr 2, .int x6, .int x7, .long l8, .retAddr 2] (r.toList ++ []) h' Q)) : wpx d P_Md_nth 136 [.ref r0, .int x1, .long l2, .retAddr 2, .long l4, .retAddr 2, .int x6, .int x7, .long l8, .retAddr 2] [] h Q := by
  refine st_aload (pc' := 137) rfl rfl rfl ?_
  exact st_call (pc' := 140) (as := [.ref r0]) (rest := []) rfl rfl (Nat.le_of_ble_eq_true rfl) rfl rfl (Nat.le_of_ble_eq_true rfl) (kd := 1) (o := 12) rfl rfl (beq_iff_eq.mpr hs0) k
theorem B_Md_nth_140 {d : Nat} {h : PH} {Q : PQ} {r0 : Nat} {x1 : Int32} {l2 : Int64} {l4 : Int64} {x6 : Int32} {x7 : Int32} {l8 : Int64} {a0 : Nat} {n1 : Nat} (hs0 : h_sh h r0 = some (0, 12)) (hr1 : h_r h r0 23 = some a0) (hs2 : h_sh h a0 = some (1, n1)) (hb3 : vp_in x6 n1) (k : wpx d P_Md_nth 78 [.ref r0, .int x1, .long l2, .retAddr 2, .long l4, .retAddr 2, .int (x6 + 1), .int x7, .long l8, .retAddr 2] [] (w_i h a0 x6.toNatClampNeg ((97 : Int32) + x7)) Q) : wpx d P_Md_nth 140 [.ref r0, .int x1, .long l2, .retAddr 2, .long l4, .retAddr 2, .int x6, .int x7, .long l8, .retAddr 2] [] h Q := by
  refine st_aload (pc' := 141) rfl rfl rfl ?_
  refine st_getfr (x := some a0) (Or.inl rfl) rfl hs0 rfl hr1 (pc' := 144) rfl ?_
  refine st_iload (pc' := 146) rfl rfl rfl ?_
  refine st_ipush (pc' := 148) (v := 97) rfl rfl (by decide) ?_
  refine st_iload (pc' := 150) rfl rfl rfl ?_
  refine st_iadd (pc' := 151) rfl rfl ?_
  refine st_iastore rfl hs2 hb3 (j := x6.toNatClampNeg) rfl (pc' := 152) rfl ?_
  refine st_iinc (pc' := 155) (v := 1) (ls' := [.ref r0, .int x1, .long l2, .retAddr 2, .long l4, .retAddr 2, .int (x6 + 1), .int x7, .long l8, .retAddr 2]) rfl rfl rfl (by decide) rfl ?_
  exact st_goto rfl k
theorem B_Md_nth_158 {d : Nat} {h : PH} {Q : PQ} {r0 : Nat} {x1 : Int32} {l2 : Int64} {l4 : Int64} {x6 : Int32} {v7 : Value} {v8 : Value} {v9 : Value} (hs0 : h_sh h r0 = some (0, 12)) (k : Q (some (.int 1)) (w_i h r0 24 x1)) : wpx d P_Md_nth 158 [.ref r0, .int x1, .long l2, .retAddr 2, .long l4, .retAddr 2, .int x6, v7, v8, v9] [] h Q := by
  refine st_aload (pc' := 159) rfl rfl rfl ?_
  refine st_iload (pc' := 160) rfl rfl rfl ?_
  refine st_putf (h' := w_i h r0 24 x1) (Or.inl rfl) rfl hs0 rfl rfl rfl (pc' := 163) rfl ?_
  refine st_ipush (pc' := 164) (v := 1) rfl rfl (by decide) ?_
  exact st_ireturn (ty := .boolean) rfl rfl (by decide) k
theorem B_Md_place_0 {d : Nat} {h : PH} {Q : PQ} {r0 : Nat} {v1 : Value} {v2 : Value} {v3 : Value} {v4 : Value} {a0 : Nat} (hs0 : h_sh h r0 = some (0, 12)) (hr1 : h_r h r0 23 = some a0) (k : wpm d 227 [.ref r0, .ref a0, .int (h_i (w_i h r0 0 0) r0 24)] (w_i h r0 0 0) (fun r h' => wpx d P_Md_place 17 [.ref r0, v1, v2, v3, v4] (r.toList ++ []) h' Q)) : wpx d P_Md_place 0 [.ref r0, v1, v2, v3, v4] [] h Q := by
  refine st_aload (pc' := 1) rfl rfl rfl ?_
  refine st_ipush (pc' := 2) (v := 0) rfl rfl (by decide) ?_
  refine st_putf (h' := w_i h r0 0 0) (Or.inl rfl) rfl hs0 rfl rfl rfl (pc' := 5) rfl ?_
  refine st_aload (pc' := 6) rfl rfl rfl ?_
  refine st_aload (pc' := 7) rfl rfl rfl ?_
  refine st_getfr (x := some a0) (Or.inl rfl) rfl hs0 rfl hr1 (pc' := 10) rfl ?_
  refine st_aload (pc' := 11) rfl rfl rfl ?_
  refine st_getfi (Or.inl rfl) rfl hs0 rfl (pc' := 14) rfl ?_
  exact st_call (pc' := 17) (as := [.ref r0, .ref a0, .int (h_i (w_i h r0 0 0) r0 24)]) (rest := []) rfl rfl (Nat.le_of_ble_eq_true rfl) rfl rfl (Nat.le_of_ble_eq_true rfl) (kd := 1) (o := 12) rfl rfl (beq_iff_eq.mpr hs0) k
theorem B_Md_place_17 {d : Nat} {h : PH} {Q : PQ} {r0 : Nat} {v1 : Value} {v2 : Value} {v3 : Value} {v4 : Value} (hs0 : h_sh h r0 = some (0, 12)) (kt : (10 : Int32) < (h_i h r0 24) → wpx d P_Md_place 37 [.ref r0, v1, v2, v3, v4] [] h Q) (kf : ¬ ((10 : Int32) < (h_i h r0 24)) → wpx d P_Md_place 26 [.ref r0, v1, v2, v3, v4] [] h Q) : wpx d P_Md_place 17 [.ref r0, v1, v2, v3, v4] [] h Q := by
  refine st_aload (pc' := 18) rfl rfl rfl ?_
  refine st_getfi (Or.inl rfl) rfl hs0 rfl (pc' := 21) rfl ?_
  refine st_ipush (pc' := 23) (v := 10) rfl rfl (by decide) ?_
  exact st_icmp_gt (pc' := 26) rfl rfl kt kf
theorem B_Md_place_26 {d : Nat} {h : PH} {Q : PQ} {r0 : Nat} {v1 : Value} {v2 : Value} {v3 : Value} {v4 : Value} {a0 : Nat} {n1 : Nat} (hs0 : h_sh h r0 = some (0, 12)) (hr1 : h_r h r0 40 = some a0) (hs2 : h_sh h a0 = some (4, n1)) (hb3 : vp_in 0 n1) (kt : ¬ ((lg_cmp (h_l h a0 0) (0 : Int64)) = 0) → wpx d P_Md_place 41 [.ref r0, v1, v2, v3, v4] [] h Q) (kf : (lg_cmp (h_l h a0 0) (0 : Int64)) = 0 → wpx d P_Md_place 37 [.ref r0, v1, v2, v3, v4] [] h Q) : wpx d P_Md_place 26 [.ref r0, v1, v2, v3, v4] [] h Q := by
  refine st_aload (pc' := 27) rfl rfl rfl ?_
  refine st_getfr (x := some a0) (Or.inl rfl) rfl hs0 rfl hr1 (pc' := 30) rfl ?_
  refine st_ipush (pc' := 31) (v := 0) rfl rfl (by decide) ?_
  refine st_laload rfl hs2 hb3 (j := 0) (by decide) (pc' := 32) rfl ?_
  refine st_lpush (pc' := 33) (v := 0) rfl rfl (by decide) ?_
  refine st_lcmp (pc' := 34) rfl rfl ?_
  exact st_if_ne (pc' := 37) rfl rfl kt kf
theorem B_Md_place_37 {d : Nat} {h : PH} {Q : PQ} {r0 : Nat} {v1 : Value} {v2 : Value} {v3 : Value} {v4 : Value}  (k : Q (some (.long (-1))) h) : wpx d P_Md_place 37 [.ref r0, v1, v2, v3, v4] [] h Q := by
  refine st_ldc2 (pc' := 40) (v := (-1)) rfl rfl (by decide) ?_
  exact st_lreturn rfl k
theorem B_Md_place_41 {d : Nat} {h : PH} {Q : PQ} {r0 : Nat} {v1 : Value} {v2 : Value} {v3 : Value} {v4 : Value} (hs0 : h_sh h r0 = some (0, 12)) (k : wpm d 256 [.ref r0] h (fun r h' => wpx d P_Md_place 45 [.ref r0, v1, v2, v3, v4] (r.toList ++ []) h' Q)) : wpx d P_Md_place 41 [.ref r0, v1, v2, v3, v4] [] h Q := by
  refine st_aload (pc' := 42) rfl rfl rfl ?_
  exact st_call (pc' := 45) (as := [.ref r0]) (rest := []) rfl rfl (Nat.le_of_ble_eq_true rfl) rfl rfl (Nat.le_of_ble_eq_true rfl) (kd := 1) (o := 12) rfl rfl (beq_iff_eq.mpr hs0) k
theorem B_Md_place_45 {d : Nat} {h : PH} {Q : PQ} {r0 : Nat} {v1 : Value} {v2 : Value} {v3 : Value} {v4 : Value}  (k : wpx d P_Md_place 47 [.ref r0, .int 0, v2, v3, v4] [] h Q) : wpx d P_Md_place 45 [.ref r0, v1, v2, v3, v4] [] h Q := by
  refine st_ipush (pc' := 46) (v := 0) rfl rfl (by decide) ?_
  refine st_istore (pc' := 47) (ls' := [.ref r0, .int 0, v2, v3, v4]) rfl rfl (Nat.le_of_ble_eq_true rfl) rfl ?_
  exact k
theorem B_Md_place_47 {d : Nat} {h : PH} {Q : PQ} {r0 : Nat} {x1 : Int32} {v2 : Value} {v3 : Value} {v4 : Value}  (kt : (4 : Int32) ≤ x1 → wpx d P_Md_place 70 [.ref r0, .int x1, v2, v3, v4] [] h Q) (kf : ¬ ((4 : Int32) ≤ x1) → wpx d P_Md_place 52 [.ref r0, .int x1, v2, v3, v4] [] h Q) : wpx d P_Md_place 47 [.ref r0, .int x1, v2, v3, v4] [] h Q := by
  refine st_iload (pc' := 48) rfl rfl rfl ?_
  refine st_ipush (pc' := 49) (v := 4) rfl rfl (by decide) ?_
  exact st_icmp_ge (pc' := 52) rfl rfl kt kf
theorem B_Md_place_52 {d : Nat} {h : PH} {Q : PQ} {r0 : Nat} {x1 : Int32} {v2 : Value} {v3 : Value} {v4 : Value} {a0 : Nat} {a1 : Nat} {n2 : Nat} {n3 : Nat} (hs0 : h_sh h r0 = some (0, 12)) (hr1 : h_r h r0 63 = some a0) (hr2 : h_r h r0 59 = some a1) (hs3 : h_sh h a1 = some (4, n2)) (hb4 : vp_in x1 n2) (hs5 : h_sh h a0 = some (4, n3)) (hb6 : vp_in x1 n3) (k : wpx d P_Md_place 47 [.ref r0, .int (x1 + 1), v2, v3, v4] [] (w_l h a0 x1.toNatClampNeg (h_l h a1 x1.toNatClampNeg)) Q) : wpx d P_Md_place 52 [.ref r0, .int x1, v2, v3, v4] [] h Q := by
  refine st_aload (pc' := 53) rfl rfl rfl ?_
  refine st_getfr (x := some a0) (Or.inl rfl) rfl hs0 rfl hr1 (pc' := 56) rfl ?_
  refine st_iload (pc' := 57) rfl rfl rfl ?_
  refine st_aload (pc' := 58) rfl rfl rfl ?_
  refine st_getfr (x := some a1) (Or.inl rfl) rfl hs0 rfl hr2 (pc' := 61) rfl ?_
  refine st_iload (pc' := 62) rfl rfl rfl ?_
  refine st_laload rfl hs3 hb4 (j := x1.toNatClampNeg) rfl (pc' := 63) rfl ?_
  refine st_lastore rfl hs5 hb6 (j := x1.toNatClampNeg) rfl (pc' := 64) rfl ?_
  refine st_iinc (pc' := 67) (v := 1) (ls' := [.ref r0, .int (x1 + 1), v2, v3, v4]) rfl rfl rfl (by decide) rfl ?_
  exact st_goto rfl k
theorem B_Md_place_70 {d : Nat} {h : PH} {Q : PQ} {r0 : Nat} {x1 : Int32} {v2 : Value} {v3 : Value} {v4 : Value}  (k : wpx d P_Md_place 74 [.ref r0, .long 0, .retAddr 2, .int 0, v4] [] h Q) : wpx d P_Md_place 70 [.ref r0, .int x1, v2, v3, v4] [] h Q := by
  refine st_lpush (pc' := 71) (v := 0) rfl rfl (by decide) ?_
  refine st_lstore (pc' := 72) (ls' := [.ref r0, .long 0, .retAddr 2, v3, v4]) rfl rfl (Nat.le_of_ble_eq_true rfl) rfl ?_
  refine st_ipush (pc' := 73) (v := 0) rfl rfl (by decide) ?_
  refine st_istore (pc' := 74) (ls' := [.ref r0, .long 0, .retAddr 2, .int 0, v4]) rfl rfl (Nat.le_of_ble_eq_true rfl) rfl ?_
  exact k
theorem B_Md_place_74 {d : Nat} {h : PH} {Q : PQ} {r0 : Nat} {l1 : Int64} {x3 : Int32} {v4 : Value} (hs0 : h_sh h r0 = some (0, 12)) (kt : (h_i h r0 24) ≤ x3 → wpx d P_Md_place 154 [.ref r0, .long l1, .retAddr 2, .int x3, v4] [] h Q) (kf : ¬ ((h_i h r0 24) ≤ x3) → wpx d P_Md_place 82 [.ref r0, .long l1, .retAddr 2, .int x3, v4] [] h Q) : wpx d P_Md_place 74 [.ref r0, .long l1, .retAddr 2, .int x3, v4] [] h Q := by
  refine st_iload (pc' := 75) rfl rfl rfl ?_
  refine st_aload (pc' := 76) rfl rfl rfl ?_
  refine st_getfi (Or.inl rfl) rfl hs0 rfl (pc' := 79) rfl ?_
  exact st_icmp_ge (pc' := 82) rfl rfl kt kf
theorem B_Md_place_82 {d : Nat} {h : PH} {Q : PQ} {r0 : Nat} {l1 : Int64} {x3 : Int32} {v4 : Value}  (k : wpx d P_Md_place 85 [.ref r0, .long l1, .retAddr 2, .int x3, .int 0] [] h Q) : wpx d P_Md_place 82 [.ref r0, .long l1, .retAddr 2, .int x3, v4] [] h Q := by
  refine st_ipush (pc' := 83) (v := 0) rfl rfl (by decide) ?_
  refine st_istore (pc' := 85) (ls' := [.ref r0, .long l1, .retAddr 2, .int x3, .int 0]) rfl rfl (Nat.le_of_ble_eq_true rfl) rfl ?_
  exact k
theorem B_Md_place_85 {d : Nat} {h : PH} {Q : PQ} {r0 : Nat} {l1 : Int64} {x3 : Int32} {x4 : Int32} {a0 : Nat} {n1 : Nat} (hs0 : h_sh h r0 = some (0, 12)) (hr1 : h_r h r0 23 = some a0) (hs2 : h_sh h a0 = some (1, n1)) (hb3 : vp_in x3 n1) (kt : ((h_i h a0 x3.toNatClampNeg) - (97 : Int32)) ≤ x4 → wpx d P_Md_place 122 [.ref r0, .long l1, .retAddr 2, .int x3, .int x4] [] h Q) (kf : ¬ (((h_i h a0 x3.toNatClampNeg) - (97 : Int32)) ≤ x4) → wpx d P_Md_place 99 [.ref r0, .long l1, .retAddr 2, .int x3, .int x4] [] h Q) : wpx d P_Md_place 85 [.ref r0, .long l1, .retAddr 2, .int x3, .int x4] [] h Q := by
  refine st_iload (pc' := 87) rfl rfl rfl ?_
  refine st_aload (pc' := 88) rfl rfl rfl ?_
  refine st_getfr (x := some a0) (Or.inl rfl) rfl hs0 rfl hr1 (pc' := 91) rfl ?_
  refine st_iload (pc' := 92) rfl rfl rfl ?_
  refine st_iaload rfl hs2 hb3 (j := x3.toNatClampNeg) rfl (pc' := 93) rfl ?_
  refine st_ipush (pc' := 95) (v := 97) rfl rfl (by decide) ?_
  refine st_isub (pc' := 96) rfl rfl ?_
  exact st_icmp_ge (pc' := 99) rfl rfl kt kf
theorem B_Md_place_99 {d : Nat} {h : PH} {Q : PQ} {r0 : Nat} {l1 : Int64} {x3 : Int32} {x4 : Int32} (hs0 : h_sh h r0 = some (0, 12)) (k : wpm d 258 [.ref r0, .int x4, .int (((h_i h r0 24) - (1 : Int32)) - x3)] h (fun r h' => wpx d P_Md_place 114 [.ref r0, .long l1, .retAddr 2, .int x3, .int x4] (r.toList ++ [.long l1]) h' Q)) : wpx d P_Md_place 99 [.ref r0, .long l1, .retAddr 2, .int x3, .int x4] [] h Q := by
  refine st_lload (pc' := 100) rfl rfl rfl rfl ?_
  refine st_aload (pc' := 101) rfl rfl rfl ?_
  refine st_iload (pc' := 103) rfl rfl rfl ?_
  refine st_aload (pc' := 104) rfl rfl rfl ?_
  refine st_getfi (Or.inl rfl) rfl hs0 rfl (pc' := 107) rfl ?_
  refine st_ipush (pc' := 108) (v := 1) rfl rfl (by decide) ?_
  refine st_isub (pc' := 109) rfl rfl ?_
  refine st_iload (pc' := 110) rfl rfl rfl ?_
  refine st_isub (pc' := 111) rfl rfl ?_
  exact st_call (pc' := 114) (as := [.ref r0, .int x4, .int (((h_i h r0 24) - (1 : Int32)) - x3)]) (rest := [.long l1]) rfl rfl (Nat.le_of_ble_eq_true rfl) rfl rfl (Nat.le_of_ble_eq_true rfl) (kd := 1) (o := 12) rfl rfl (beq_iff_eq.mpr hs0) k
theorem B_Md_place_114 {d : Nat} {h : PH} {Q : PQ} {r0 : Nat} {l1 : Int64} {x3 : Int32} {x4 : Int32} {t0 : Int64} {t1 : Int64}  (k : wpx d P_Md_place 85 [.ref r0, .long (t0 + t1), .retAddr 2, .int x3, .int (x4 + 1)] [] h Q) : wpx d P_Md_place 114 [.ref r0, .long l1, .retAddr 2, .int x3, .int x4] [.long t1, .long t0] h Q := by
  refine st_ladd (pc' := 115) rfl rfl ?_
  refine st_lstore (pc' := 116) (ls' := [.ref r0, .long (t0 + t1), .retAddr 2, .int x3, .int x4]) rfl rfl (Nat.le_of_ble_eq_true rfl) rfl ?_
  refine st_iinc (pc' := 119) (v := 1) (ls' := [.ref r0, .long (t0 + t1), .retAddr 2, .int x3, .int (x4 + 1)]) rfl rfl rfl (by decide) rfl ?_
  exact st_goto rfl k
theorem B_Md_place_122 {d : Nat} {h : PH} {Q : PQ} {r0 : Nat} {l1 : Int64} {x3 : Int32} {x4 : Int32} {a0 : Nat} {n1 : Nat} (hs0 : h_sh h r0 = some (0, 12)) (hr1 : h_r h r0 23 = some a0) (hs2 : h_sh h a0 = some (1, n1)) (hb3 : vp_in x3 n1) (k : wpm d 258 [.ref r0, .int ((h_i h a0 x3.toNatClampNeg) - (97 : Int32)), .int (((h_i h r0 24) - (1 : Int32)) - x3)] h (fun r h' => wpx d P_Md_place 143 [.ref r0, .long l1, .retAddr 2, .int x3, .int x4] (r.toList ++ []) h' Q)) : wpx d P_Md_place 122 [.ref r0, .long l1, .retAddr 2, .int x3, .int x4] [] h Q := by
  refine st_aload (pc' := 123) rfl rfl rfl ?_
  refine st_aload (pc' := 124) rfl rfl rfl ?_
  refine st_getfr (x := some a0) (Or.inl rfl) rfl hs0 rfl hr1 (pc' := 127) rfl ?_
  refine st_iload (pc' := 128) rfl rfl rfl ?_
  refine st_iaload rfl hs2 hb3 (j := x3.toNatClampNeg) rfl (pc' := 129) rfl ?_
  refine st_ipush (pc' := 131) (v := 97) rfl rfl (by decide) ?_
  refine st_isub (pc' := 132) rfl rfl ?_
  refine st_aload (pc' := 133) rfl rfl rfl ?_
  refine st_getfi (Or.inl rfl) rfl hs0 rfl (pc' := 136) rfl ?_
  refine st_ipush (pc' := 137) (v := 1) rfl rfl (by decide) ?_
  refine st_isub (pc' := 138) rfl rfl ?_
  refine st_iload (pc' := 139) rfl rfl rfl ?_
  refine st_isub (pc' := 140) rfl rfl ?_
  exact st_call (pc' := 143) (as := [.ref r0, .int ((h_i h a0 x3.toNatClampNeg) - (97 : Int32)), .int (((h_i h r0 24) - (1 : Int32)) - x3)]) (rest := []) rfl rfl (Nat.le_of_ble_eq_true rfl) rfl rfl (Nat.le_of_ble_eq_true rfl) (kd := 1) (o := 12) rfl rfl (beq_iff_eq.mpr hs0) k
theorem B_Md_place_143 {d : Nat} {h : PH} {Q : PQ} {r0 : Nat} {l1 : Int64} {x3 : Int32} {x4 : Int32} {t0 : Int64} (hs0 : h_sh h r0 = some (0, 12)) (k : wpm d 259 [.ref r0] h (fun r h' => wpx d P_Md_place 148 [.ref r0, .long l1, .retAddr 2, .int x3, .int x4] (r.toList ++ []) h' Q)) : wpx d P_Md_place 143 [.ref r0, .long l1, .retAddr 2, .int x3, .int x4] [.long t0] h Q := by
  refine st_pop2 (pc' := 144) rfl rfl rfl ?_
  refine st_aload (pc' := 145) rfl rfl rfl ?_
  exact st_call (pc' := 148) (as := [.ref r0]) (rest := []) rfl rfl (Nat.le_of_ble_eq_true rfl) rfl rfl (Nat.le_of_ble_eq_true rfl) (kd := 1) (o := 12) rfl rfl (beq_iff_eq.mpr hs0) k
theorem B_Md_place_148 {d : Nat} {h : PH} {Q : PQ} {r0 : Nat} {l1 : Int64} {x3 : Int32} {x4 : Int32}  (k : wpx d P_Md_place 74 [.ref r0, .long l1, .retAddr 2, .int (x3 + 1), .int x4] [] h Q) : wpx d P_Md_place 148 [.ref r0, .long l1, .retAddr 2, .int x3, .int x4] [] h Q := by
  refine st_iinc (pc' := 151) (v := 1) (ls' := [.ref r0, .long l1, .retAddr 2, .int (x3 + 1), .int x4]) rfl rfl rfl (by decide) rfl ?_
  exact st_goto rfl k
theorem B_Md_place_154 {d : Nat} {h : PH} {Q : PQ} {r0 : Nat} {l1 : Int64} {x3 : Int32} {v4 : Value}  (k : Q (some (.long l1)) h) : wpx d P_Md_place 154 [.ref r0, .long l1, .retAddr 2, .int x3, v4] [] h Q := by
  refine st_lload (pc' := 155) rfl rfl rfl rfl ?_
  exact st_lreturn rfl k
theorem B_Md_unpack_0 {d : Nat} {h : PH} {Q : PQ} {r0 : Nat} {x1 : Int32} {x2 : Int32} {v3 : Value}  (k : wpx d P_Md_unpack 2 [.ref r0, .int x1, .int x2, .int 0] [] h Q) : wpx d P_Md_unpack 0 [.ref r0, .int x1, .int x2, v3] [] h Q := by
  refine st_ipush (pc' := 1) (v := 0) rfl rfl (by decide) ?_
  refine st_istore (pc' := 2) (ls' := [.ref r0, .int x1, .int x2, .int 0]) rfl rfl (Nat.le_of_ble_eq_true rfl) rfl ?_
  exact k
theorem B_Md_unpack_2 {d : Nat} {h : PH} {Q : PQ} {r0 : Nat} {x1 : Int32} {x2 : Int32} {x3 : Int32}  (kt : x2 ≤ x3 → wpx d P_Md_unpack 34 [.ref r0, .int x1, .int x2, .int x3] [] h Q) (kf : ¬ (x2 ≤ x3) → wpx d P_Md_unpack 7 [.ref r0, .int x1, .int x2, .int x3] [] h Q) : wpx d P_Md_unpack 2 [.ref r0, .int x1, .int x2, .int x3] [] h Q := by
  refine st_iload (pc' := 3) rfl rfl rfl ?_
  refine st_iload (pc' := 4) rfl rfl rfl ?_
  exact st_icmp_ge (pc' := 7) rfl rfl kt kf
theorem B_Md_unpack_7 {d : Nat} {h : PH} {Q : PQ} {r0 : Nat} {x1 : Int32} {x2 : Int32} {x3 : Int32} {a0 : Nat} {n1 : Nat} (hs0 : h_sh h r0 = some (0, 12)) (hr1 : h_r h r0 68 = some a0) (hs2 : h_sh h a0 = some (1, n1)) (hb3 : vp_in x3 n1) (k : wpx d P_Md_unpack 2 [.ref r0, .int x1, .int x2, .int (x3 + 1)] [] (w_i h a0 x3.toNatClampNeg (((x1 >>> (((5 : Int32) * ((x2 - (1 : Int32)) - x3)) &&& 31)) &&& (31 : Int32)) + (97 : Int32))) Q) : wpx d P_Md_unpack 7 [.ref r0, .int x1, .int x2, .int x3] [] h Q := by
  refine st_aload (pc' := 8) rfl rfl rfl ?_
  refine st_getfr (x := some a0) (Or.inl rfl) rfl hs0 rfl hr1 (pc' := 11) rfl ?_
  refine st_iload (pc' := 12) rfl rfl rfl ?_
  refine st_iload (pc' := 13) rfl rfl rfl ?_
  refine st_ipush (pc' := 14) (v := 5) rfl rfl (by decide) ?_
  refine st_iload (pc' := 15) rfl rfl rfl ?_
  refine st_ipush (pc' := 16) (v := 1) rfl rfl (by decide) ?_
  refine st_isub (pc' := 17) rfl rfl ?_
  refine st_iload (pc' := 18) rfl rfl rfl ?_
  refine st_isub (pc' := 19) rfl rfl ?_
  refine st_imul (pc' := 20) rfl rfl ?_
  refine st_ishr (pc' := 21) rfl rfl ?_
  refine st_ipush (pc' := 23) (v := 31) rfl rfl (by decide) ?_
  refine st_iand (pc' := 24) rfl rfl ?_
  refine st_ipush (pc' := 26) (v := 97) rfl rfl (by decide) ?_
  refine st_iadd (pc' := 27) rfl rfl ?_
  refine st_iastore rfl hs2 hb3 (j := x3.toNatClampNeg) rfl (pc' := 28) rfl ?_
  refine st_iinc (pc' := 31) (v := 1) (ls' := [.ref r0, .int x1, .int x2, .int (x3 + 1)]) rfl rfl rfl (by decide) rfl ?_
  exact st_goto rfl k
theorem B_Md_unpack_34 {d : Nat} {h : PH} {Q : PQ} {r0 : Nat} {x1 : Int32} {x2 : Int32} {x3 : Int32}  (k : Q none h) : wpx d P_Md_unpack 34 [.ref r0, .int x1, .int x2, .int x3] [] h Q := by
  exact st_return rfl k
theorem B_Md_meetsEnd_0 {d : Nat} {h : PH} {Q : PQ} {r0 : Nat} {x1 : Int32} {x2 : Int32} {x3 : Int32} {v4 : Value}  (k : wpx d P_Md_meetsEnd 3 [.ref r0, .int x1, .int x2, .int x3, .int 1] [] h Q) : wpx d P_Md_meetsEnd 0 [.ref r0, .int x1, .int x2, .int x3, v4] [] h Q := by
  refine st_ipush (pc' := 1) (v := 1) rfl rfl (by decide) ?_
  refine st_istore (pc' := 3) (ls' := [.ref r0, .int x1, .int x2, .int x3, .int 1]) rfl rfl (Nat.le_of_ble_eq_true rfl) rfl ?_
  exact k
theorem B_Md_meetsEnd_3 {d : Nat} {h : PH} {Q : PQ} {r0 : Nat} {x1 : Int32} {x2 : Int32} {x3 : Int32} {x4 : Int32}  (k : wpm d 172 [.int x2, .int x3] h (fun r h' => wpx d P_Md_meetsEnd 10 [.ref r0, .int x1, .int x2, .int x3, .int x4] (r.toList ++ [.int x4]) h' Q)) : wpx d P_Md_meetsEnd 3 [.ref r0, .int x1, .int x2, .int x3, .int x4] [] h Q := by
  refine st_iload (pc' := 5) rfl rfl rfl ?_
  refine st_iload (pc' := 6) rfl rfl rfl ?_
  refine st_iload (pc' := 7) rfl rfl rfl ?_
  exact st_call (pc' := 10) (as := [.int x2, .int x3]) (rest := [.int x4]) rfl rfl (Nat.le_of_ble_eq_true rfl) rfl rfl (Nat.le_of_ble_eq_true rfl) (kd := 0) (o := 12) rfl rfl rfl k
theorem B_Md_meetsEnd_10 {d : Nat} {h : PH} {Q : PQ} {r0 : Nat} {x1 : Int32} {x2 : Int32} {x3 : Int32} {x4 : Int32} {s0 : Int32} {s1 : Int32}  (kt : s1 < s0 → wpx d P_Md_meetsEnd 42 [.ref r0, .int x1, .int x2, .int x3, .int x4] [] h Q) (kf : ¬ (s1 < s0) → wpx d P_Md_meetsEnd 13 [.ref r0, .int x1, .int x2, .int x3, .int x4] [] h Q) : wpx d P_Md_meetsEnd 10 [.ref r0, .int x1, .int x2, .int x3, .int x4] [.int s1, .int s0] h Q := by
  exact st_icmp_gt (pc' := 13) rfl rfl kt kf
theorem B_Md_meetsEnd_13 {d : Nat} {h : PH} {Q : PQ} {r0 : Nat} {x1 : Int32} {x2 : Int32} {x3 : Int32} {x4 : Int32} {a0 : Nat} {n1 : Nat} (hs0 : h_sh h r0 = some (0, 12)) (hr1 : h_r h r0 68 = some a0) (hs2 : h_sh h a0 = some (1, n1)) (hb3 : vp_in (x3 - x4) n1) (k : wpm d 175 [.ref r0, .int x1, .int (x2 - x4)] h (fun r h' => wpx d P_Md_meetsEnd 31 [.ref r0, .int x1, .int x2, .int x3, .int x4] (r.toList ++ [.int (h_i h a0 (x3 - x4).toNatClampNeg)]) h' Q)) : wpx d P_Md_meetsEnd 13 [.ref r0, .int x1, .int x2, .int x3, .int x4] [] h Q := by
  refine st_aload (pc' := 14) rfl rfl rfl ?_
  refine st_getfr (x := some a0) (Or.inl rfl) rfl hs0 rfl hr1 (pc' := 17) rfl ?_
  refine st_iload (pc' := 18) rfl rfl rfl ?_
  refine st_iload (pc' := 20) rfl rfl rfl ?_
  refine st_isub (pc' := 21) rfl rfl ?_
  refine st_iaload rfl hs2 hb3 (j := (x3 - x4).toNatClampNeg) rfl (pc' := 22) rfl ?_
  refine st_aload (pc' := 23) rfl rfl rfl ?_
  refine st_iload (pc' := 24) rfl rfl rfl ?_
  refine st_iload (pc' := 25) rfl rfl rfl ?_
  refine st_iload (pc' := 27) rfl rfl rfl ?_
  refine st_isub (pc' := 28) rfl rfl ?_
  exact st_call (pc' := 31) (as := [.ref r0, .int x1, .int (x2 - x4)]) (rest := [.int (h_i h a0 (x3 - x4).toNatClampNeg)]) rfl rfl (Nat.le_of_ble_eq_true rfl) rfl rfl (Nat.le_of_ble_eq_true rfl) (kd := 1) (o := 12) rfl rfl (beq_iff_eq.mpr hs0) k
theorem B_Md_meetsEnd_31 {d : Nat} {h : PH} {Q : PQ} {r0 : Nat} {x1 : Int32} {x2 : Int32} {x3 : Int32} {x4 : Int32} {s0 : Int32} {s1 : Int32}  (kt : s0 = s1 → wpx d P_Md_meetsEnd 36 [.ref r0, .int x1, .int x2, .int x3, .int x4] [] h Q) (kf : ¬ (s0 = s1) → wpx d P_Md_meetsEnd 34 [.ref r0, .int x1, .int x2, .int x3, .int x4] [] h Q) : wpx d P_Md_meetsEnd 31 [.ref r0, .int x1, .int x2, .int x3, .int x4] [.int s1, .int s0] h Q := by
  exact st_icmp_eq (pc' := 34) rfl rfl kt kf
theorem B_Md_meetsEnd_34 {d : Nat} {h : PH} {Q : PQ} {r0 : Nat} {x1 : Int32} {x2 : Int32} {x3 : Int32} {x4 : Int32}  (k : Q (some (.int 0)) h) : wpx d P_Md_meetsEnd 34 [.ref r0, .int x1, .int x2, .int x3, .int x4] [] h Q := by
  refine st_ipush (pc' := 35) (v := 0) rfl rfl (by decide) ?_
  exact st_ireturn (ty := .boolean) rfl rfl (by decide) k
theorem B_Md_meetsEnd_36 {d : Nat} {h : PH} {Q : PQ} {r0 : Nat} {x1 : Int32} {x2 : Int32} {x3 : Int32} {x4 : Int32}  (k : wpx d P_Md_meetsEnd 3 [.ref r0, .int x1, .int x2, .int x3, .int (x4 + 1)] [] h Q) : wpx d P_Md_meetsEnd 36 [.ref r0, .int x1, .int x2, .int x3, .int x4] [] h Q := by
  refine st_iinc (pc' := 39) (v := 1) (ls' := [.ref r0, .int x1, .int x2, .int x3, .int (x4 + 1)]) rfl rfl rfl (by decide) rfl ?_
  exact st_goto rfl k
theorem B_Md_meetsEnd_42 {d : Nat} {h : PH} {Q : PQ} {r0 : Nat} {x1 : Int32} {x2 : Int32} {x3 : Int32} {x4 : Int32}  (k : Q (some (.int 1)) h) : wpx d P_Md_meetsEnd 42 [.ref r0, .int x1, .int x2, .int x3, .int x4] [] h Q := by
  refine st_ipush (pc' := 43) (v := 1) rfl rfl (by decide) ?_
  exact st_ireturn (ty := .boolean) rfl rfl (by decide) k
theorem B_Md_layEndsOf_0 {d : Nat} {h : PH} {Q : PQ} {r0 : Nat} {x1 : Int32} {v2 : Value} {v3 : Value}  (k : wpx d P_Md_layEndsOf 2 [.ref r0, .int x1, .int 0, v3] [] h Q) : wpx d P_Md_layEndsOf 0 [.ref r0, .int x1, v2, v3] [] h Q := by
  refine st_ipush (pc' := 1) (v := 0) rfl rfl (by decide) ?_
  refine st_istore (pc' := 2) (ls' := [.ref r0, .int x1, .int 0, v3]) rfl rfl (Nat.le_of_ble_eq_true rfl) rfl ?_
  exact k
theorem B_Md_layEndsOf_2 {d : Nat} {h : PH} {Q : PQ} {r0 : Nat} {x1 : Int32} {x2 : Int32} {v3 : Value}  (kt : x1 < x2 → wpx d P_Md_layEndsOf 116 [.ref r0, .int x1, .int x2, v3] [] h Q) (kf : ¬ (x1 < x2) → wpx d P_Md_layEndsOf 7 [.ref r0, .int x1, .int x2, v3] [] h Q) : wpx d P_Md_layEndsOf 2 [.ref r0, .int x1, .int x2, v3] [] h Q := by
  refine st_iload (pc' := 3) rfl rfl rfl ?_
  refine st_iload (pc' := 4) rfl rfl rfl ?_
  exact st_icmp_gt (pc' := 7) rfl rfl kt kf
theorem B_Md_layEndsOf_7 {d : Nat} {h : PH} {Q : PQ} {r0 : Nat} {x1 : Int32} {x2 : Int32} {v3 : Value} {a0 : Nat} (hs0 : h_sh h r0 = some (0, 12)) (hr1 : h_r h r0 69 = some a0) (kt : ¬ (x2 = 0) → wpx d P_Md_layEndsOf 20 [.ref r0, .int x1, .int x2, v3] [.int x2, .ref a0] h Q) (kf : x2 = 0 → wpx d P_Md_layEndsOf 16 [.ref r0, .int x1, .int x2, v3] [.int x2, .ref a0] h Q) : wpx d P_Md_layEndsOf 7 [.ref r0, .int x1, .int x2, v3] [] h Q := by
  refine st_aload (pc' := 8) rfl rfl rfl ?_
  refine st_getfr (x := some a0) (Or.inl rfl) rfl hs0 rfl hr1 (pc' := 11) rfl ?_
  refine st_iload (pc' := 12) rfl rfl rfl ?_
  refine st_iload (pc' := 13) rfl rfl rfl ?_
  exact st_if_ne (pc' := 16) rfl rfl kt kf
theorem B_Md_layEndsOf_16 {d : Nat} {h : PH} {Q : PQ} {r0 : Nat} {x1 : Int32} {x2 : Int32} {v3 : Value} {q0 : Nat} {s1 : Int32}  (k : wpx d P_Md_layEndsOf 21 [.ref r0, .int x1, .int x2, v3] [.int 1, .int s1, .ref q0] h Q) : wpx d P_Md_layEndsOf 16 [.ref r0, .int x1, .int x2, v3] [.int s1, .ref q0] h Q := by
  refine st_ipush (pc' := 17) (v := 1) rfl rfl (by decide) ?_
  exact st_goto rfl k
theorem B_Md_layEndsOf_20 {d : Nat} {h : PH} {Q : PQ} {r0 : Nat} {x1 : Int32} {x2 : Int32} {v3 : Value} {q0 : Nat} {s1 : Int32}  (k : wpx d P_Md_layEndsOf 21 [.ref r0, .int x1, .int x2, v3] [.int 0, .int s1, .ref q0] h Q) : wpx d P_Md_layEndsOf 20 [.ref r0, .int x1, .int x2, v3] [.int s1, .ref q0] h Q := by
  refine st_ipush (pc' := 21) (v := 0) rfl rfl (by decide) ?_
  exact k
theorem B_Md_layEndsOf_21 {d : Nat} {h : PH} {Q : PQ} {r0 : Nat} {x1 : Int32} {x2 : Int32} {v3 : Value} {q0 : Nat} {s1 : Int32} {s2 : Int32} {n0 : Nat} (hs0 : h_sh h q0 = some (3, n0)) (hb1 : vp_in s1 n0) (k : wpx d P_Md_layEndsOf 24 [.ref r0, .int x1, .int x2, .int 0] [] (w_i h q0 s1.toNatClampNeg (s2 &&& 1)) Q) : wpx d P_Md_layEndsOf 21 [.ref r0, .int x1, .int x2, v3] [.int s2, .int s1, .ref q0] h Q := by
  refine st_zastore rfl hs0 hb1 (j := s1.toNatClampNeg) rfl (pc' := 22) rfl ?_
  refine st_ipush (pc' := 23) (v := 0) rfl rfl (by decide) ?_
  refine st_istore (pc' := 24) (ls' := [.ref r0, .int x1, .int x2, .int 0]) rfl rfl (Nat.le_of_ble_eq_true rfl) rfl ?_
  exact k
theorem B_Md_layEndsOf_24 {d : Nat} {h : PH} {Q : PQ} {r0 : Nat} {x1 : Int32} {x2 : Int32} {x3 : Int32} (hs0 : h_sh h r0 = some (0, 12)) (kt : (h_i h r0 4) ≤ x3 → wpx d P_Md_layEndsOf 110 [.ref r0, .int x1, .int x2, .int x3] [] h Q) (kf : ¬ ((h_i h r0 4) ≤ x3) → wpx d P_Md_layEndsOf 32 [.ref r0, .int x1, .int x2, .int x3] [] h Q) : wpx d P_Md_layEndsOf 24 [.ref r0, .int x1, .int x2, .int x3] [] h Q := by
  refine st_iload (pc' := 25) rfl rfl rfl ?_
  refine st_aload (pc' := 26) rfl rfl rfl ?_
  refine st_getfi (Or.inl rfl) rfl hs0 rfl (pc' := 29) rfl ?_
  exact st_icmp_ge (pc' := 32) rfl rfl kt kf
theorem B_Md_layEndsOf_32 {d : Nat} {h : PH} {Q : PQ} {r0 : Nat} {x1 : Int32} {x2 : Int32} {x3 : Int32} {a0 : Nat} {n1 : Nat} (hs0 : h_sh h r0 = some (0, 12)) (hr1 : h_r h r0 69 = some a0) (hs2 : h_sh h a0 = some (3, n1)) (hb3 : vp_in x2 n1) (kt : ¬ ((h_i h a0 x2.toNatClampNeg) = 0) → wpx d P_Md_layEndsOf 110 [.ref r0, .int x1, .int x2, .int x3] [] h Q) (kf : (h_i h a0 x2.toNatClampNeg) = 0 → wpx d P_Md_layEndsOf 41 [.ref r0, .int x1, .int x2, .int x3] [] h Q) : wpx d P_Md_layEndsOf 32 [.ref r0, .int x1, .int x2, .int x3] [] h Q := by
  refine st_aload (pc' := 33) rfl rfl rfl ?_
  refine st_getfr (x := some a0) (Or.inl rfl) rfl hs0 rfl hr1 (pc' := 36) rfl ?_
  refine st_iload (pc' := 37) rfl rfl rfl ?_
  refine st_baload rfl (Or.inr hs2) hb3 (j := x2.toNatClampNeg) rfl (pc' := 38) rfl ?_
  exact st_if_ne (pc' := 41) rfl rfl kt kf
theorem B_Md_layEndsOf_41 {d : Nat} {h : PH} {Q : PQ} {r0 : Nat} {x1 : Int32} {x2 : Int32} {x3 : Int32} {a0 : Nat} (hs0 : h_sh h r0 = some (0, 12)) (hr1 : h_r h r0 69 = some a0) (k : wpm d 171 [.int (h_i h r0 6), .int x3] h (fun r h' => wpx d P_Md_layEndsOf 54 [.ref r0, .int x1, .int x2, .int x3] (r.toList ++ [.int x2, .ref a0]) h' Q)) : wpx d P_Md_layEndsOf 41 [.ref r0, .int x1, .int x2, .int x3] [] h Q := by
  refine st_aload (pc' := 42) rfl rfl rfl ?_
  refine st_getfr (x := some a0) (Or.inl rfl) rfl hs0 rfl hr1 (pc' := 45) rfl ?_
  refine st_iload (pc' := 46) rfl rfl rfl ?_
  refine st_aload (pc' := 47) rfl rfl rfl ?_
  refine st_getfi (Or.inl rfl) rfl hs0 rfl (pc' := 50) rfl ?_
  refine st_iload (pc' := 51) rfl rfl rfl ?_
  exact st_call (pc' := 54) (as := [.int (h_i h r0 6), .int x3]) (rest := [.int x2, .ref a0]) rfl rfl (Nat.le_of_ble_eq_true rfl) rfl rfl (Nat.le_of_ble_eq_true rfl) (kd := 0) (o := 12) rfl rfl rfl k
theorem B_Md_layEndsOf_54 {d : Nat} {h : PH} {Q : PQ} {r0 : Nat} {x1 : Int32} {x2 : Int32} {x3 : Int32} {q0 : Nat} {s1 : Int32} {s2 : Int32}  (kt : s2 = 0 → wpx d P_Md_layEndsOf 102 [.ref r0, .int x1, .int x2, .int x3] [.int s1, .ref q0] h Q) (kf : ¬ (s2 = 0) → wpx d P_Md_layEndsOf 57 [.ref r0, .int x1, .int x2, .int x3] [.int s1, .ref q0] h Q) : wpx d P_Md_layEndsOf 54 [.ref r0, .int x1, .int x2, .int x3] [.int s2, .int s1, .ref q0] h Q := by
  exact st_if_eq (pc' := 57) rfl rfl kt kf
theorem B_Md_layEndsOf_57 {d : Nat} {h : PH} {Q : PQ} {r0 : Nat} {x1 : Int32} {x2 : Int32} {x3 : Int32} {q0 : Nat} {s1 : Int32} {a0 : Nat} {n1 : Nat} (hs0 : h_sh h r0 = some (0, 12)) (hr1 : h_r h r0 2 = some a0) (hs2 : h_sh h a0 = some (1, n1)) (hb3 : vp_in x3 n1) (k : wpm d 263 [.ref r0, .int x3, .int (h_i h a0 x3.toNatClampNeg), .int x2] h (fun r h' => wpx d P_Md_layEndsOf 69 [.ref r0, .int x1, .int x2, .int x3] (r.toList ++ [.int s1, .ref q0]) h' Q)) : wpx d P_Md_layEndsOf 57 [.ref r0, .int x1, .int x2, .int x3] [.int s1, .ref q0] h Q := by
  refine st_aload (pc' := 58) rfl rfl rfl ?_
  refine st_iload (pc' := 59) rfl rfl rfl ?_
  refine st_aload (pc' := 60) rfl rfl rfl ?_
  refine st_getfr (x := some a0) (Or.inl rfl) rfl hs0 rfl hr1 (pc' := 63) rfl ?_
  refine st_iload (pc' := 64) rfl rfl rfl ?_
  refine st_iaload rfl hs2 hb3 (j := x3.toNatClampNeg) rfl (pc' := 65) rfl ?_
  refine st_iload (pc' := 66) rfl rfl rfl ?_
  exact st_call (pc' := 69) (as := [.ref r0, .int x3, .int (h_i h a0 x3.toNatClampNeg), .int x2]) (rest := [.int s1, .ref q0]) rfl rfl (Nat.le_of_ble_eq_true rfl) rfl rfl (Nat.le_of_ble_eq_true rfl) (kd := 1) (o := 12) rfl rfl (beq_iff_eq.mpr hs0) k
theorem B_Md_layEndsOf_69 {d : Nat} {h : PH} {Q : PQ} {r0 : Nat} {x1 : Int32} {x2 : Int32} {x3 : Int32} {q0 : Nat} {s1 : Int32} {s2 : Int32}  (kt : s2 = 0 → wpx d P_Md_layEndsOf 102 [.ref r0, .int x1, .int x2, .int x3] [.int s1, .ref q0] h Q) (kf : ¬ (s2 = 0) → wpx d P_Md_layEndsOf 72 [.ref r0, .int x1, .int x2, .int x3] [.int s1, .ref q0] h Q) : wpx d P_Md_layEndsOf 69 [.ref r0, .int x1, .int x2, .int x3] [.int s2, .int s1, .ref q0] h Q := by
  exact st_if_eq (pc' := 72) rfl rfl kt kf
theorem B_Md_layEndsOf_72 {d : Nat} {h : PH} {Q : PQ} {r0 : Nat} {x1 : Int32} {x2 : Int32} {x3 : Int32} {q0 : Nat} {s1 : Int32} {a0 : Nat} {n1 : Nat} (hs0 : h_sh h r0 = some (0, 12)) (hr1 : h_r h r0 2 = some a0) (hs2 : h_sh h a0 = some (1, n1)) (hb3 : vp_in x3 n1) (kt : x2 ≤ (h_i h a0 x3.toNatClampNeg) → wpx d P_Md_layEndsOf 98 [.ref r0, .int x1, .int x2, .int x3] [.int s1, .ref q0] h Q) (kf : ¬ (x2 ≤ (h_i h a0 x3.toNatClampNeg)) → wpx d P_Md_layEndsOf 82 [.ref r0, .int x1, .int x2, .int x3] [.int s1, .ref q0] h Q) : wpx d P_Md_layEndsOf 72 [.ref r0, .int x1, .int x2, .int x3] [.int s1, .ref q0] h Q := by
  refine st_aload (pc' := 73) rfl rfl rfl ?_
  refine st_getfr (x := some a0) (Or.inl rfl) rfl hs0 rfl hr1 (pc' := 76) rfl ?_
  refine st_iload (pc' := 77) rfl rfl rfl ?_
  refine st_iaload rfl hs2 hb3 (j := x3.toNatClampNeg) rfl (pc' := 78) rfl ?_
  refine st_iload (pc' := 79) rfl rfl rfl ?_
  exact st_icmp_ge (pc' := 82) rfl rfl kt kf
theorem B_Md_layEndsOf_82 {d : Nat} {h : PH} {Q : PQ} {r0 : Nat} {x1 : Int32} {x2 : Int32} {x3 : Int32} {q0 : Nat} {s1 : Int32} {a0 : Nat} {a1 : Nat} {n2 : Nat} {n3 : Nat} (hs0 : h_sh h r0 = some (0, 12)) (hr1 : h_r h r0 69 = some a0) (hr2 : h_r h r0 2 = some a1) (hs3 : h_sh h a1 = some (1, n2)) (hb4 : vp_in x3 n2) (hs5 : h_sh h a0 = some (3, n3)) (hb6 : vp_in (x2 - (h_i h a1 x3.toNatClampNeg)) n3) (kt : (h_i h a0 (x2 - (h_i h a1 x3.toNatClampNeg)).toNatClampNeg) = 0 → wpx d P_Md_layEndsOf 102 [.ref r0, .int x1, .int x2, .int x3] [.int s1, .ref q0] h Q) (kf : ¬ ((h_i h a0 (x2 - (h_i h a1 x3.toNatClampNeg)).toNatClampNeg) = 0) → wpx d P_Md_layEndsOf 98 [.ref r0, .int x1, .int x2, .int x3] [.int s1, .ref q0] h Q) : wpx d P_Md_layEndsOf 82 [.ref r0, .int x1, .int x2, .int x3] [.int s1, .ref q0] h Q := by
  refine st_aload (pc' := 83) rfl rfl rfl ?_
  refine st_getfr (x := some a0) (Or.inl rfl) rfl hs0 rfl hr1 (pc' := 86) rfl ?_
  refine st_iload (pc' := 87) rfl rfl rfl ?_
  refine st_aload (pc' := 88) rfl rfl rfl ?_
  refine st_getfr (x := some a1) (Or.inl rfl) rfl hs0 rfl hr2 (pc' := 91) rfl ?_
  refine st_iload (pc' := 92) rfl rfl rfl ?_
  refine st_iaload rfl hs3 hb4 (j := x3.toNatClampNeg) rfl (pc' := 93) rfl ?_
  refine st_isub (pc' := 94) rfl rfl ?_
  refine st_baload rfl (Or.inr hs5) hb6 (j := (x2 - (h_i h a1 x3.toNatClampNeg)).toNatClampNeg) rfl (pc' := 95) rfl ?_
  exact st_if_eq (pc' := 98) rfl rfl kt kf
theorem B_Md_layEndsOf_98 {d : Nat} {h : PH} {Q : PQ} {r0 : Nat} {x1 : Int32} {x2 : Int32} {x3 : Int32} {q0 : Nat} {s1 : Int32}  (k : wpx d P_Md_layEndsOf 103 [.ref r0, .int x1, .int x2, .int x3] [.int 1, .int s1, .ref q0] h Q) : wpx d P_Md_layEndsOf 98 [.ref r0, .int x1, .int x2, .int x3] [.int s1, .ref q0] h Q := by
  refine st_ipush (pc' := 99) (v := 1) rfl rfl (by decide) ?_
  exact st_goto rfl k
theorem B_Md_layEndsOf_102 {d : Nat} {h : PH} {Q : PQ} {r0 : Nat} {x1 : Int32} {x2 : Int32} {x3 : Int32} {q0 : Nat} {s1 : Int32}  (k : wpx d P_Md_layEndsOf 103 [.ref r0, .int x1, .int x2, .int x3] [.int 0, .int s1, .ref q0] h Q) : wpx d P_Md_layEndsOf 102 [.ref r0, .int x1, .int x2, .int x3] [.int s1, .ref q0] h Q := by
  refine st_ipush (pc' := 103) (v := 0) rfl rfl (by decide) ?_
  exact k
theorem B_Md_layEndsOf_103 {d : Nat} {h : PH} {Q : PQ} {r0 : Nat} {x1 : Int32} {x2 : Int32} {x3 : Int32} {q0 : Nat} {s1 : Int32} {s2 : Int32} {n0 : Nat} (hs0 : h_sh h q0 = some (3, n0)) (hb1 : vp_in s1 n0) (k : wpx d P_Md_layEndsOf 24 [.ref r0, .int x1, .int x2, .int (x3 + 1)] [] (w_i h q0 s1.toNatClampNeg (s2 &&& 1)) Q) : wpx d P_Md_layEndsOf 103 [.ref r0, .int x1, .int x2, .int x3] [.int s2, .int s1, .ref q0] h Q := by
  refine st_zastore rfl hs0 hb1 (j := s1.toNatClampNeg) rfl (pc' := 104) rfl ?_
  refine st_iinc (pc' := 107) (v := 1) (ls' := [.ref r0, .int x1, .int x2, .int (x3 + 1)]) rfl rfl rfl (by decide) rfl ?_
  exact st_goto rfl k
theorem B_Md_layEndsOf_110 {d : Nat} {h : PH} {Q : PQ} {r0 : Nat} {x1 : Int32} {x2 : Int32} {x3 : Int32}  (k : wpx d P_Md_layEndsOf 2 [.ref r0, .int x1, .int (x2 + 1), .int x3] [] h Q) : wpx d P_Md_layEndsOf 110 [.ref r0, .int x1, .int x2, .int x3] [] h Q := by
  refine st_iinc (pc' := 113) (v := 1) (ls' := [.ref r0, .int x1, .int (x2 + 1), .int x3]) rfl rfl rfl (by decide) rfl ?_
  exact st_goto rfl k
theorem B_Md_layEndsOf_116 {d : Nat} {h : PH} {Q : PQ} {r0 : Nat} {x1 : Int32} {x2 : Int32} {v3 : Value}  (k : Q none h) : wpx d P_Md_layEndsOf 116 [.ref r0, .int x1, .int x2, v3] [] h Q := by
  exact st_return rfl k
theorem B_Md_isWithin_0 {d : Nat} {h : PH} {Q : PQ} {r0 : Nat} {x1 : Int32} {v2 : Value} {v3 : Value}  (k : wpx d P_Md_isWithin 2 [.ref r0, .int x1, .int 0, v3] [] h Q) : wpx d P_Md_isWithin 0 [.ref r0, .int x1, v2, v3] [] h Q := by
  refine st_ipush (pc' := 1) (v := 0) rfl rfl (by decide) ?_
  refine st_istore (pc' := 2) (ls' := [.ref r0, .int x1, .int 0, v3]) rfl rfl (Nat.le_of_ble_eq_true rfl) rfl ?_
  exact k
theorem B_Md_isWithin_2 {d : Nat} {h : PH} {Q : PQ} {r0 : Nat} {x1 : Int32} {x2 : Int32} {v3 : Value} (hs0 : h_sh h r0 = some (0, 12)) (kt : (h_i h r0 4) ≤ x2 → wpx d P_Md_isWithin 73 [.ref r0, .int x1, .int x2, v3] [] h Q) (kf : ¬ ((h_i h r0 4) ≤ x2) → wpx d P_Md_isWithin 10 [.ref r0, .int x1, .int x2, v3] [] h Q) : wpx d P_Md_isWithin 2 [.ref r0, .int x1, .int x2, v3] [] h Q := by
  refine st_iload (pc' := 3) rfl rfl rfl ?_
  refine st_aload (pc' := 4) rfl rfl rfl ?_
  refine st_getfi (Or.inl rfl) rfl hs0 rfl (pc' := 7) rfl ?_
  exact st_icmp_ge (pc' := 10) rfl rfl kt kf
theorem B_Md_isWithin_10 {d : Nat} {h : PH} {Q : PQ} {r0 : Nat} {x1 : Int32} {x2 : Int32} {v3 : Value}  (k : wpx d P_Md_isWithin 12 [.ref r0, .int x1, .int x2, .int 1] [] h Q) : wpx d P_Md_isWithin 10 [.ref r0, .int x1, .int x2, v3] [] h Q := by
  refine st_ipush (pc' := 11) (v := 1) rfl rfl (by decide) ?_
  refine st_istore (pc' := 12) (ls' := [.ref r0, .int x1, .int x2, .int 1]) rfl rfl (Nat.le_of_ble_eq_true rfl) rfl ?_
  exact k
theorem B_Md_isWithin_12 {d : Nat} {h : PH} {Q : PQ} {r0 : Nat} {x1 : Int32} {x2 : Int32} {x3 : Int32} {a0 : Nat} {n1 : Nat} (hs0 : h_sh h r0 = some (0, 12)) (hr1 : h_r h r0 2 = some a0) (hs2 : h_sh h a0 = some (1, n1)) (hb3 : vp_in x2 n1) (kt : (h_i h a0 x2.toNatClampNeg) ≤ x3 → wpx d P_Md_isWithin 67 [.ref r0, .int x1, .int x2, .int x3] [] h Q) (kf : ¬ ((h_i h a0 x2.toNatClampNeg) ≤ x3) → wpx d P_Md_isWithin 22 [.ref r0, .int x1, .int x2, .int x3] [] h Q) : wpx d P_Md_isWithin 12 [.ref r0, .int x1, .int x2, .int x3] [] h Q := by
  refine st_iload (pc' := 13) rfl rfl rfl ?_
  refine st_aload (pc' := 14) rfl rfl rfl ?_
  refine st_getfr (x := some a0) (Or.inl rfl) rfl hs0 rfl hr1 (pc' := 17) rfl ?_
  refine st_iload (pc' := 18) rfl rfl rfl ?_
  refine st_iaload rfl hs2 hb3 (j := x2.toNatClampNeg) rfl (pc' := 19) rfl ?_
  exact st_icmp_ge (pc' := 22) rfl rfl kt kf
theorem B_Md_isWithin_22 {d : Nat} {h : PH} {Q : PQ} {r0 : Nat} {x1 : Int32} {x2 : Int32} {x3 : Int32} (hs0 : h_sh h r0 = some (0, 12)) (k : wpm d 171 [.int (h_i h r0 6), .int x2] h (fun r h' => wpx d P_Md_isWithin 30 [.ref r0, .int x1, .int x2, .int x3] (r.toList ++ []) h' Q)) : wpx d P_Md_isWithin 22 [.ref r0, .int x1, .int x2, .int x3] [] h Q := by
  refine st_aload (pc' := 23) rfl rfl rfl ?_
  refine st_getfi (Or.inl rfl) rfl hs0 rfl (pc' := 26) rfl ?_
  refine st_iload (pc' := 27) rfl rfl rfl ?_
  exact st_call (pc' := 30) (as := [.int (h_i h r0 6), .int x2]) (rest := []) rfl rfl (Nat.le_of_ble_eq_true rfl) rfl rfl (Nat.le_of_ble_eq_true rfl) (kd := 0) (o := 12) rfl rfl rfl k
theorem B_Md_isWithin_30 {d : Nat} {h : PH} {Q : PQ} {r0 : Nat} {x1 : Int32} {x2 : Int32} {x3 : Int32} {s0 : Int32}  (kt : s0 = 0 → wpx d P_Md_isWithin 67 [.ref r0, .int x1, .int x2, .int x3] [] h Q) (kf : ¬ (s0 = 0) → wpx d P_Md_isWithin 33 [.ref r0, .int x1, .int x2, .int x3] [] h Q) : wpx d P_Md_isWithin 30 [.ref r0, .int x1, .int x2, .int x3] [.int s0] h Q := by
  exact st_if_eq (pc' := 33) rfl rfl kt kf
theorem B_Md_isWithin_33 {d : Nat} {h : PH} {Q : PQ} {r0 : Nat} {x1 : Int32} {x2 : Int32} {x3 : Int32} (hs0 : h_sh h r0 = some (0, 12)) (k : wpm d 263 [.ref r0, .int x2, .int x3, .int x1] h (fun r h' => wpx d P_Md_isWithin 40 [.ref r0, .int x1, .int x2, .int x3] (r.toList ++ []) h' Q)) : wpx d P_Md_isWithin 33 [.ref r0, .int x1, .int x2, .int x3] [] h Q := by
  refine st_aload (pc' := 34) rfl rfl rfl ?_
  refine st_iload (pc' := 35) rfl rfl rfl ?_
  refine st_iload (pc' := 36) rfl rfl rfl ?_
  refine st_iload (pc' := 37) rfl rfl rfl ?_
  exact st_call (pc' := 40) (as := [.ref r0, .int x2, .int x3, .int x1]) (rest := []) rfl rfl (Nat.le_of_ble_eq_true rfl) rfl rfl (Nat.le_of_ble_eq_true rfl) (kd := 1) (o := 12) rfl rfl (beq_iff_eq.mpr hs0) k
theorem B_Md_isWithin_40 {d : Nat} {h : PH} {Q : PQ} {r0 : Nat} {x1 : Int32} {x2 : Int32} {x3 : Int32} {s0 : Int32}  (kt : s0 = 0 → wpx d P_Md_isWithin 61 [.ref r0, .int x1, .int x2, .int x3] [] h Q) (kf : ¬ (s0 = 0) → wpx d P_Md_isWithin 43 [.ref r0, .int x1, .int x2, .int x3] [] h Q) : wpx d P_Md_isWithin 40 [.ref r0, .int x1, .int x2, .int x3] [.int s0] h Q := by
  exact st_if_eq (pc' := 43) rfl rfl kt kf
theorem B_Md_isWithin_43 {d : Nat} {h : PH} {Q : PQ} {r0 : Nat} {x1 : Int32} {x2 : Int32} {x3 : Int32}  (kt : x1 ≤ x3 → wpx d P_Md_isWithin 59 [.ref r0, .int x1, .int x2, .int x3] [] h Q) (kf : ¬ (x1 ≤ x3) → wpx d P_Md_isWithin 48 [.ref r0, .int x1, .int x2, .int x3] [] h Q) : wpx d P_Md_isWithin 43 [.ref r0, .int x1, .int x2, .int x3] [] h Q := by
  refine st_iload (pc' := 44) rfl rfl rfl ?_
  refine st_iload (pc' := 45) rfl rfl rfl ?_
  exact st_icmp_ge (pc' := 48) rfl rfl kt kf
theorem B_Md_isWithin_48 {d : Nat} {h : PH} {Q : PQ} {r0 : Nat} {x1 : Int32} {x2 : Int32} {x3 : Int32} {a0 : Nat} {n1 : Nat} (hs0 : h_sh h r0 = some (0, 12)) (hr1 : h_r h r0 69 = some a0) (hs2 : h_sh h a0 = some (3, n1)) (hb3 : vp_in (x1 - x3) n1) (kt : (h_i h a0 (x1 - x3).toNatClampNeg) = 0 → wpx d P_Md_isWithin 61 [.ref r0, .int x1, .int x2, .int x3] [] h Q) (kf : ¬ ((h_i h a0 (x1 - x3).toNatClampNeg) = 0) → wpx d P_Md_isWithin 59 [.ref r0, .int x1, .int x2, .int x3] [] h Q) : wpx d P_Md_isWithin 48 [.ref r0, .int x1, .int x2, .int x3] [] h Q := by
  refine st_aload (pc' := 49) rfl rfl rfl ?_
  refine st_getfr (x := some a0) (Or.inl rfl) rfl hs0 rfl hr1 (pc' := 52) rfl ?_
  refine st_iload (pc' := 53) rfl rfl rfl ?_
  refine st_iload (pc' := 54) rfl rfl rfl ?_
  refine st_isub (pc' := 55) rfl rfl ?_
  refine st_baload rfl (Or.inr hs2) hb3 (j := (x1 - x3).toNatClampNeg) rfl (pc' := 56) rfl ?_
  exact st_if_eq (pc' := 59) rfl rfl kt kf
theorem B_Md_isWithin_59 {d : Nat} {h : PH} {Q : PQ} {r0 : Nat} {x1 : Int32} {x2 : Int32} {x3 : Int32}  (k : Q (some (.int 1)) h) : wpx d P_Md_isWithin 59 [.ref r0, .int x1, .int x2, .int x3] [] h Q := by
  refine st_ipush (pc' := 60) (v := 1) rfl rfl (by decide) ?_
  exact st_ireturn (ty := .boolean) rfl rfl (by decide) k
theorem B_Md_isWithin_61 {d : Nat} {h : PH} {Q : PQ} {r0 : Nat} {x1 : Int32} {x2 : Int32} {x3 : Int32}  (k : wpx d P_Md_isWithin 12 [.ref r0, .int x1, .int x2, .int (x3 + 1)] [] h Q) : wpx d P_Md_isWithin 61 [.ref r0, .int x1, .int x2, .int x3] [] h Q := by
  refine st_iinc (pc' := 64) (v := 1) (ls' := [.ref r0, .int x1, .int x2, .int (x3 + 1)]) rfl rfl rfl (by decide) rfl ?_
  exact st_goto rfl k
theorem B_Md_isWithin_67 {d : Nat} {h : PH} {Q : PQ} {r0 : Nat} {x1 : Int32} {x2 : Int32} {x3 : Int32}  (k : wpx d P_Md_isWithin 2 [.ref r0, .int x1, .int (x2 + 1), .int x3] [] h Q) : wpx d P_Md_isWithin 67 [.ref r0, .int x1, .int x2, .int x3] [] h Q := by
  refine st_iinc (pc' := 70) (v := 1) (ls' := [.ref r0, .int x1, .int (x2 + 1), .int x3]) rfl rfl rfl (by decide) rfl ?_
  exact st_goto rfl k
theorem B_Md_isWithin_73 {d : Nat} {h : PH} {Q : PQ} {r0 : Nat} {x1 : Int32} {x2 : Int32} {v3 : Value}  (k : Q (some (.int 0)) h) : wpx d P_Md_isWithin 73 [.ref r0, .int x1, .int x2, v3] [] h Q := by
  refine st_ipush (pc' := 74) (v := 0) rfl rfl (by decide) ?_
  exact st_ireturn (ty := .boolean) rfl rfl (by decide) k
theorem B_Md_layBorders_0 {d : Nat} {h : PH} {Q : PQ} {r0 : Nat} {x1 : Int32} {v2 : Value} {v3 : Value} {v4 : Value} {v5 : Value} {v6 : Value} (hs0 : h_sh h r0 = some (0, 12)) (kt : ¬ ((h_i h r0 70) = x1) → wpx d P_Md_layBorders 9 [.ref r0, .int x1, v2, v3, v4, v5, v6] [] h Q) (kf : (h_i h r0 70) = x1 → wpx d P_Md_layBorders 8 [.ref r0, .int x1, v2, v3, v4, v5, v6] [] h Q) : wpx d P_Md_layBorders 0 [.ref r0, .int x1, v2, v3, v4, v5, v6] [] h Q := by
  refine st_aload (pc' := 1) rfl rfl rfl ?_
  refine st_getfi (Or.inl rfl) rfl hs0 rfl (pc' := 4) rfl ?_
  refine st_iload (pc' := 5) rfl rfl rfl ?_
  exact st_icmp_ne (pc' := 8) rfl rfl kt kf
theorem B_Md_layBorders_8 {d : Nat} {h : PH} {Q : PQ} {r0 : Nat} {x1 : Int32} {v2 : Value} {v3 : Value} {v4 : Value} {v5 : Value} {v6 : Value}  (k : Q none h) : wpx d P_Md_layBorders 8 [.ref r0, .int x1, v2, v3, v4, v5, v6] [] h Q := by
  exact st_return rfl k
theorem B_Md_layBorders_9 {d : Nat} {h : PH} {Q : PQ} {r0 : Nat} {x1 : Int32} {v2 : Value} {v3 : Value} {v4 : Value} {v5 : Value} {v6 : Value} {a0 : Nat} {n1 : Nat} {a2 : Nat} {n3 : Nat} (hs0 : h_sh h r0 = some (0, 12)) (hr1 : h_r h r0 66 = some a0) (hs2 : h_sh h a0 = some (1, n1)) (hb3 : vp_in 0 n1) (hr4 : h_r h r0 65 = some a2) (hs5 : h_sh h a2 = some (1, n3)) (hb6 : vp_in 0 n3) (k : wpx d P_Md_layBorders 30 [.ref r0, .int x1, .int 1, v3, v4, v5, v6] [] (w_i (w_i (w_i h r0 70 x1) a0 0 1) a2 0 0) Q) : wpx d P_Md_layBorders 9 [.ref r0, .int x1, v2, v3, v4, v5, v6] [] h Q := by
  refine st_aload (pc' := 10) rfl rfl rfl ?_
  refine st_iload (pc' := 11) rfl rfl rfl ?_
  refine st_putf (h' := w_i h r0 70 x1) (Or.inl rfl) rfl hs0 rfl rfl rfl (pc' := 14) rfl ?_
  refine st_aload (pc' := 15) rfl rfl rfl ?_
  refine st_getfr (x := some a0) (Or.inl rfl) rfl hs0 rfl hr1 (pc' := 18) rfl ?_
  refine st_ipush (pc' := 19) (v := 0) rfl rfl (by decide) ?_
  refine st_ipush (pc' := 20) (v := 1) rfl rfl (by decide) ?_
  refine st_iastore rfl hs2 hb3 (j := 0) (by decide) (pc' := 21) rfl ?_
  refine st_aload (pc' := 22) rfl rfl rfl ?_
  refine st_getfr (x := some a2) (Or.inl rfl) rfl hs0 rfl hr4 (pc' := 25) rfl ?_
  refine st_ipush (pc' := 26) (v := 0) rfl rfl (by decide) ?_
  refine st_ipush (pc' := 27) (v := 0) rfl rfl (by decide) ?_
  refine st_iastore rfl hs5 hb6 (j := 0) (by decide) (pc' := 28) rfl ?_
  refine st_ipush (pc' := 29) (v := 1) rfl rfl (by decide) ?_
  refine st_istore (pc' := 30) (ls' := [.ref r0, .int x1, .int 1, v3, v4, v5, v6]) rfl rfl (Nat.le_of_ble_eq_true rfl) rfl ?_
  exact k
theorem B_Md_layBorders_30 {d : Nat} {h : PH} {Q : PQ} {r0 : Nat} {x1 : Int32} {x2 : Int32} {v3 : Value} {v4 : Value} {v5 : Value} {v6 : Value}  (kt : x1 < x2 → wpx d P_Md_layBorders 154 [.ref r0, .int x1, .int x2, v3, v4, v5, v6] [] h Q) (kf : ¬ (x1 < x2) → wpx d P_Md_layBorders 35 [.ref r0, .int x1, .int x2, v3, v4, v5, v6] [] h Q) : wpx d P_Md_layBorders 30 [.ref r0, .int x1, .int x2, v3, v4, v5, v6] [] h Q := by
  refine st_iload (pc' := 31) rfl rfl rfl ?_
  refine st_iload (pc' := 32) rfl rfl rfl ?_
  exact st_icmp_gt (pc' := 35) rfl rfl kt kf
theorem B_Md_layBorders_35 {d : Nat} {h : PH} {Q : PQ} {r0 : Nat} {x1 : Int32} {x2 : Int32} {v3 : Value} {v4 : Value} {v5 : Value} {v6 : Value} {a0 : Nat} {n1 : Nat} (hs0 : h_sh h r0 = some (0, 12)) (hr1 : h_r h r0 66 = some a0) (hs2 : h_sh h a0 = some (1, n1)) (hb3 : vp_in (x2 - x2 / (2 : Int32) * (2 : Int32)) n1) (k : wpx d P_Md_layBorders 54 [.ref r0, .int x1, .int x2, .int (x2 - x2 / (2 : Int32) * (2 : Int32)), .int 0, v5, v6] [] (w_i (w_i h a0 ((x2 - x2 / (2 : Int32) * (2 : Int32)).toNatClampNeg) 0) r0 71 0) Q) : wpx d P_Md_layBorders 35 [.ref r0, .int x1, .int x2, v3, v4, v5, v6] [] h Q := by
  refine st_iload (pc' := 36) rfl rfl rfl ?_
  refine st_ipush (pc' := 37) (v := 2) rfl rfl (by decide) ?_
  refine st_irem rfl (by decide) (pc' := 38) rfl ?_
  refine st_istore (pc' := 39) (ls' := [.ref r0, .int x1, .int x2, .int (x2 - x2 / (2 : Int32) * (2 : Int32)), v4, v5, v6]) rfl rfl (Nat.le_of_ble_eq_true rfl) rfl ?_
  refine st_aload (pc' := 40) rfl rfl rfl ?_
  refine st_getfr (x := some a0) (Or.inl rfl) rfl hs0 rfl hr1 (pc' := 43) rfl ?_
  refine st_iload (pc' := 44) rfl rfl rfl ?_
  refine st_ipush (pc' := 45) (v := 0) rfl rfl (by decide) ?_
  refine st_iastore rfl hs2 hb3 (j := (x2 - x2 / (2 : Int32) * (2 : Int32)).toNatClampNeg) rfl (pc' := 46) rfl ?_
  refine st_aload (pc' := 47) rfl rfl rfl ?_
  refine st_ipush (pc' := 48) (v := 0) rfl rfl (by decide) ?_
  refine st_putf (h' := w_i (w_i h a0 ((x2 - x2 / (2 : Int32) * (2 : Int32)).toNatClampNeg) 0) r0 71 0) (Or.inl rfl) rfl hs0 rfl rfl rfl (pc' := 51) rfl ?_
  refine st_ipush (pc' := 52) (v := 0) rfl rfl (by decide) ?_
  refine st_istore (pc' := 54) (ls' := [.ref r0, .int x1, .int x2, .int (x2 - x2 / (2 : Int32) * (2 : Int32)), .int 0, v5, v6]) rfl rfl (Nat.le_of_ble_eq_true rfl) rfl ?_
  exact k
theorem B_Md_layBorders_54 {d : Nat} {h : PH} {Q : PQ} {r0 : Nat} {x1 : Int32} {x2 : Int32} {x3 : Int32} {x4 : Int32} {v5 : Value} {v6 : Value}  (kt : (27 : Int32) ≤ x4 → wpx d P_Md_layBorders 148 [.ref r0, .int x1, .int x2, .int x3, .int x4, v5, v6] [] h Q) (kf : ¬ ((27 : Int32) ≤ x4) → wpx d P_Md_layBorders 61 [.ref r0, .int x1, .int x2, .int x3, .int x4, v5, v6] [] h Q) : wpx d P_Md_layBorders 54 [.ref r0, .int x1, .int x2, .int x3, .int x4, v5, v6] [] h Q := by
  refine st_iload (pc' := 56) rfl rfl rfl ?_
  refine st_ipush (pc' := 58) (v := 27) rfl rfl (by decide) ?_
  exact st_icmp_ge (pc' := 61) rfl rfl kt kf
theorem B_Md_layBorders_61 {d : Nat} {h : PH} {Q : PQ} {r0 : Nat} {x1 : Int32} {x2 : Int32} {x3 : Int32} {x4 : Int32} {v5 : Value} {v6 : Value}  (k : wpx d P_Md_layBorders 64 [.ref r0, .int x1, .int x2, .int x3, .int x4, .int 0, v6] [] h Q) : wpx d P_Md_layBorders 61 [.ref r0, .int x1, .int x2, .int x3, .int x4, v5, v6] [] h Q := by
  refine st_ipush (pc' := 62) (v := 0) rfl rfl (by decide) ?_
  refine st_istore (pc' := 64) (ls' := [.ref r0, .int x1, .int x2, .int x3, .int x4, .int 0, v6]) rfl rfl (Nat.le_of_ble_eq_true rfl) rfl ?_
  exact k
theorem B_Md_layBorders_64 {d : Nat} {h : PH} {Q : PQ} {r0 : Nat} {x1 : Int32} {x2 : Int32} {x3 : Int32} {x4 : Int32} {x5 : Int32} {v6 : Value} {a0 : Nat} {n1 : Nat} (hs0 : h_sh h r0 = some (0, 12)) (hr1 : h_r h r0 66 = some a0) (hs2 : h_sh h a0 = some (1, n1)) (hb3 : vp_in ((1 : Int32) - x3) n1) (kt : (h_i h a0 ((1 : Int32) - x3).toNatClampNeg) ≤ x5 → wpx d P_Md_layBorders 142 [.ref r0, .int x1, .int x2, .int x3, .int x4, .int x5, v6] [] h Q) (kf : ¬ ((h_i h a0 ((1 : Int32) - x3).toNatClampNeg) ≤ x5) → wpx d P_Md_layBorders 77 [.ref r0, .int x1, .int x2, .int x3, .int x4, .int x5, v6] [] h Q) : wpx d P_Md_layBorders 64 [.ref r0, .int x1, .int x2, .int x3, .int x4, .int x5, v6] [] h Q := by
  refine st_iload (pc' := 66) rfl rfl rfl ?_
  refine st_aload (pc' := 67) rfl rfl rfl ?_
  refine st_getfr (x := some a0) (Or.inl rfl) rfl hs0 rfl hr1 (pc' := 70) rfl ?_
  refine st_ipush (pc' := 71) (v := 1) rfl rfl (by decide) ?_
  refine st_iload (pc' := 72) rfl rfl rfl ?_
  refine st_isub (pc' := 73) rfl rfl ?_
  refine st_iaload rfl hs2 hb3 (j := ((1 : Int32) - x3).toNatClampNeg) rfl (pc' := 74) rfl ?_
  exact st_icmp_ge (pc' := 77) rfl rfl kt kf
theorem B_Md_layBorders_77 {d : Nat} {h : PH} {Q : PQ} {r0 : Nat} {x1 : Int32} {x2 : Int32} {x3 : Int32} {x4 : Int32} {x5 : Int32} {v6 : Value} {a0 : Nat} {n1 : Nat} (hs0 : h_sh h r0 = some (0, 12)) (hr1 : h_r h r0 65 = some a0) (hs2 : h_sh h a0 = some (1, n1)) (hb3 : vp_in (((20000 : Int32) * ((1 : Int32) - x3)) + x5) n1) (k : wpm d 262 [.ref r0, .int ((x4 <<< (((5 : Int32) * (x2 - (1 : Int32))) &&& 31)) ||| (h_i h a0 (((20000 : Int32) * ((1 : Int32) - x3)) + x5).toNatClampNeg)), .int x2] h (fun r h' => wpx d P_Md_layBorders 110 [.ref r0, .int x1, .int x2, .int x3, .int x4, .int x5, .int ((x4 <<< (((5 : Int32) * (x2 - (1 : Int32))) &&& 31)) ||| (h_i h a0 (((20000 : Int32) * ((1 : Int32) - x3)) + x5).toNatClampNeg))] (r.toList ++ []) h' Q)) : wpx d P_Md_layBorders 77 [.ref r0, .int x1, .int x2, .int x3, .int x4, .int x5, v6] [] h Q := by
  refine st_iload (pc' := 79) rfl rfl rfl ?_
  refine st_ipush (pc' := 80) (v := 5) rfl rfl (by decide) ?_
  refine st_iload (pc' := 81) rfl rfl rfl ?_
  refine st_ipush (pc' := 82) (v := 1) rfl rfl (by decide) ?_
  refine st_isub (pc' := 83) rfl rfl ?_
  refine st_imul (pc' := 84) rfl rfl ?_
  refine st_ishl (pc' := 85) rfl rfl ?_
  refine st_aload (pc' := 86) rfl rfl rfl ?_
  refine st_getfr (x := some a0) (Or.inl rfl) rfl hs0 rfl hr1 (pc' := 89) rfl ?_
  refine st_ipush (pc' := 92) (v := 20000) rfl rfl (by decide) ?_
  refine st_ipush (pc' := 93) (v := 1) rfl rfl (by decide) ?_
  refine st_iload (pc' := 94) rfl rfl rfl ?_
  refine st_isub (pc' := 95) rfl rfl ?_
  refine st_imul (pc' := 96) rfl rfl ?_
  refine st_iload (pc' := 98) rfl rfl rfl ?_
  refine st_iadd (pc' := 99) rfl rfl ?_
  refine st_iaload rfl hs2 hb3 (j := (((20000 : Int32) * ((1 : Int32) - x3)) + x5).toNatClampNeg) rfl (pc' := 100) rfl ?_
  refine st_ior (pc' := 101) rfl rfl ?_
  refine st_istore (pc' := 103) (ls' := [.ref r0, .int x1, .int x2, .int x3, .int x4, .int x5, .int ((x4 <<< (((5 : Int32) * (x2 - (1 : Int32))) &&& 31)) ||| (h_i h a0 (((20000 : Int32) * ((1 : Int32) - x3)) + x5).toNatClampNeg))]) rfl rfl (Nat.le_of_ble_eq_true rfl) rfl ?_
  refine st_aload (pc' := 104) rfl rfl rfl ?_
  refine st_iload (pc' := 106) rfl rfl rfl ?_
  refine st_iload (pc' := 107) rfl rfl rfl ?_
  exact st_call (pc' := 110) (as := [.ref r0, .int ((x4 <<< (((5 : Int32) * (x2 - (1 : Int32))) &&& 31)) ||| (h_i h a0 (((20000 : Int32) * ((1 : Int32) - x3)) + x5).toNatClampNeg)), .int x2]) (rest := []) rfl rfl (Nat.le_of_ble_eq_true rfl) rfl rfl (Nat.le_of_ble_eq_true rfl) (kd := 1) (o := 12) rfl rfl (beq_iff_eq.mpr hs0) k
theorem B_Md_layBorders_110 {d : Nat} {h : PH} {Q : PQ} {r0 : Nat} {x1 : Int32} {x2 : Int32} {x3 : Int32} {x4 : Int32} {x5 : Int32} {x6 : Int32} (hs0 : h_sh h r0 = some (0, 12)) (k : wpm d 264 [.ref r0, .int x2] h (fun r h' => wpx d P_Md_layBorders 115 [.ref r0, .int x1, .int x2, .int x3, .int x4, .int x5, .int x6] (r.toList ++ []) h' Q)) : wpx d P_Md_layBorders 110 [.ref r0, .int x1, .int x2, .int x3, .int x4, .int x5, .int x6] [] h Q := by
  refine st_aload (pc' := 111) rfl rfl rfl ?_
  refine st_iload (pc' := 112) rfl rfl rfl ?_
  exact st_call (pc' := 115) (as := [.ref r0, .int x2]) (rest := []) rfl rfl (Nat.le_of_ble_eq_true rfl) rfl rfl (Nat.le_of_ble_eq_true rfl) (kd := 1) (o := 12) rfl rfl (beq_iff_eq.mpr hs0) k
theorem B_Md_layBorders_115 {d : Nat} {h : PH} {Q : PQ} {r0 : Nat} {x1 : Int32} {x2 : Int32} {x3 : Int32} {x4 : Int32} {x5 : Int32} {x6 : Int32} {a0 : Nat} {n1 : Nat} (hs0 : h_sh h r0 = some (0, 12)) (hr1 : h_r h r0 69 = some a0) (hs2 : h_sh h a0 = some (3, n1)) (hb3 : vp_in x2 n1) (kt : (h_i h a0 x2.toNatClampNeg) = 0 → wpx d P_Md_layBorders 136 [.ref r0, .int x1, .int x2, .int x3, .int x4, .int x5, .int x6] [] h Q) (kf : ¬ ((h_i h a0 x2.toNatClampNeg) = 0) → wpx d P_Md_layBorders 124 [.ref r0, .int x1, .int x2, .int x3, .int x4, .int x5, .int x6] [] h Q) : wpx d P_Md_layBorders 115 [.ref r0, .int x1, .int x2, .int x3, .int x4, .int x5, .int x6] [] h Q := by
  refine st_aload (pc' := 116) rfl rfl rfl ?_
  refine st_getfr (x := some a0) (Or.inl rfl) rfl hs0 rfl hr1 (pc' := 119) rfl ?_
  refine st_iload (pc' := 120) rfl rfl rfl ?_
  refine st_baload rfl (Or.inr hs2) hb3 (j := x2.toNatClampNeg) rfl (pc' := 121) rfl ?_
  exact st_if_eq (pc' := 124) rfl rfl kt kf
theorem B_Md_layBorders_124 {d : Nat} {h : PH} {Q : PQ} {r0 : Nat} {x1 : Int32} {x2 : Int32} {x3 : Int32} {x4 : Int32} {x5 : Int32} {x6 : Int32} (hs0 : h_sh h r0 = some (0, 12)) (k : wpm d 265 [.ref r0, .int x2] h (fun r h' => wpx d P_Md_layBorders 133 [.ref r0, .int x1, .int x2, .int x3, .int x4, .int x5, .int x6] (r.toList ++ [.int x3, .int x6, .ref r0]) h' Q)) : wpx d P_Md_layBorders 124 [.ref r0, .int x1, .int x2, .int x3, .int x4, .int x5, .int x6] [] h Q := by
  refine st_aload (pc' := 125) rfl rfl rfl ?_
  refine st_iload (pc' := 127) rfl rfl rfl ?_
  refine st_iload (pc' := 128) rfl rfl rfl ?_
  refine st_aload (pc' := 129) rfl rfl rfl ?_
  refine st_iload (pc' := 130) rfl rfl rfl ?_
  exact st_call (pc' := 133) (as := [.ref r0, .int x2]) (rest := [.int x3, .int x6, .ref r0]) rfl rfl (Nat.le_of_ble_eq_true rfl) rfl rfl (Nat.le_of_ble_eq_true rfl) (kd := 1) (o := 12) rfl rfl (beq_iff_eq.mpr hs0) k
theorem B_Md_layBorders_133 {d : Nat} {h : PH} {Q : PQ} {r0 : Nat} {x1 : Int32} {x2 : Int32} {x3 : Int32} {x4 : Int32} {x5 : Int32} {x6 : Int32} {q0 : Nat} {s1 : Int32} {s2 : Int32} {s3 : Int32} (hs0 : h_sh h q0 = some (0, 12)) (k : wpm d 267 [.ref q0, .int s1, .int s2, .int s3] h (fun r h' => wpx d P_Md_layBorders 136 [.ref r0, .int x1, .int x2, .int x3, .int x4, .int x5, .int x6] (r.toList ++ []) h' Q)) : wpx d P_Md_layBorders 133 [.ref r0, .int x1, .int x2, .int x3, .int x4, .int x5, .int x6] [.int s3, .int s2, .int s1, .ref q0] h Q := by
  exact st_call (pc' := 136) (as := [.ref q0, .int s1, .int s2, .int s3]) (rest := []) rfl rfl (Nat.le_of_ble_eq_true rfl) rfl rfl (Nat.le_of_ble_eq_true rfl) (kd := 1) (o := 12) rfl rfl (beq_iff_eq.mpr hs0) k
theorem B_Md_layBorders_136 {d : Nat} {h : PH} {Q : PQ} {r0 : Nat} {x1 : Int32} {x2 : Int32} {x3 : Int32} {x4 : Int32} {x5 : Int32} {x6 : Int32}  (k : wpx d P_Md_layBorders 64 [.ref r0, .int x1, .int x2, .int x3, .int x4, .int (x5 + 1), .int x6] [] h Q) : wpx d P_Md_layBorders 136 [.ref r0, .int x1, .int x2, .int x3, .int x4, .int x5, .int x6] [] h Q := by
  refine st_iinc (pc' := 139) (v := 1) (ls' := [.ref r0, .int x1, .int x2, .int x3, .int x4, .int (x5 + 1), .int x6]) rfl rfl rfl (by decide) rfl ?_
  exact st_goto rfl k
theorem B_Md_layBorders_142 {d : Nat} {h : PH} {Q : PQ} {r0 : Nat} {x1 : Int32} {x2 : Int32} {x3 : Int32} {x4 : Int32} {x5 : Int32} {v6 : Value}  (k : wpx d P_Md_layBorders 54 [.ref r0, .int x1, .int x2, .int x3, .int (x4 + 1), .int x5, v6] [] h Q) : wpx d P_Md_layBorders 142 [.ref r0, .int x1, .int x2, .int x3, .int x4, .int x5, v6] [] h Q := by
  refine st_iinc (pc' := 145) (v := 1) (ls' := [.ref r0, .int x1, .int x2, .int x3, .int (x4 + 1), .int x5, v6]) rfl rfl rfl (by decide) rfl ?_
  exact st_goto rfl k
theorem B_Md_layBorders_148 {d : Nat} {h : PH} {Q : PQ} {r0 : Nat} {x1 : Int32} {x2 : Int32} {x3 : Int32} {x4 : Int32} {v5 : Value} {v6 : Value}  (k : wpx d P_Md_layBorders 30 [.ref r0, .int x1, .int (x2 + 1), .int x3, .int x4, v5, v6] [] h Q) : wpx d P_Md_layBorders 148 [.ref r0, .int x1, .int x2, .int x3, .int x4, v5, v6] [] h Q := by
  refine st_iinc (pc' := 151) (v := 1) (ls' := [.ref r0, .int x1, .int (x2 + 1), .int x3, .int x4, v5, v6]) rfl rfl rfl (by decide) rfl ?_
  exact st_goto rfl k
theorem B_Md_layBorders_154 {d : Nat} {h : PH} {Q : PQ} {r0 : Nat} {x1 : Int32} {x2 : Int32} {v3 : Value} {v4 : Value} {v5 : Value} {v6 : Value}  (k : Q none h) : wpx d P_Md_layBorders 154 [.ref r0, .int x1, .int x2, v3, v4, v5, v6] [] h Q := by
  exact st_return rfl k
theorem B_Md_puts_0 {d : Nat} {h : PH} {Q : PQ} {r0 : Nat} {x1 : Int32} {x2 : Int32} {x3 : Int32}  (kt : x3 = 0 → wpx d P_Md_puts 35 [.ref r0, .int x1, .int x2, .int x3] [] h Q) (kf : ¬ (x3 = 0) → wpx d P_Md_puts 4 [.ref r0, .int x1, .int x2, .int x3] [] h Q) : wpx d P_Md_puts 0 [.ref r0, .int x1, .int x2, .int x3] [] h Q := by
  refine st_iload (pc' := 1) rfl rfl rfl ?_
  exact st_if_eq (pc' := 4) rfl rfl kt kf
theorem B_Md_puts_4 {d : Nat} {h : PH} {Q : PQ} {r0 : Nat} {x1 : Int32} {x2 : Int32} {x3 : Int32} {a0 : Nat} {a1 : Nat} {n2 : Nat} {n3 : Nat} (hs0 : h_sh h r0 = some (0, 12)) (hr1 : h_r h r0 65 = some a0) (hr2 : h_r h r0 66 = some a1) (hs3 : h_sh h a1 = some (1, n2)) (hb4 : vp_in x2 n2) (hs5 : h_sh h a0 = some (1, n3)) (hb6 : vp_in (((20000 : Int32) * x2) + (h_i h a1 x2.toNatClampNeg)) n3) (k : wpx d P_Md_puts 32 [.ref r0, .int x1, .int x2, .int x3] [] (w_i (w_i h a0 ((((20000 : Int32) * x2) + (h_i h a1 x2.toNatClampNeg)).toNatClampNeg) x1) a1 x2.toNatClampNeg ((h_i (w_i h a0 ((((20000 : Int32) * x2) + (h_i h a1 x2.toNatClampNeg)).toNatClampNeg) x1) a1 x2.toNatClampNeg) + (1 : Int32))) Q) : wpx d P_Md_puts 4 [.ref r0, .int x1, .int x2, .int x3] [] h Q := by
  refine st_aload (pc' := 5) rfl rfl rfl ?_
  refine st_getfr (x := some a0) (Or.inl rfl) rfl hs0 rfl hr1 (pc' := 8) rfl ?_
  refine st_ipush (pc' := 11) (v := 20000) rfl rfl (by decide) ?_
  refine st_iload (pc' := 12) rfl rfl rfl ?_
  refine st_imul (pc' := 13) rfl rfl ?_
  refine st_aload (pc' := 14) rfl rfl rfl ?_
  refine st_getfr (x := some a1) (Or.inl rfl) rfl hs0 rfl hr2 (pc' := 17) rfl ?_
  refine st_iload (pc' := 18) rfl rfl rfl ?_
  refine st_iaload rfl hs3 hb4 (j := x2.toNatClampNeg) rfl (pc' := 19) rfl ?_
  refine st_iadd (pc' := 20) rfl rfl ?_
  refine st_iload (pc' := 21) rfl rfl rfl ?_
  refine st_iastore rfl hs5 hb6 (j := (((20000 : Int32) * x2) + (h_i h a1 x2.toNatClampNeg)).toNatClampNeg) rfl (pc' := 22) rfl ?_
  refine st_aload (pc' := 23) rfl rfl rfl ?_
  refine st_getfr (x := some a1) (Or.inl rfl) rfl hs0 rfl hr2 (pc' := 26) rfl ?_
  refine st_iload (pc' := 27) rfl rfl rfl ?_
  refine st_dup211 (pc' := 28) rfl rfl ⟨rfl, rfl⟩ ?_
  refine st_iaload rfl hs3 hb4 (j := x2.toNatClampNeg) rfl (pc' := 29) rfl ?_
  refine st_ipush (pc' := 30) (v := 1) rfl rfl (by decide) ?_
  refine st_iadd (pc' := 31) rfl rfl ?_
  refine st_iastore rfl hs3 hb4 (j := x2.toNatClampNeg) rfl (pc' := 32) rfl ?_
  exact k
theorem B_Md_puts_35 {d : Nat} {h : PH} {Q : PQ} {r0 : Nat} {x1 : Int32} {x2 : Int32} {x3 : Int32} {a0 : Nat} {n1 : Nat} (hs0 : h_sh h r0 = some (0, 12)) (hr1 : h_r h r0 67 = some a0) (hs2 : h_sh h a0 = some (1, n1)) (hb3 : vp_in (h_i h r0 71) n1) (k : wpx d P_Md_puts 55 [.ref r0, .int x1, .int x2, .int x3] [] (w_i (w_i h a0 ((h_i h r0 71).toNatClampNeg) x1) r0 71 ((h_i (w_i h a0 ((h_i h r0 71).toNatClampNeg) x1) r0 71) + (1 : Int32))) Q) : wpx d P_Md_puts 35 [.ref r0, .int x1, .int x2, .int x3] [] h Q := by
  refine st_aload (pc' := 36) rfl rfl rfl ?_
  refine st_getfr (x := some a0) (Or.inl rfl) rfl hs0 rfl hr1 (pc' := 39) rfl ?_
  refine st_aload (pc' := 40) rfl rfl rfl ?_
  refine st_getfi (Or.inl rfl) rfl hs0 rfl (pc' := 43) rfl ?_
  refine st_iload (pc' := 44) rfl rfl rfl ?_
  refine st_iastore rfl hs2 hb3 (j := (h_i h r0 71).toNatClampNeg) rfl (pc' := 45) rfl ?_
  refine st_aload (pc' := 46) rfl rfl rfl ?_
  refine st_dup (pc' := 47) rfl rfl rfl ?_
  refine st_getfi (Or.inl rfl) rfl hs0 rfl (pc' := 50) rfl ?_
  refine st_ipush (pc' := 51) (v := 1) rfl rfl (by decide) ?_
  refine st_iadd (pc' := 52) rfl rfl ?_
  refine st_putf (h' := w_i (w_i h a0 ((h_i h r0 71).toNatClampNeg) x1) r0 71 ((h_i (w_i h a0 ((h_i h r0 71).toNatClampNeg) x1) r0 71) + (1 : Int32))) (Or.inl rfl) rfl hs0 rfl rfl rfl (pc' := 55) rfl ?_
  exact k
theorem B_Md_puts_55 {d : Nat} {h : PH} {Q : PQ} {r0 : Nat} {x1 : Int32} {x2 : Int32} {x3 : Int32}  (k : Q none h) : wpx d P_Md_puts 55 [.ref r0, .int x1, .int x2, .int x3] [] h Q := by
  exact st_return rfl k
theorem B_Md_puts_32 {d : Nat} {h : PH} {Q : PQ} {r0 : Nat} {x1 : Int32} {x2 : Int32} {x3 : Int32}  (k : wpx d P_Md_puts 55 [.ref r0, .int x1, .int x2, .int x3] [] h Q) : wpx d P_Md_puts 32 [.ref r0, .int x1, .int x2, .int x3] [] h Q := by
  exact st_goto rfl k
theorem B_Md_borders_0 {d : Nat} {h : PH} {Q : PQ} {r0 : Nat} {x1 : Int32} (hs0 : h_sh h r0 = some (0, 12)) (k : wpm d 170 [.int x1, .int 1, .int 4] (w_i h r0 0 0) (fun r h' => wpx d P_Md_borders 11 [.ref r0, .int x1] (r.toList ++ []) h' Q)) : wpx d P_Md_borders 0 [.ref r0, .int x1] [] h Q := by
  refine st_aload (pc' := 1) rfl rfl rfl ?_
  refine st_ipush (pc' := 2) (v := 0) rfl rfl (by decide) ?_
  refine st_putf (h' := w_i h r0 0 0) (Or.inl rfl) rfl hs0 rfl rfl rfl (pc' := 5) rfl ?_
  refine st_iload (pc' := 6) rfl rfl rfl ?_
  refine st_ipush (pc' := 7) (v := 1) rfl rfl (by decide) ?_
  refine st_ipush (pc' := 8) (v := 4) rfl rfl (by decide) ?_
  exact st_call (pc' := 11) (as := [.int x1, .int 1, .int 4]) (rest := []) rfl rfl (Nat.le_of_ble_eq_true rfl) rfl rfl (Nat.le_of_ble_eq_true rfl) (kd := 0) (o := 12) rfl rfl rfl k
theorem B_Md_borders_11 {d : Nat} {h : PH} {Q : PQ} {r0 : Nat} {x1 : Int32} {s0 : Int32}  (kt : ¬ (s0 = 0) → wpx d P_Md_borders 16 [.ref r0, .int x1] [] h Q) (kf : s0 = 0 → wpx d P_Md_borders 14 [.ref r0, .int x1] [] h Q) : wpx d P_Md_borders 11 [.ref r0, .int x1] [.int s0] h Q := by
  exact st_if_ne (pc' := 14) rfl rfl kt kf
theorem B_Md_borders_14 {d : Nat} {h : PH} {Q : PQ} {r0 : Nat} {x1 : Int32}  (k : Q (some (.int (-1))) h) : wpx d P_Md_borders 14 [.ref r0, .int x1] [] h Q := by
  refine st_ipush (pc' := 15) (v := (-1)) rfl rfl (by decide) ?_
  exact st_ireturn (ty := .int) rfl rfl rfl k
theorem B_Md_borders_16 {d : Nat} {h : PH} {Q : PQ} {r0 : Nat} {x1 : Int32} (hs0 : h_sh h r0 = some (0, 12)) (k : wpm d 266 [.ref r0, .int x1] h (fun r h' => wpx d P_Md_borders 21 [.ref r0, .int x1] (r.toList ++ []) h' Q)) : wpx d P_Md_borders 16 [.ref r0, .int x1] [] h Q := by
  refine st_aload (pc' := 17) rfl rfl rfl ?_
  refine st_iload (pc' := 18) rfl rfl rfl ?_
  exact st_call (pc' := 21) (as := [.ref r0, .int x1]) (rest := []) rfl rfl (Nat.le_of_ble_eq_true rfl) rfl rfl (Nat.le_of_ble_eq_true rfl) (kd := 1) (o := 12) rfl rfl (beq_iff_eq.mpr hs0) k
theorem B_Md_borders_21 {d : Nat} {h : PH} {Q : PQ} {r0 : Nat} {x1 : Int32} (hs0 : h_sh h r0 = some (0, 12)) (k : Q (some (.int (h_i h r0 71))) h) : wpx d P_Md_borders 21 [.ref r0, .int x1] [] h Q := by
  refine st_aload (pc' := 22) rfl rfl rfl ?_
  refine st_getfi (Or.inl rfl) rfl hs0 rfl (pc' := 25) rfl ?_
  exact st_ireturn (ty := .int) rfl rfl rfl k
theorem B_Md_border_0 {d : Nat} {h : PH} {Q : PQ} {r0 : Nat} {x1 : Int32} {x2 : Int32} {x3 : Int32} (hs0 : h_sh h r0 = some (0, 12)) (k : wpm d 170 [.int x1, .int 1, .int 4] (w_i h r0 0 0) (fun r h' => wpx d P_Md_border 11 [.ref r0, .int x1, .int x2, .int x3] (r.toList ++ []) h' Q)) : wpx d P_Md_border 0 [.ref r0, .int x1, .int x2, .int x3] [] h Q := by
  refine st_aload (pc' := 1) rfl rfl rfl ?_
  refine st_ipush (pc' := 2) (v := 0) rfl rfl (by decide) ?_
  refine st_putf (h' := w_i h r0 0 0) (Or.inl rfl) rfl hs0 rfl rfl rfl (pc' := 5) rfl ?_
  refine st_iload (pc' := 6) rfl rfl rfl ?_
  refine st_ipush (pc' := 7) (v := 1) rfl rfl (by decide) ?_
  refine st_ipush (pc' := 8) (v := 4) rfl rfl (by decide) ?_
  exact st_call (pc' := 11) (as := [.int x1, .int 1, .int 4]) (rest := []) rfl rfl (Nat.le_of_ble_eq_true rfl) rfl rfl (Nat.le_of_ble_eq_true rfl) (kd := 0) (o := 12) rfl rfl rfl k
theorem B_Md_border_11 {d : Nat} {h : PH} {Q : PQ} {r0 : Nat} {x1 : Int32} {x2 : Int32} {x3 : Int32} {s0 : Int32}  (kt : s0 = 0 → wpx d P_Md_border 25 [.ref r0, .int x1, .int x2, .int x3] [] h Q) (kf : ¬ (s0 = 0) → wpx d P_Md_border 14 [.ref r0, .int x1, .int x2, .int x3] [] h Q) : wpx d P_Md_border 11 [.ref r0, .int x1, .int x2, .int x3] [.int s0] h Q := by
  exact st_if_eq (pc' := 14) rfl rfl kt kf
theorem B_Md_border_14 {d : Nat} {h : PH} {Q : PQ} {r0 : Nat} {x1 : Int32} {x2 : Int32} {x3 : Int32}  (k : wpm d 170 [.int x3, .int 0, .int (x1 - (1 : Int32))] h (fun r h' => wpx d P_Md_border 22 [.ref r0, .int x1, .int x2, .int x3] (r.toList ++ []) h' Q)) : wpx d P_Md_border 14 [.ref r0, .int x1, .int x2, .int x3] [] h Q := by
  refine st_iload (pc' := 15) rfl rfl rfl ?_
  refine st_ipush (pc' := 16) (v := 0) rfl rfl (by decide) ?_
  refine st_iload (pc' := 17) rfl rfl rfl ?_
  refine st_ipush (pc' := 18) (v := 1) rfl rfl (by decide) ?_
  refine st_isub (pc' := 19) rfl rfl ?_
  exact st_call (pc' := 22) (as := [.int x3, .int 0, .int (x1 - (1 : Int32))]) (rest := []) rfl rfl (Nat.le_of_ble_eq_true rfl) rfl rfl (Nat.le_of_ble_eq_true rfl) (kd := 0) (o := 12) rfl rfl rfl k
theorem B_Md_border_22 {d : Nat} {h : PH} {Q : PQ} {r0 : Nat} {x1 : Int32} {x2 : Int32} {x3 : Int32} {s0 : Int32}  (kt : ¬ (s0 = 0) → wpx d P_Md_border 27 [.ref r0, .int x1, .int x2, .int x3] [] h Q) (kf : s0 = 0 → wpx d P_Md_border 25 [.ref r0, .int x1, .int x2, .int x3] [] h Q) : wpx d P_Md_border 22 [.ref r0, .int x1, .int x2, .int x3] [.int s0] h Q := by
  exact st_if_ne (pc' := 25) rfl rfl kt kf
theorem B_Md_border_25 {d : Nat} {h : PH} {Q : PQ} {r0 : Nat} {x1 : Int32} {x2 : Int32} {x3 : Int32}  (k : Q (some (.int (-1))) h) : wpx d P_Md_border 25 [.ref r0, .int x1, .int x2, .int x3] [] h Q := by
  refine st_ipush (pc' := 26) (v := (-1)) rfl rfl (by decide) ?_
  exact st_ireturn (ty := .int) rfl rfl rfl k
theorem B_Md_border_27 {d : Nat} {h : PH} {Q : PQ} {r0 : Nat} {x1 : Int32} {x2 : Int32} {x3 : Int32} (hs0 : h_sh h r0 = some (0, 12)) (k : wpm d 266 [.ref r0, .int x1] h (fun r h' => wpx d P_Md_border 32 [.ref r0, .int x1, .int x2, .int x3] (r.toList ++ []) h' Q)) : wpx d P_Md_border 27 [.ref r0, .int x1, .int x2, .int x3] [] h Q := by
  refine st_aload (pc' := 28) rfl rfl rfl ?_
  refine st_iload (pc' := 29) rfl rfl rfl ?_
  exact st_call (pc' := 32) (as := [.ref r0, .int x1]) (rest := []) rfl rfl (Nat.le_of_ble_eq_true rfl) rfl rfl (Nat.le_of_ble_eq_true rfl) (kd := 1) (o := 12) rfl rfl (beq_iff_eq.mpr hs0) k
theorem B_Md_border_32 {d : Nat} {h : PH} {Q : PQ} {r0 : Nat} {x1 : Int32} {x2 : Int32} {x3 : Int32} (hs0 : h_sh h r0 = some (0, 12)) (k : wpm d 170 [.int x2, .int 0, .int ((h_i h r0 71) - (1 : Int32))] h (fun r h' => wpx d P_Md_border 43 [.ref r0, .int x1, .int x2, .int x3] (r.toList ++ []) h' Q)) : wpx d P_Md_border 32 [.ref r0, .int x1, .int x2, .int x3] [] h Q := by
  refine st_iload (pc' := 33) rfl rfl rfl ?_
  refine st_ipush (pc' := 34) (v := 0) rfl rfl (by decide) ?_
  refine st_aload (pc' := 35) rfl rfl rfl ?_
  refine st_getfi (Or.inl rfl) rfl hs0 rfl (pc' := 38) rfl ?_
  refine st_ipush (pc' := 39) (v := 1) rfl rfl (by decide) ?_
  refine st_isub (pc' := 40) rfl rfl ?_
  exact st_call (pc' := 43) (as := [.int x2, .int 0, .int ((h_i h r0 71) - (1 : Int32))]) (rest := []) rfl rfl (Nat.le_of_ble_eq_true rfl) rfl rfl (Nat.le_of_ble_eq_true rfl) (kd := 0) (o := 12) rfl rfl rfl k
theorem B_Md_border_43 {d : Nat} {h : PH} {Q : PQ} {r0 : Nat} {x1 : Int32} {x2 : Int32} {x3 : Int32} {s0 : Int32}  (kt : ¬ (s0 = 0) → wpx d P_Md_border 48 [.ref r0, .int x1, .int x2, .int x3] [] h Q) (kf : s0 = 0 → wpx d P_Md_border 46 [.ref r0, .int x1, .int x2, .int x3] [] h Q) : wpx d P_Md_border 43 [.ref r0, .int x1, .int x2, .int x3] [.int s0] h Q := by
  exact st_if_ne (pc' := 46) rfl rfl kt kf
theorem B_Md_border_46 {d : Nat} {h : PH} {Q : PQ} {r0 : Nat} {x1 : Int32} {x2 : Int32} {x3 : Int32}  (k : Q (some (.int (-1))) h) : wpx d P_Md_border 46 [.ref r0, .int x1, .int x2, .int x3] [] h Q := by
  refine st_ipush (pc' := 47) (v := (-1)) rfl rfl (by decide) ?_
  exact st_ireturn (ty := .int) rfl rfl rfl k
theorem B_Md_border_48 {d : Nat} {h : PH} {Q : PQ} {r0 : Nat} {x1 : Int32} {x2 : Int32} {x3 : Int32} {a0 : Nat} {n1 : Nat} (hs0 : h_sh h r0 = some (0, 12)) (hr1 : h_r h r0 67 = some a0) (hs2 : h_sh h a0 = some (1, n1)) (hb3 : vp_in x2 n1) (k : wpm d 262 [.ref r0, .int (h_i h a0 x2.toNatClampNeg), .int x1] h (fun r h' => wpx d P_Md_border 59 [.ref r0, .int x1, .int x2, .int x3] (r.toList ++ []) h' Q)) : wpx d P_Md_border 48 [.ref r0, .int x1, .int x2, .int x3] [] h Q := by
  refine st_aload (pc' := 49) rfl rfl rfl ?_
  refine st_aload (pc' := 50) rfl rfl rfl ?_
  refine st_getfr (x := some a0) (Or.inl rfl) rfl hs0 rfl hr1 (pc' := 53) rfl ?_
  refine st_iload (pc' := 54) rfl rfl rfl ?_
  refine st_iaload rfl hs2 hb3 (j := x2.toNatClampNeg) rfl (pc' := 55) rfl ?_
  refine st_iload (pc' := 56) rfl rfl rfl ?_
  exact st_call (pc' := 59) (as := [.ref r0, .int (h_i h a0 x2.toNatClampNeg), .int x1]) (rest := []) rfl rfl (Nat.le_of_ble_eq_true rfl) rfl rfl (Nat.le_of_ble_eq_true rfl) (kd := 1) (o := 12) rfl rfl (beq_iff_eq.mpr hs0) k
theorem B_Md_border_59 {d : Nat} {h : PH} {Q : PQ} {r0 : Nat} {x1 : Int32} {x2 : Int32} {x3 : Int32} {a0 : Nat} {n1 : Nat} (hs0 : h_sh h r0 = some (0, 12)) (hr1 : h_r h r0 68 = some a0) (hs2 : h_sh h a0 = some (1, n1)) (hb3 : vp_in x3 n1) (k : Q (some (.int (h_i h a0 x3.toNatClampNeg))) h) : wpx d P_Md_border 59 [.ref r0, .int x1, .int x2, .int x3] [] h Q := by
  refine st_aload (pc' := 60) rfl rfl rfl ?_
  refine st_getfr (x := some a0) (Or.inl rfl) rfl hs0 rfl hr1 (pc' := 63) rfl ?_
  refine st_iload (pc' := 64) rfl rfl rfl ?_
  refine st_iaload rfl hs2 hb3 (j := x3.toNatClampNeg) rfl (pc' := 65) rfl ?_
  exact st_ireturn (ty := .int) rfl rfl rfl k
theorem B_Md_comesIn_0 {d : Nat} {h : PH} {Q : PQ} {r0 : Nat} {x1 : Int32} {x2 : Int32} {a0 : Nat} {n1 : Nat} (hs0 : h_sh h r0 = some (0, 12)) (hr1 : h_r h r0 73 = some a0) (hs2 : h_sh h a0 = some (3, n1)) (hb3 : vp_in (((8 : Int32) * x1) + x2) n1) (kt : ¬ ((h_i h a0 (((8 : Int32) * x1) + x2).toNatClampNeg) = 0) → wpx d P_Md_comesIn 51 [.ref r0, .int x1, .int x2] [] h Q) (kf : (h_i h a0 (((8 : Int32) * x1) + x2).toNatClampNeg) = 0 → wpx d P_Md_comesIn 14 [.ref r0, .int x1, .int x2] [] h Q) : wpx d P_Md_comesIn 0 [.ref r0, .int x1, .int x2] [] h Q := by
  refine st_aload (pc' := 1) rfl rfl rfl ?_
  refine st_getfr (x := some a0) (Or.inl rfl) rfl hs0 rfl hr1 (pc' := 4) rfl ?_
  refine st_ipush (pc' := 6) (v := 8) rfl rfl (by decide) ?_
  refine st_iload (pc' := 7) rfl rfl rfl ?_
  refine st_imul (pc' := 8) rfl rfl ?_
  refine st_iload (pc' := 9) rfl rfl rfl ?_
  refine st_iadd (pc' := 10) rfl rfl ?_
  refine st_baload rfl (Or.inr hs2) hb3 (j := (((8 : Int32) * x1) + x2).toNatClampNeg) rfl (pc' := 11) rfl ?_
  exact st_if_ne (pc' := 14) rfl rfl kt kf
theorem B_Md_comesIn_14 {d : Nat} {h : PH} {Q : PQ} {r0 : Nat} {x1 : Int32} {x2 : Int32} {a0 : Nat} {n1 : Nat} {a2 : Nat} {n3 : Nat} (hs0 : h_sh h r0 = some (0, 12)) (hr1 : h_r h r0 73 = some a0) (hs2 : h_sh h a0 = some (3, n1)) (hb3 : vp_in (((8 : Int32) * x1) + x2) n1) (hr4 : h_r h r0 72 = some a2) (hs5 : h_sh h a2 = some (1, n3)) (hb6 : vp_in (h_i (w_i h a0 ((((8 : Int32) * x1) + x2).toNatClampNeg) ((1 : Int32) &&& 1)) r0 74) n3) (k : wpx d P_Md_comesIn 51 [.ref r0, .int x1, .int x2] [] (w_i (w_i (w_i h a0 ((((8 : Int32) * x1) + x2).toNatClampNeg) ((1 : Int32) &&& 1)) a2 ((h_i (w_i h a0 ((((8 : Int32) * x1) + x2).toNatClampNeg) ((1 : Int32) &&& 1)) r0 74).toNatClampNeg) (((8 : Int32) * x1) + x2)) r0 74 ((h_i (w_i (w_i h a0 ((((8 : Int32) * x1) + x2).toNatClampNeg) ((1 : Int32) &&& 1)) a2 ((h_i (w_i h a0 ((((8 : Int32) * x1) + x2).toNatClampNeg) ((1 : Int32) &&& 1)) r0 74).toNatClampNeg) (((8 : Int32) * x1) + x2)) r0 74) + (1 : Int32))) Q) : wpx d P_Md_comesIn 14 [.ref r0, .int x1, .int x2] [] h Q := by
  refine st_aload (pc' := 15) rfl rfl rfl ?_
  refine st_getfr (x := some a0) (Or.inl rfl) rfl hs0 rfl hr1 (pc' := 18) rfl ?_
  refine st_ipush (pc' := 20) (v := 8) rfl rfl (by decide) ?_
  refine st_iload (pc' := 21) rfl rfl rfl ?_
  refine st_imul (pc' := 22) rfl rfl ?_
  refine st_iload (pc' := 23) rfl rfl rfl ?_
  refine st_iadd (pc' := 24) rfl rfl ?_
  refine st_ipush (pc' := 25) (v := 1) rfl rfl (by decide) ?_
  refine st_zastore rfl hs2 hb3 (j := (((8 : Int32) * x1) + x2).toNatClampNeg) rfl (pc' := 26) rfl ?_
  refine st_aload (pc' := 27) rfl rfl rfl ?_
  refine st_getfr (x := some a2) (Or.inl rfl) rfl hs0 rfl hr4 (pc' := 30) rfl ?_
  refine st_aload (pc' := 31) rfl rfl rfl ?_
  refine st_getfi (Or.inl rfl) rfl hs0 rfl (pc' := 34) rfl ?_
  refine st_ipush (pc' := 36) (v := 8) rfl rfl (by decide) ?_
  refine st_iload (pc' := 37) rfl rfl rfl ?_
  refine st_imul (pc' := 38) rfl rfl ?_
  refine st_iload (pc' := 39) rfl rfl rfl ?_
  refine st_iadd (pc' := 40) rfl rfl ?_
  refine st_iastore rfl hs5 hb6 (j := (h_i (w_i h a0 ((((8 : Int32) * x1) + x2).toNatClampNeg) ((1 : Int32) &&& 1)) r0 74).toNatClampNeg) rfl (pc' := 41) rfl ?_
  refine st_aload (pc' := 42) rfl rfl rfl ?_
  refine st_dup (pc' := 43) rfl rfl rfl ?_
  refine st_getfi (Or.inl rfl) rfl hs0 rfl (pc' := 46) rfl ?_
  refine st_ipush (pc' := 47) (v := 1) rfl rfl (by decide) ?_
  refine st_iadd (pc' := 48) rfl rfl ?_
  refine st_putf (h' := w_i (w_i (w_i h a0 ((((8 : Int32) * x1) + x2).toNatClampNeg) ((1 : Int32) &&& 1)) a2 ((h_i (w_i h a0 ((((8 : Int32) * x1) + x2).toNatClampNeg) ((1 : Int32) &&& 1)) r0 74).toNatClampNeg) (((8 : Int32) * x1) + x2)) r0 74 ((h_i (w_i (w_i h a0 ((((8 : Int32) * x1) + x2).toNatClampNeg) ((1 : Int32) &&& 1)) a2 ((h_i (w_i h a0 ((((8 : Int32) * x1) + x2).toNatClampNeg) ((1 : Int32) &&& 1)) r0 74).toNatClampNeg) (((8 : Int32) * x1) + x2)) r0 74) + (1 : Int32))) (Or.inl rfl) rfl hs0 rfl rfl rfl (pc' := 51) rfl ?_
  exact k
theorem B_Md_comesIn_51 {d : Nat} {h : PH} {Q : PQ} {r0 : Nat} {x1 : Int32} {x2 : Int32}  (k : Q (some (.int 1)) h) : wpx d P_Md_comesIn 51 [.ref r0, .int x1, .int x2] [] h Q := by
  refine st_ipush (pc' := 52) (v := 1) rfl rfl (by decide) ?_
  exact st_ireturn (ty := .boolean) rfl rfl (by decide) k
theorem B_Md_partsNow_0 {d : Nat} {h : PH} {Q : PQ} {r0 : Nat} {v1 : Value} {v2 : Value} {v3 : Value} {v4 : Value} {v5 : Value} (hs0 : h_sh h r0 = some (0, 12)) (k : wpx d P_Md_partsNow 7 [.ref r0, .int 0, v2, v3, v4, v5] [] (w_i h r0 74 0) Q) : wpx d P_Md_partsNow 0 [.ref r0, v1, v2, v3, v4, v5] [] h Q := by
  refine st_aload (pc' := 1) rfl rfl rfl ?_
  refine st_ipush (pc' := 2) (v := 0) rfl rfl (by decide) ?_
  refine st_putf (h' := w_i h r0 74 0) (Or.inl rfl) rfl hs0 rfl rfl rfl (pc' := 5) rfl ?_
  refine st_ipush (pc' := 6) (v := 0) rfl rfl (by decide) ?_
  refine st_istore (pc' := 7) (ls' := [.ref r0, .int 0, v2, v3, v4, v5]) rfl rfl (Nat.le_of_ble_eq_true rfl) rfl ?_
  exact k
theorem B_Md_partsNow_7 {d : Nat} {h : PH} {Q : PQ} {r0 : Nat} {x1 : Int32} {v2 : Value} {v3 : Value} {v4 : Value} {v5 : Value}  (kt : (112 : Int32) ≤ x1 → wpx d P_Md_partsNow 26 [.ref r0, .int x1, v2, v3, v4, v5] [] h Q) (kf : ¬ ((112 : Int32) ≤ x1) → wpx d P_Md_partsNow 13 [.ref r0, .int x1, v2, v3, v4, v5] [] h Q) : wpx d P_Md_partsNow 7 [.ref r0, .int x1, v2, v3, v4, v5] [] h Q := by
  refine st_iload (pc' := 8) rfl rfl rfl ?_
  refine st_ipush (pc' := 10) (v := 112) rfl rfl (by decide) ?_
  exact st_icmp_ge (pc' := 13) rfl rfl kt kf
theorem B_Md_partsNow_13 {d : Nat} {h : PH} {Q : PQ} {r0 : Nat} {x1 : Int32} {v2 : Value} {v3 : Value} {v4 : Value} {v5 : Value} {a0 : Nat} {n1 : Nat} (hs0 : h_sh h r0 = some (0, 12)) (hr1 : h_r h r0 73 = some a0) (hs2 : h_sh h a0 = some (3, n1)) (hb3 : vp_in x1 n1) (k : wpx d P_Md_partsNow 7 [.ref r0, .int (x1 + 1), v2, v3, v4, v5] [] (w_i h a0 x1.toNatClampNeg ((0 : Int32) &&& 1)) Q) : wpx d P_Md_partsNow 13 [.ref r0, .int x1, v2, v3, v4, v5] [] h Q := by
  refine st_aload (pc' := 14) rfl rfl rfl ?_
  refine st_getfr (x := some a0) (Or.inl rfl) rfl hs0 rfl hr1 (pc' := 17) rfl ?_
  refine st_iload (pc' := 18) rfl rfl rfl ?_
  refine st_ipush (pc' := 19) (v := 0) rfl rfl (by decide) ?_
  refine st_zastore rfl hs2 hb3 (j := x1.toNatClampNeg) rfl (pc' := 20) rfl ?_
  refine st_iinc (pc' := 23) (v := 1) (ls' := [.ref r0, .int (x1 + 1), v2, v3, v4, v5]) rfl rfl rfl (by decide) rfl ?_
  exact st_goto rfl k
theorem B_Md_partsNow_26 {d : Nat} {h : PH} {Q : PQ} {r0 : Nat} {x1 : Int32} {v2 : Value} {v3 : Value} {v4 : Value} {v5 : Value}  (k : wpx d P_Md_partsNow 28 [.ref r0, .int 0, v2, v3, v4, v5] [] h Q) : wpx d P_Md_partsNow 26 [.ref r0, .int x1, v2, v3, v4, v5] [] h Q := by
  refine st_ipush (pc' := 27) (v := 0) rfl rfl (by decide) ?_
  refine st_istore (pc' := 28) (ls' := [.ref r0, .int 0, v2, v3, v4, v5]) rfl rfl (Nat.le_of_ble_eq_true rfl) rfl ?_
  exact k
theorem B_Md_partsNow_28 {d : Nat} {h : PH} {Q : PQ} {r0 : Nat} {x1 : Int32} {v2 : Value} {v3 : Value} {v4 : Value} {v5 : Value} (hs0 : h_sh h r0 = some (0, 12)) (kt : (h_i h r0 4) ≤ x1 → wpx d P_Md_partsNow 106 [.ref r0, .int x1, v2, v3, v4, v5] [] h Q) (kf : ¬ ((h_i h r0 4) ≤ x1) → wpx d P_Md_partsNow 36 [.ref r0, .int x1, v2, v3, v4, v5] [] h Q) : wpx d P_Md_partsNow 28 [.ref r0, .int x1, v2, v3, v4, v5] [] h Q := by
  refine st_iload (pc' := 29) rfl rfl rfl ?_
  refine st_aload (pc' := 30) rfl rfl rfl ?_
  refine st_getfi (Or.inl rfl) rfl hs0 rfl (pc' := 33) rfl ?_
  exact st_icmp_ge (pc' := 36) rfl rfl kt kf
theorem B_Md_partsNow_36 {d : Nat} {h : PH} {Q : PQ} {r0 : Nat} {x1 : Int32} {v2 : Value} {v3 : Value} {v4 : Value} {v5 : Value}  (k : wpx d P_Md_partsNow 38 [.ref r0, .int x1, .int 0, v3, v4, v5] [] h Q) : wpx d P_Md_partsNow 36 [.ref r0, .int x1, v2, v3, v4, v5] [] h Q := by
  refine st_ipush (pc' := 37) (v := 0) rfl rfl (by decide) ?_
  refine st_istore (pc' := 38) (ls' := [.ref r0, .int x1, .int 0, v3, v4, v5]) rfl rfl (Nat.le_of_ble_eq_true rfl) rfl ?_
  exact k
theorem B_Md_partsNow_38 {d : Nat} {h : PH} {Q : PQ} {r0 : Nat} {x1 : Int32} {x2 : Int32} {v3 : Value} {v4 : Value} {v5 : Value} (hs0 : h_sh h r0 = some (0, 12)) (kt : (h_i h r0 4) ≤ x2 → wpx d P_Md_partsNow 100 [.ref r0, .int x1, .int x2, v3, v4, v5] [] h Q) (kf : ¬ ((h_i h r0 4) ≤ x2) → wpx d P_Md_partsNow 46 [.ref r0, .int x1, .int x2, v3, v4, v5] [] h Q) : wpx d P_Md_partsNow 38 [.ref r0, .int x1, .int x2, v3, v4, v5] [] h Q := by
  refine st_iload (pc' := 39) rfl rfl rfl ?_
  refine st_aload (pc' := 40) rfl rfl rfl ?_
  refine st_getfi (Or.inl rfl) rfl hs0 rfl (pc' := 43) rfl ?_
  exact st_icmp_ge (pc' := 46) rfl rfl kt kf
theorem B_Md_partsNow_46 {d : Nat} {h : PH} {Q : PQ} {r0 : Nat} {x1 : Int32} {x2 : Int32} {v3 : Value} {v4 : Value} {v5 : Value}  (kt : x1 = x2 → wpx d P_Md_partsNow 94 [.ref r0, .int x1, .int x2, v3, v4, v5] [] h Q) (kf : ¬ (x1 = x2) → wpx d P_Md_partsNow 51 [.ref r0, .int x1, .int x2, v3, v4, v5] [] h Q) : wpx d P_Md_partsNow 46 [.ref r0, .int x1, .int x2, v3, v4, v5] [] h Q := by
  refine st_iload (pc' := 47) rfl rfl rfl ?_
  refine st_iload (pc' := 48) rfl rfl rfl ?_
  exact st_icmp_eq (pc' := 51) rfl rfl kt kf
theorem B_Md_partsNow_51 {d : Nat} {h : PH} {Q : PQ} {r0 : Nat} {x1 : Int32} {x2 : Int32} {v3 : Value} {v4 : Value} {v5 : Value} (hs0 : h_sh h r0 = some (0, 12)) (k : wpm d 171 [.int (h_i h r0 6), .int x1] h (fun r h' => wpx d P_Md_partsNow 59 [.ref r0, .int x1, .int x2, v3, v4, v5] (r.toList ++ []) h' Q)) : wpx d P_Md_partsNow 51 [.ref r0, .int x1, .int x2, v3, v4, v5] [] h Q := by
  refine st_aload (pc' := 52) rfl rfl rfl ?_
  refine st_getfi (Or.inl rfl) rfl hs0 rfl (pc' := 55) rfl ?_
  refine st_iload (pc' := 56) rfl rfl rfl ?_
  exact st_call (pc' := 59) (as := [.int (h_i h r0 6), .int x1]) (rest := []) rfl rfl (Nat.le_of_ble_eq_true rfl) rfl rfl (Nat.le_of_ble_eq_true rfl) (kd := 0) (o := 12) rfl rfl rfl k
theorem B_Md_partsNow_59 {d : Nat} {h : PH} {Q : PQ} {r0 : Nat} {x1 : Int32} {x2 : Int32} {v3 : Value} {v4 : Value} {v5 : Value} {s0 : Int32}  (kt : s0 = 0 → wpx d P_Md_partsNow 94 [.ref r0, .int x1, .int x2, v3, v4, v5] [] h Q) (kf : ¬ (s0 = 0) → wpx d P_Md_partsNow 62 [.ref r0, .int x1, .int x2, v3, v4, v5] [] h Q) : wpx d P_Md_partsNow 59 [.ref r0, .int x1, .int x2, v3, v4, v5] [.int s0] h Q := by
  exact st_if_eq (pc' := 62) rfl rfl kt kf
theorem B_Md_partsNow_62 {d : Nat} {h : PH} {Q : PQ} {r0 : Nat} {x1 : Int32} {x2 : Int32} {v3 : Value} {v4 : Value} {v5 : Value} (hs0 : h_sh h r0 = some (0, 12)) (k : wpm d 171 [.int (h_i h r0 6), .int x2] h (fun r h' => wpx d P_Md_partsNow 70 [.ref r0, .int x1, .int x2, v3, v4, v5] (r.toList ++ []) h' Q)) : wpx d P_Md_partsNow 62 [.ref r0, .int x1, .int x2, v3, v4, v5] [] h Q := by
  refine st_aload (pc' := 63) rfl rfl rfl ?_
  refine st_getfi (Or.inl rfl) rfl hs0 rfl (pc' := 66) rfl ?_
  refine st_iload (pc' := 67) rfl rfl rfl ?_
  exact st_call (pc' := 70) (as := [.int (h_i h r0 6), .int x2]) (rest := []) rfl rfl (Nat.le_of_ble_eq_true rfl) rfl rfl (Nat.le_of_ble_eq_true rfl) (kd := 0) (o := 12) rfl rfl rfl k
theorem B_Md_partsNow_70 {d : Nat} {h : PH} {Q : PQ} {r0 : Nat} {x1 : Int32} {x2 : Int32} {v3 : Value} {v4 : Value} {v5 : Value} {s0 : Int32}  (kt : s0 = 0 → wpx d P_Md_partsNow 94 [.ref r0, .int x1, .int x2, v3, v4, v5] [] h Q) (kf : ¬ (s0 = 0) → wpx d P_Md_partsNow 73 [.ref r0, .int x1, .int x2, v3, v4, v5] [] h Q) : wpx d P_Md_partsNow 70 [.ref r0, .int x1, .int x2, v3, v4, v5] [.int s0] h Q := by
  exact st_if_eq (pc' := 73) rfl rfl kt kf
theorem B_Md_partsNow_73 {d : Nat} {h : PH} {Q : PQ} {r0 : Nat} {x1 : Int32} {x2 : Int32} {v3 : Value} {v4 : Value} {v5 : Value} (hs0 : h_sh h r0 = some (0, 12)) (k : wpm d 200 [.ref r0, .int x1, .int x2] h (fun r h' => wpx d P_Md_partsNow 79 [.ref r0, .int x1, .int x2, v3, v4, v5] (r.toList ++ []) h' Q)) : wpx d P_Md_partsNow 73 [.ref r0, .int x1, .int x2, v3, v4, v5] [] h Q := by
  refine st_aload (pc' := 74) rfl rfl rfl ?_
  refine st_iload (pc' := 75) rfl rfl rfl ?_
  refine st_iload (pc' := 76) rfl rfl rfl ?_
  exact st_call (pc' := 79) (as := [.ref r0, .int x1, .int x2]) (rest := []) rfl rfl (Nat.le_of_ble_eq_true rfl) rfl rfl (Nat.le_of_ble_eq_true rfl) (kd := 1) (o := 12) rfl rfl (beq_iff_eq.mpr hs0) k
theorem B_Md_partsNow_79 {d : Nat} {h : PH} {Q : PQ} {r0 : Nat} {x1 : Int32} {x2 : Int32} {v3 : Value} {v4 : Value} {v5 : Value} {s0 : Int32}  (kt : s0 = 0 → wpx d P_Md_partsNow 94 [.ref r0, .int x1, .int x2, v3, v4, v5] [] h Q) (kf : ¬ (s0 = 0) → wpx d P_Md_partsNow 82 [.ref r0, .int x1, .int x2, v3, v4, v5] [] h Q) : wpx d P_Md_partsNow 79 [.ref r0, .int x1, .int x2, v3, v4, v5] [.int s0] h Q := by
  exact st_if_eq (pc' := 82) rfl rfl kt kf
theorem B_Md_partsNow_82 {d : Nat} {h : PH} {Q : PQ} {r0 : Nat} {x1 : Int32} {x2 : Int32} {v3 : Value} {v4 : Value} {v5 : Value} {a0 : Nat} {n1 : Nat} (hs0 : h_sh h r0 = some (0, 12)) (hr1 : h_r h r0 2 = some a0) (hs2 : h_sh h a0 = some (1, n1)) (hb3 : vp_in x1 n1) (k : wpm d 270 [.ref r0, .int x2, .int (h_i h a0 x1.toNatClampNeg)] h (fun r h' => wpx d P_Md_partsNow 93 [.ref r0, .int x1, .int x2, v3, v4, v5] (r.toList ++ []) h' Q)) : wpx d P_Md_partsNow 82 [.ref r0, .int x1, .int x2, v3, v4, v5] [] h Q := by
  refine st_aload (pc' := 83) rfl rfl rfl ?_
  refine st_iload (pc' := 84) rfl rfl rfl ?_
  refine st_aload (pc' := 85) rfl rfl rfl ?_
  refine st_getfr (x := some a0) (Or.inl rfl) rfl hs0 rfl hr1 (pc' := 88) rfl ?_
  refine st_iload (pc' := 89) rfl rfl rfl ?_
  refine st_iaload rfl hs2 hb3 (j := x1.toNatClampNeg) rfl (pc' := 90) rfl ?_
  exact st_call (pc' := 93) (as := [.ref r0, .int x2, .int (h_i h a0 x1.toNatClampNeg)]) (rest := []) rfl rfl (Nat.le_of_ble_eq_true rfl) rfl rfl (Nat.le_of_ble_eq_true rfl) (kd := 1) (o := 12) rfl rfl (beq_iff_eq.mpr hs0) k
theorem B_Md_partsNow_93 {d : Nat} {h : PH} {Q : PQ} {r0 : Nat} {x1 : Int32} {x2 : Int32} {v3 : Value} {v4 : Value} {v5 : Value} {s0 : Int32}  (k : wpx d P_Md_partsNow 94 [.ref r0, .int x1, .int x2, v3, v4, v5] [] h Q) : wpx d P_Md_partsNow 93 [.ref r0, .int x1, .int x2, v3, v4, v5] [.int s0] h Q := by
  refine st_pop (pc' := 94) rfl rfl rfl ?_
  exact k
theorem B_Md_partsNow_94 {d : Nat} {h : PH} {Q : PQ} {r0 : Nat} {x1 : Int32} {x2 : Int32} {v3 : Value} {v4 : Value} {v5 : Value}  (k : wpx d P_Md_partsNow 38 [.ref r0, .int x1, .int (x2 + 1), v3, v4, v5] [] h Q) : wpx d P_Md_partsNow 94 [.ref r0, .int x1, .int x2, v3, v4, v5] [] h Q := by
  refine st_iinc (pc' := 97) (v := 1) (ls' := [.ref r0, .int x1, .int (x2 + 1), v3, v4, v5]) rfl rfl rfl (by decide) rfl ?_
  exact st_goto rfl k
theorem B_Md_partsNow_100 {d : Nat} {h : PH} {Q : PQ} {r0 : Nat} {x1 : Int32} {x2 : Int32} {v3 : Value} {v4 : Value} {v5 : Value}  (k : wpx d P_Md_partsNow 28 [.ref r0, .int (x1 + 1), .int x2, v3, v4, v5] [] h Q) : wpx d P_Md_partsNow 100 [.ref r0, .int x1, .int x2, v3, v4, v5] [] h Q := by
  refine st_iinc (pc' := 103) (v := 1) (ls' := [.ref r0, .int (x1 + 1), .int x2, v3, v4, v5]) rfl rfl rfl (by decide) rfl ?_
  exact st_goto rfl k
theorem B_Md_partsNow_106 {d : Nat} {h : PH} {Q : PQ} {r0 : Nat} {x1 : Int32} {v2 : Value} {v3 : Value} {v4 : Value} {v5 : Value}  (k : wpx d P_Md_partsNow 108 [.ref r0, .int 0, v2, v3, v4, v5] [] h Q) : wpx d P_Md_partsNow 106 [.ref r0, .int x1, v2, v3, v4, v5] [] h Q := by
  refine st_ipush (pc' := 107) (v := 0) rfl rfl (by decide) ?_
  refine st_istore (pc' := 108) (ls' := [.ref r0, .int 0, v2, v3, v4, v5]) rfl rfl (Nat.le_of_ble_eq_true rfl) rfl ?_
  exact k
theorem B_Md_partsNow_108 {d : Nat} {h : PH} {Q : PQ} {r0 : Nat} {x1 : Int32} {v2 : Value} {v3 : Value} {v4 : Value} {v5 : Value} (hs0 : h_sh h r0 = some (0, 12)) (kt : (h_i h r0 74) ≤ x1 → wpx d P_Md_partsNow 269 [.ref r0, .int x1, v2, v3, v4, v5] [] h Q) (kf : ¬ ((h_i h r0 74) ≤ x1) → wpx d P_Md_partsNow 116 [.ref r0, .int x1, v2, v3, v4, v5] [] h Q) : wpx d P_Md_partsNow 108 [.ref r0, .int x1, v2, v3, v4, v5] [] h Q := by
  refine st_iload (pc' := 109) rfl rfl rfl ?_
  refine st_aload (pc' := 110) rfl rfl rfl ?_
  refine st_getfi (Or.inl rfl) rfl hs0 rfl (pc' := 113) rfl ?_
  exact st_icmp_ge (pc' := 116) rfl rfl kt kf
theorem B_Md_partsNow_116 {d : Nat} {h : PH} {Q : PQ} {r0 : Nat} {x1 : Int32} {v2 : Value} {v3 : Value} {v4 : Value} {v5 : Value} {a0 : Nat} {n1 : Nat} (hs0 : h_sh h r0 = some (0, 12)) (hr1 : h_r h r0 72 = some a0) (hs2 : h_sh h a0 = some (1, n1)) (hb3 : vp_in x1 n1) (k : wpx d P_Md_partsNow 139 [.ref r0, .int x1, .int ((h_i h a0 x1.toNatClampNeg) / (8 : Int32)), .int ((h_i h a0 x1.toNatClampNeg) - (h_i h a0 x1.toNatClampNeg) / (8 : Int32) * (8 : Int32)), .int 0, v5] [] h Q) : wpx d P_Md_partsNow 116 [.ref r0, .int x1, v2, v3, v4, v5] [] h Q := by
  refine st_aload (pc' := 117) rfl rfl rfl ?_
  refine st_getfr (x := some a0) (Or.inl rfl) rfl hs0 rfl hr1 (pc' := 120) rfl ?_
  refine st_iload (pc' := 121) rfl rfl rfl ?_
  refine st_iaload rfl hs2 hb3 (j := x1.toNatClampNeg) rfl (pc' := 122) rfl ?_
  refine st_ipush (pc' := 124) (v := 8) rfl rfl (by decide) ?_
  refine st_idiv rfl (by decide) (pc' := 125) rfl ?_
  refine st_istore (pc' := 126) (ls' := [.ref r0, .int x1, .int ((h_i h a0 x1.toNatClampNeg) / (8 : Int32)), v3, v4, v5]) rfl rfl (Nat.le_of_ble_eq_true rfl) rfl ?_
  refine st_aload (pc' := 127) rfl rfl rfl ?_
  refine st_getfr (x := some a0) (Or.inl rfl) rfl hs0 rfl hr1 (pc' := 130) rfl ?_
  refine st_iload (pc' := 131) rfl rfl rfl ?_
  refine st_iaload rfl hs2 hb3 (j := x1.toNatClampNeg) rfl (pc' := 132) rfl ?_
  refine st_ipush (pc' := 134) (v := 8) rfl rfl (by decide) ?_
  refine st_irem rfl (by decide) (pc' := 135) rfl ?_
  refine st_istore (pc' := 136) (ls' := [.ref r0, .int x1, .int ((h_i h a0 x1.toNatClampNeg) / (8 : Int32)), .int ((h_i h a0 x1.toNatClampNeg) - (h_i h a0 x1.toNatClampNeg) / (8 : Int32) * (8 : Int32)), v4, v5]) rfl rfl (Nat.le_of_ble_eq_true rfl) rfl ?_
  refine st_ipush (pc' := 137) (v := 0) rfl rfl (by decide) ?_
  refine st_istore (pc' := 139) (ls' := [.ref r0, .int x1, .int ((h_i h a0 x1.toNatClampNeg) / (8 : Int32)), .int ((h_i h a0 x1.toNatClampNeg) - (h_i h a0 x1.toNatClampNeg) / (8 : Int32) * (8 : Int32)), .int 0, v5]) rfl rfl (Nat.le_of_ble_eq_true rfl) rfl ?_
  exact k
theorem B_Md_partsNow_139 {d : Nat} {h : PH} {Q : PQ} {r0 : Nat} {x1 : Int32} {x2 : Int32} {x3 : Int32} {x4 : Int32} {v5 : Value} (hs0 : h_sh h r0 = some (0, 12)) (kt : (h_i h r0 4) ≤ x4 → wpx d P_Md_partsNow 263 [.ref r0, .int x1, .int x2, .int x3, .int x4, v5] [] h Q) (kf : ¬ ((h_i h r0 4) ≤ x4) → wpx d P_Md_partsNow 148 [.ref r0, .int x1, .int x2, .int x3, .int x4, v5] [] h Q) : wpx d P_Md_partsNow 139 [.ref r0, .int x1, .int x2, .int x3, .int x4, v5] [] h Q := by
  refine st_iload (pc' := 141) rfl rfl rfl ?_
  refine st_aload (pc' := 142) rfl rfl rfl ?_
  refine st_getfi (Or.inl rfl) rfl hs0 rfl (pc' := 145) rfl ?_
  exact st_icmp_ge (pc' := 148) rfl rfl kt kf
theorem B_Md_partsNow_148 {d : Nat} {h : PH} {Q : PQ} {r0 : Nat} {x1 : Int32} {x2 : Int32} {x3 : Int32} {x4 : Int32} {v5 : Value} (hs0 : h_sh h r0 = some (0, 12)) (k : wpm d 171 [.int (h_i h r0 6), .int x4] h (fun r h' => wpx d P_Md_partsNow 157 [.ref r0, .int x1, .int x2, .int x3, .int x4, v5] (r.toList ++ []) h' Q)) : wpx d P_Md_partsNow 148 [.ref r0, .int x1, .int x2, .int x3, .int x4, v5] [] h Q := by
  refine st_aload (pc' := 149) rfl rfl rfl ?_
  refine st_getfi (Or.inl rfl) rfl hs0 rfl (pc' := 152) rfl ?_
  refine st_iload (pc' := 154) rfl rfl rfl ?_
  exact st_call (pc' := 157) (as := [.int (h_i h r0 6), .int x4]) (rest := []) rfl rfl (Nat.le_of_ble_eq_true rfl) rfl rfl (Nat.le_of_ble_eq_true rfl) (kd := 0) (o := 12) rfl rfl rfl k
theorem B_Md_partsNow_157 {d : Nat} {h : PH} {Q : PQ} {r0 : Nat} {x1 : Int32} {x2 : Int32} {x3 : Int32} {x4 : Int32} {v5 : Value} {s0 : Int32}  (kt : s0 = 0 → wpx d P_Md_partsNow 172 [.ref r0, .int x1, .int x2, .int x3, .int x4, v5] [] h Q) (kf : ¬ (s0 = 0) → wpx d P_Md_partsNow 160 [.ref r0, .int x1, .int x2, .int x3, .int x4, v5] [] h Q) : wpx d P_Md_partsNow 157 [.ref r0, .int x1, .int x2, .int x3, .int x4, v5] [.int s0] h Q := by
  exact st_if_eq (pc' := 160) rfl rfl kt kf
theorem B_Md_partsNow_160 {d : Nat} {h : PH} {Q : PQ} {r0 : Nat} {x1 : Int32} {x2 : Int32} {x3 : Int32} {x4 : Int32} {v5 : Value} (hs0 : h_sh h r0 = some (0, 12)) (k : wpm d 176 [.ref r0, .int x4, .int 0, .int x2, .int x3] h (fun r h' => wpx d P_Md_partsNow 169 [.ref r0, .int x1, .int x2, .int x3, .int x4, v5] (r.toList ++ []) h' Q)) : wpx d P_Md_partsNow 160 [.ref r0, .int x1, .int x2, .int x3, .int x4, v5] [] h Q := by
  refine st_aload (pc' := 161) rfl rfl rfl ?_
  refine st_iload (pc' := 163) rfl rfl rfl ?_
  refine st_ipush (pc' := 164) (v := 0) rfl rfl (by decide) ?_
  refine st_iload (pc' := 165) rfl rfl rfl ?_
  refine st_iload (pc' := 166) rfl rfl rfl ?_
  exact st_call (pc' := 169) (as := [.ref r0, .int x4, .int 0, .int x2, .int x3]) (rest := []) rfl rfl (Nat.le_of_ble_eq_true rfl) rfl rfl (Nat.le_of_ble_eq_true rfl) (kd := 1) (o := 12) rfl rfl (beq_iff_eq.mpr hs0) k
theorem B_Md_partsNow_169 {d : Nat} {h : PH} {Q : PQ} {r0 : Nat} {x1 : Int32} {x2 : Int32} {x3 : Int32} {x4 : Int32} {v5 : Value} {s0 : Int32}  (k : wpx d P_Md_partsNow 173 [.ref r0, .int x1, .int x2, .int x3, .int x4, v5] [.int s0] h Q) : wpx d P_Md_partsNow 169 [.ref r0, .int x1, .int x2, .int x3, .int x4, v5] [.int s0] h Q := by
  exact st_goto rfl k
theorem B_Md_partsNow_172 {d : Nat} {h : PH} {Q : PQ} {r0 : Nat} {x1 : Int32} {x2 : Int32} {x3 : Int32} {x4 : Int32} {v5 : Value}  (k : wpx d P_Md_partsNow 173 [.ref r0, .int x1, .int x2, .int x3, .int x4, v5] [.int 0] h Q) : wpx d P_Md_partsNow 172 [.ref r0, .int x1, .int x2, .int x3, .int x4, v5] [] h Q := by
  refine st_ipush (pc' := 173) (v := 0) rfl rfl (by decide) ?_
  exact k
theorem B_Md_partsNow_173 {d : Nat} {h : PH} {Q : PQ} {r0 : Nat} {x1 : Int32} {x2 : Int32} {x3 : Int32} {x4 : Int32} {v5 : Value} {s0 : Int32}  (kt : ¬ (s0 = 0) → wpx d P_Md_partsNow 183 [.ref r0, .int x1, .int x2, .int x3, .int x4, .int s0] [] h Q) (kf : s0 = 0 → wpx d P_Md_partsNow 180 [.ref r0, .int x1, .int x2, .int x3, .int x4, .int s0] [] h Q) : wpx d P_Md_partsNow 173 [.ref r0, .int x1, .int x2, .int x3, .int x4, v5] [.int s0] h Q := by
  refine st_istore (pc' := 175) (ls' := [.ref r0, .int x1, .int x2, .int x3, .int x4, .int s0]) rfl rfl (Nat.le_of_ble_eq_true rfl) rfl ?_
  refine st_iload (pc' := 177) rfl rfl rfl ?_
  exact st_if_ne (pc' := 180) rfl rfl kt kf
theorem B_Md_partsNow_180 {d : Nat} {h : PH} {Q : PQ} {r0 : Nat} {x1 : Int32} {x2 : Int32} {x3 : Int32} {x4 : Int32} {x5 : Int32}  (k : wpx d P_Md_partsNow 257 [.ref r0, .int x1, .int x2, .int x3, .int x4, .int x5] [] h Q) : wpx d P_Md_partsNow 180 [.ref r0, .int x1, .int x2, .int x3, .int x4, .int x5] [] h Q := by
  exact st_goto rfl k
theorem B_Md_partsNow_183 {d : Nat} {h : PH} {Q : PQ} {r0 : Nat} {x1 : Int32} {x2 : Int32} {x3 : Int32} {x4 : Int32} {x5 : Int32} {a0 : Nat} {n1 : Nat} (hs0 : h_sh h r0 = some (0, 12)) (hr1 : h_r h r0 2 = some a0) (hs2 : h_sh h a0 = some (1, n1)) (hb3 : vp_in x4 n1) (kt : ¬ (x5 = (h_i h a0 x4.toNatClampNeg)) → wpx d P_Md_partsNow 210 [.ref r0, .int x1, .int x2, .int x3, .int x4, .int x5] [] h Q) (kf : x5 = (h_i h a0 x4.toNatClampNeg) → wpx d P_Md_partsNow 195 [.ref r0, .int x1, .int x2, .int x3, .int x4, .int x5] [] h Q) : wpx d P_Md_partsNow 183 [.ref r0, .int x1, .int x2, .int x3, .int x4, .int x5] [] h Q := by
  refine st_iload (pc' := 185) rfl rfl rfl ?_
  refine st_aload (pc' := 186) rfl rfl rfl ?_
  refine st_getfr (x := some a0) (Or.inl rfl) rfl hs0 rfl hr1 (pc' := 189) rfl ?_
  refine st_iload (pc' := 191) rfl rfl rfl ?_
  refine st_iaload rfl hs2 hb3 (j := x4.toNatClampNeg) rfl (pc' := 192) rfl ?_
  exact st_icmp_ne (pc' := 195) rfl rfl kt kf
theorem B_Md_partsNow_195 {d : Nat} {h : PH} {Q : PQ} {r0 : Nat} {x1 : Int32} {x2 : Int32} {x3 : Int32} {x4 : Int32} {x5 : Int32} {a0 : Nat} {n1 : Nat} (hs0 : h_sh h r0 = some (0, 12)) (hr1 : h_r h r0 2 = some a0) (hs2 : h_sh h a0 = some (1, n1)) (hb3 : vp_in x2 n1) (kt : ¬ (x5 = ((h_i h a0 x2.toNatClampNeg) - x3)) → wpx d P_Md_partsNow 210 [.ref r0, .int x1, .int x2, .int x3, .int x4, .int x5] [] h Q) (kf : x5 = ((h_i h a0 x2.toNatClampNeg) - x3) → wpx d P_Md_partsNow 208 [.ref r0, .int x1, .int x2, .int x3, .int x4, .int x5] [] h Q) : wpx d P_Md_partsNow 195 [.ref r0, .int x1, .int x2, .int x3, .int x4, .int x5] [] h Q := by
  refine st_iload (pc' := 197) rfl rfl rfl ?_
  refine st_aload (pc' := 198) rfl rfl rfl ?_
  refine st_getfr (x := some a0) (Or.inl rfl) rfl hs0 rfl hr1 (pc' := 201) rfl ?_
  refine st_iload (pc' := 202) rfl rfl rfl ?_
  refine st_iaload rfl hs2 hb3 (j := x2.toNatClampNeg) rfl (pc' := 203) rfl ?_
  refine st_iload (pc' := 204) rfl rfl rfl ?_
  refine st_isub (pc' := 205) rfl rfl ?_
  exact st_icmp_ne (pc' := 208) rfl rfl kt kf
theorem B_Md_partsNow_208 {d : Nat} {h : PH} {Q : PQ} {r0 : Nat} {x1 : Int32} {x2 : Int32} {x3 : Int32} {x4 : Int32} {x5 : Int32}  (k : Q (some (.int 0)) h) : wpx d P_Md_partsNow 208 [.ref r0, .int x1, .int x2, .int x3, .int x4, .int x5] [] h Q := by
  refine st_ipush (pc' := 209) (v := 0) rfl rfl (by decide) ?_
  exact st_ireturn (ty := .boolean) rfl rfl (by decide) k
theorem B_Md_partsNow_210 {d : Nat} {h : PH} {Q : PQ} {r0 : Nat} {x1 : Int32} {x2 : Int32} {x3 : Int32} {x4 : Int32} {x5 : Int32} {a0 : Nat} {n1 : Nat} (hs0 : h_sh h r0 = some (0, 12)) (hr1 : h_r h r0 2 = some a0) (hs2 : h_sh h a0 = some (1, n1)) (hb3 : vp_in x4 n1) (kt : ¬ (x5 = (h_i h a0 x4.toNatClampNeg)) → wpx d P_Md_partsNow 235 [.ref r0, .int x1, .int x2, .int x3, .int x4, .int x5] [] h Q) (kf : x5 = (h_i h a0 x4.toNatClampNeg) → wpx d P_Md_partsNow 222 [.ref r0, .int x1, .int x2, .int x3, .int x4, .int x5] [] h Q) : wpx d P_Md_partsNow 210 [.ref r0, .int x1, .int x2, .int x3, .int x4, .int x5] [] h Q := by
  refine st_iload (pc' := 212) rfl rfl rfl ?_
  refine st_aload (pc' := 213) rfl rfl rfl ?_
  refine st_getfr (x := some a0) (Or.inl rfl) rfl hs0 rfl hr1 (pc' := 216) rfl ?_
  refine st_iload (pc' := 218) rfl rfl rfl ?_
  refine st_iaload rfl hs2 hb3 (j := x4.toNatClampNeg) rfl (pc' := 219) rfl ?_
  exact st_icmp_ne (pc' := 222) rfl rfl kt kf
theorem B_Md_partsNow_222 {d : Nat} {h : PH} {Q : PQ} {r0 : Nat} {x1 : Int32} {x2 : Int32} {x3 : Int32} {x4 : Int32} {x5 : Int32} (hs0 : h_sh h r0 = some (0, 12)) (k : wpm d 270 [.ref r0, .int x2, .int (x3 + x5)] h (fun r h' => wpx d P_Md_partsNow 231 [.ref r0, .int x1, .int x2, .int x3, .int x4, .int x5] (r.toList ++ []) h' Q)) : wpx d P_Md_partsNow 222 [.ref r0, .int x1, .int x2, .int x3, .int x4, .int x5] [] h Q := by
  refine st_aload (pc' := 223) rfl rfl rfl ?_
  refine st_iload (pc' := 224) rfl rfl rfl ?_
  refine st_iload (pc' := 225) rfl rfl rfl ?_
  refine st_iload (pc' := 227) rfl rfl rfl ?_
  refine st_iadd (pc' := 228) rfl rfl ?_
  exact st_call (pc' := 231) (as := [.ref r0, .int x2, .int (x3 + x5)]) (rest := []) rfl rfl (Nat.le_of_ble_eq_true rfl) rfl rfl (Nat.le_of_ble_eq_true rfl) (kd := 1) (o := 12) rfl rfl (beq_iff_eq.mpr hs0) k
theorem B_Md_partsNow_231 {d : Nat} {h : PH} {Q : PQ} {r0 : Nat} {x1 : Int32} {x2 : Int32} {x3 : Int32} {x4 : Int32} {x5 : Int32} {s0 : Int32}  (k : wpx d P_Md_partsNow 257 [.ref r0, .int x1, .int x2, .int x3, .int x4, .int x5] [] h Q) : wpx d P_Md_partsNow 231 [.ref r0, .int x1, .int x2, .int x3, .int x4, .int x5] [.int s0] h Q := by
  refine st_pop (pc' := 232) rfl rfl rfl ?_
  exact st_goto rfl k
theorem B_Md_partsNow_235 {d : Nat} {h : PH} {Q : PQ} {r0 : Nat} {x1 : Int32} {x2 : Int32} {x3 : Int32} {x4 : Int32} {x5 : Int32} {a0 : Nat} {n1 : Nat} (hs0 : h_sh h r0 = some (0, 12)) (hr1 : h_r h r0 2 = some a0) (hs2 : h_sh h a0 = some (1, n1)) (hb3 : vp_in x2 n1) (kt : ¬ (x5 = ((h_i h a0 x2.toNatClampNeg) - x3)) → wpx d P_Md_partsNow 257 [.ref r0, .int x1, .int x2, .int x3, .int x4, .int x5] [] h Q) (kf : x5 = ((h_i h a0 x2.toNatClampNeg) - x3) → wpx d P_Md_partsNow 248 [.ref r0, .int x1, .int x2, .int x3, .int x4, .int x5] [] h Q) : wpx d P_Md_partsNow 235 [.ref r0, .int x1, .int x2, .int x3, .int x4, .int x5] [] h Q := by
  refine st_iload (pc' := 237) rfl rfl rfl ?_
  refine st_aload (pc' := 238) rfl rfl rfl ?_
  refine st_getfr (x := some a0) (Or.inl rfl) rfl hs0 rfl hr1 (pc' := 241) rfl ?_
  refine st_iload (pc' := 242) rfl rfl rfl ?_
  refine st_iaload rfl hs2 hb3 (j := x2.toNatClampNeg) rfl (pc' := 243) rfl ?_
  refine st_iload (pc' := 244) rfl rfl rfl ?_
  refine st_isub (pc' := 245) rfl rfl ?_
  exact st_icmp_ne (pc' := 248) rfl rfl kt kf
theorem B_Md_partsNow_248 {d : Nat} {h : PH} {Q : PQ} {r0 : Nat} {x1 : Int32} {x2 : Int32} {x3 : Int32} {x4 : Int32} {x5 : Int32} (hs0 : h_sh h r0 = some (0, 12)) (k : wpm d 270 [.ref r0, .int x4, .int x5] h (fun r h' => wpx d P_Md_partsNow 256 [.ref r0, .int x1, .int x2, .int x3, .int x4, .int x5] (r.toList ++ []) h' Q)) : wpx d P_Md_partsNow 248 [.ref r0, .int x1, .int x2, .int x3, .int x4, .int x5] [] h Q := by
  refine st_aload (pc' := 249) rfl rfl rfl ?_
  refine st_iload (pc' := 251) rfl rfl rfl ?_
  refine st_iload (pc' := 253) rfl rfl rfl ?_
  exact st_call (pc' := 256) (as := [.ref r0, .int x4, .int x5]) (rest := []) rfl rfl (Nat.le_of_ble_eq_true rfl) rfl rfl (Nat.le_of_ble_eq_true rfl) (kd := 1) (o := 12) rfl rfl (beq_iff_eq.mpr hs0) k
theorem B_Md_partsNow_256 {d : Nat} {h : PH} {Q : PQ} {r0 : Nat} {x1 : Int32} {x2 : Int32} {x3 : Int32} {x4 : Int32} {x5 : Int32} {s0 : Int32}  (k : wpx d P_Md_partsNow 257 [.ref r0, .int x1, .int x2, .int x3, .int x4, .int x5] [] h Q) : wpx d P_Md_partsNow 256 [.ref r0, .int x1, .int x2, .int x3, .int x4, .int x5] [.int s0] h Q := by
  refine st_pop (pc' := 257) rfl rfl rfl ?_
  exact k
theorem B_Md_partsNow_257 {d : Nat} {h : PH} {Q : PQ} {r0 : Nat} {x1 : Int32} {x2 : Int32} {x3 : Int32} {x4 : Int32} {x5 : Int32}  (k : wpx d P_Md_partsNow 139 [.ref r0, .int x1, .int x2, .int x3, .int (x4 + 1), .int x5] [] h Q) : wpx d P_Md_partsNow 257 [.ref r0, .int x1, .int x2, .int x3, .int x4, .int x5] [] h Q := by
  refine st_iinc (pc' := 260) (v := 1) (ls' := [.ref r0, .int x1, .int x2, .int x3, .int (x4 + 1), .int x5]) rfl rfl rfl (by decide) rfl ?_
  exact st_goto rfl k
theorem B_Md_partsNow_263 {d : Nat} {h : PH} {Q : PQ} {r0 : Nat} {x1 : Int32} {x2 : Int32} {x3 : Int32} {x4 : Int32} {v5 : Value}  (k : wpx d P_Md_partsNow 108 [.ref r0, .int (x1 + 1), .int x2, .int x3, .int x4, v5] [] h Q) : wpx d P_Md_partsNow 263 [.ref r0, .int x1, .int x2, .int x3, .int x4, v5] [] h Q := by
  refine st_iinc (pc' := 266) (v := 1) (ls' := [.ref r0, .int (x1 + 1), .int x2, .int x3, .int x4, v5]) rfl rfl rfl (by decide) rfl ?_
  exact st_goto rfl k
theorem B_Md_partsNow_269 {d : Nat} {h : PH} {Q : PQ} {r0 : Nat} {x1 : Int32} {v2 : Value} {v3 : Value} {v4 : Value} {v5 : Value}  (k : Q (some (.int 1)) h) : wpx d P_Md_partsNow 269 [.ref r0, .int x1, v2, v3, v4, v5] [] h Q := by
  refine st_ipush (pc' := 270) (v := 1) rfl rfl (by decide) ?_
  exact st_ireturn (ty := .boolean) rfl rfl (by decide) k
theorem B_Md_marks_0 {d : Nat} {h : PH} {Q : PQ} {r0 : Nat} {x1 : Int32} {x2 : Int32} {v3 : Value} {a0 : Nat} {n1 : Nat} (hs0 : h_sh h r0 = some (0, 12)) (hr1 : h_r h r0 2 = some a0) (hs2 : h_sh h a0 = some (1, n1)) (hb3 : vp_in x1 n1) (k : wpx d P_Md_marks 7 [.ref r0, .int x1, .int x2, .int (h_i h a0 x1.toNatClampNeg)] [] h Q) : wpx d P_Md_marks 0 [.ref r0, .int x1, .int x2, v3] [] h Q := by
  refine st_aload (pc' := 1) rfl rfl rfl ?_
  refine st_getfr (x := some a0) (Or.inl rfl) rfl hs0 rfl hr1 (pc' := 4) rfl ?_
  refine st_iload (pc' := 5) rfl rfl rfl ?_
  refine st_iaload rfl hs2 hb3 (j := x1.toNatClampNeg) rfl (pc' := 6) rfl ?_
  refine st_istore (pc' := 7) (ls' := [.ref r0, .int x1, .int x2, .int (h_i h a0 x1.toNatClampNeg)]) rfl rfl (Nat.le_of_ble_eq_true rfl) rfl ?_
  exact k
theorem B_Md_marks_7 {d : Nat} {h : PH} {Q : PQ} {r0 : Nat} {x1 : Int32} {x2 : Int32} {x3 : Int32}  (kt : x3 ≤ 0 → wpx d P_Md_marks 45 [.ref r0, .int x1, .int x2, .int x3] [] h Q) (kf : ¬ (x3 ≤ 0) → wpx d P_Md_marks 11 [.ref r0, .int x1, .int x2, .int x3] [] h Q) : wpx d P_Md_marks 7 [.ref r0, .int x1, .int x2, .int x3] [] h Q := by
  refine st_iload (pc' := 8) rfl rfl rfl ?_
  exact st_if_le (pc' := 11) rfl rfl kt kf
theorem B_Md_marks_11 {d : Nat} {h : PH} {Q : PQ} {r0 : Nat} {x1 : Int32} {x2 : Int32} {x3 : Int32}  (kt : x2 = 0 → wpx d P_Md_marks 45 [.ref r0, .int x1, .int x2, .int x3] [] h Q) (kf : ¬ (x2 = 0) → wpx d P_Md_marks 15 [.ref r0, .int x1, .int x2, .int x3] [] h Q) : wpx d P_Md_marks 11 [.ref r0, .int x1, .int x2, .int x3] [] h Q := by
  refine st_iload (pc' := 12) rfl rfl rfl ?_
  exact st_if_eq (pc' := 15) rfl rfl kt kf
theorem B_Md_marks_15 {d : Nat} {h : PH} {Q : PQ} {r0 : Nat} {x1 : Int32} {x2 : Int32} {x3 : Int32} {a0 : Nat} {n1 : Nat} (hs0 : h_sh h r0 = some (0, 12)) (hr1 : h_r h r0 1 = some a0) (hs2 : h_sh h a0 = some (1, n1)) (hb3 : vp_in ((((8 : Int32) * x1) + x3) - (1 : Int32)) n1) (hb4 : vp_in (((8 : Int32) * x1) + x3) n1) (k : wpx d P_Md_marks 7 [.ref r0, .int x1, .int x2, .int (x3 + (-1))] [] (w_i h a0 ((((8 : Int32) * x1) + x3).toNatClampNeg) (h_i h a0 ((((8 : Int32) * x1) + x3) - (1 : Int32)).toNatClampNeg)) Q) : wpx d P_Md_marks 15 [.ref r0, .int x1, .int x2, .int x3] [] h Q := by
  refine st_aload (pc' := 16) rfl rfl rfl ?_
  refine st_getfr (x := some a0) (Or.inl rfl) rfl hs0 rfl hr1 (pc' := 19) rfl ?_
  refine st_ipush (pc' := 21) (v := 8) rfl rfl (by decide) ?_
  refine st_iload (pc' := 22) rfl rfl rfl ?_
  refine st_imul (pc' := 23) rfl rfl ?_
  refine st_iload (pc' := 24) rfl rfl rfl ?_
  refine st_iadd (pc' := 25) rfl rfl ?_
  refine st_aload (pc' := 26) rfl rfl rfl ?_
  refine st_getfr (x := some a0) (Or.inl rfl) rfl hs0 rfl hr1 (pc' := 29) rfl ?_
  refine st_ipush (pc' := 31) (v := 8) rfl rfl (by decide) ?_
  refine st_iload (pc' := 32) rfl rfl rfl ?_
  refine st_imul (pc' := 33) rfl rfl ?_
  refine st_iload (pc' := 34) rfl rfl rfl ?_
  refine st_iadd (pc' := 35) rfl rfl ?_
  refine st_ipush (pc' := 36) (v := 1) rfl rfl (by decide) ?_
  refine st_isub (pc' := 37) rfl rfl ?_
  refine st_iaload rfl hs2 hb3 (j := ((((8 : Int32) * x1) + x3) - (1 : Int32)).toNatClampNeg) rfl (pc' := 38) rfl ?_
  refine st_iastore rfl hs2 hb4 (j := (((8 : Int32) * x1) + x3).toNatClampNeg) rfl (pc' := 39) rfl ?_
  refine st_iinc (pc' := 42) (v := (-1)) (ls' := [.ref r0, .int x1, .int x2, .int (x3 + (-1))]) rfl rfl rfl (by decide) rfl ?_
  exact st_goto rfl k
theorem B_Md_marks_45 {d : Nat} {h : PH} {Q : PQ} {r0 : Nat} {x1 : Int32} {x2 : Int32} {x3 : Int32} {a0 : Nat} (hs0 : h_sh h r0 = some (0, 12)) (hr1 : h_r h r0 1 = some a0) (kt : x2 = 0 → wpx d P_Md_marks 61 [.ref r0, .int x1, .int x2, .int x3] [.int ((8 : Int32) * x1), .ref a0] h Q) (kf : ¬ (x2 = 0) → wpx d P_Md_marks 57 [.ref r0, .int x1, .int x2, .int x3] [.int ((8 : Int32) * x1), .ref a0] h Q) : wpx d P_Md_marks 45 [.ref r0, .int x1, .int x2, .int x3] [] h Q := by
  refine st_aload (pc' := 46) rfl rfl rfl ?_
  refine st_getfr (x := some a0) (Or.inl rfl) rfl hs0 rfl hr1 (pc' := 49) rfl ?_
  refine st_ipush (pc' := 51) (v := 8) rfl rfl (by decide) ?_
  refine st_iload (pc' := 52) rfl rfl rfl ?_
  refine st_imul (pc' := 53) rfl rfl ?_
  refine st_iload (pc' := 54) rfl rfl rfl ?_
  exact st_if_eq (pc' := 57) rfl rfl kt kf
theorem B_Md_marks_57 {d : Nat} {h : PH} {Q : PQ} {r0 : Nat} {x1 : Int32} {x2 : Int32} {x3 : Int32} {q0 : Nat} {s1 : Int32}  (k : wpx d P_Md_marks 67 [.ref r0, .int x1, .int x2, .int x3] [.int 0, .int s1, .ref q0] h Q) : wpx d P_Md_marks 57 [.ref r0, .int x1, .int x2, .int x3] [.int s1, .ref q0] h Q := by
  refine st_ipush (pc' := 58) (v := 0) rfl rfl (by decide) ?_
  exact st_goto rfl k
theorem B_Md_marks_61 {d : Nat} {h : PH} {Q : PQ} {r0 : Nat} {x1 : Int32} {x2 : Int32} {x3 : Int32} {q0 : Nat} {s1 : Int32} {a0 : Nat} {n1 : Nat} (hs0 : h_sh h r0 = some (0, 12)) (hr1 : h_r h r0 2 = some a0) (hs2 : h_sh h a0 = some (1, n1)) (hb3 : vp_in x1 n1) (k : wpx d P_Md_marks 67 [.ref r0, .int x1, .int x2, .int x3] [.int (h_i h a0 x1.toNatClampNeg), .int s1, .ref q0] h Q) : wpx d P_Md_marks 61 [.ref r0, .int x1, .int x2, .int x3] [.int s1, .ref q0] h Q := by
  refine st_aload (pc' := 62) rfl rfl rfl ?_
  refine st_getfr (x := some a0) (Or.inl rfl) rfl hs0 rfl hr1 (pc' := 65) rfl ?_
  refine st_iload (pc' := 66) rfl rfl rfl ?_
  refine st_iaload rfl hs2 hb3 (j := x1.toNatClampNeg) rfl (pc' := 67) rfl ?_
  exact k
theorem B_Md_marks_67 {d : Nat} {h : PH} {Q : PQ} {r0 : Nat} {x1 : Int32} {x2 : Int32} {x3 : Int32} {q0 : Nat} {s1 : Int32} {s2 : Int32} {n0 : Nat} {a1 : Nat} {n2 : Nat} (hs0 : h_sh h q0 = some (1, n0)) (hb1 : vp_in (s1 + s2) n0) (hs2 : h_sh h r0 = some (0, 12)) (hr3 : h_r h r0 2 = some a1) (hs4 : h_sh h a1 = some (1, n2)) (hb5 : vp_in x1 n2) (k : Q none (w_i (w_i h q0 ((s1 + s2).toNatClampNeg) 123) a1 x1.toNatClampNeg ((h_i (w_i h q0 ((s1 + s2).toNatClampNeg) 123) a1 x1.toNatClampNeg) + (1 : Int32)))) : wpx d P_Md_marks 67 [.ref r0, .int x1, .int x2, .int x3] [.int s2, .int s1, .ref q0] h Q := by
  refine st_iadd (pc' := 68) rfl rfl ?_
  refine st_ipush (pc' := 70) (v := 123) rfl rfl (by decide) ?_
  refine st_iastore rfl hs0 hb1 (j := (s1 + s2).toNatClampNeg) rfl (pc' := 71) rfl ?_
  refine st_aload (pc' := 72) rfl rfl rfl ?_
  refine st_getfr (x := some a1) (Or.inl rfl) rfl hs2 rfl hr3 (pc' := 75) rfl ?_
  refine st_iload (pc' := 76) rfl rfl rfl ?_
  refine st_dup211 (pc' := 77) rfl rfl ⟨rfl, rfl⟩ ?_
  refine st_iaload rfl hs4 hb5 (j := x1.toNatClampNeg) rfl (pc' := 78) rfl ?_
  refine st_ipush (pc' := 79) (v := 1) rfl rfl (by decide) ?_
  refine st_iadd (pc' := 80) rfl rfl ?_
  refine st_iastore rfl hs4 hb5 (j := x1.toNatClampNeg) rfl (pc' := 81) rfl ?_
  exact st_return rfl k
theorem B_Md_unmarks_0 {d : Nat} {h : PH} {Q : PQ} {r0 : Nat} {x1 : Int32} {x2 : Int32} {v3 : Value} {a0 : Nat} {n1 : Nat} (hs0 : h_sh h r0 = some (0, 12)) (hr1 : h_r h r0 2 = some a0) (hs2 : h_sh h a0 = some (1, n1)) (hb3 : vp_in x1 n1) (k : wpx d P_Md_unmarks 12 [.ref r0, .int x1, .int x2, .int 0] [] (w_i h a0 x1.toNatClampNeg ((h_i h a0 x1.toNatClampNeg) - (1 : Int32))) Q) : wpx d P_Md_unmarks 0 [.ref r0, .int x1, .int x2, v3] [] h Q := by
  refine st_aload (pc' := 1) rfl rfl rfl ?_
  refine st_getfr (x := some a0) (Or.inl rfl) rfl hs0 rfl hr1 (pc' := 4) rfl ?_
  refine st_iload (pc' := 5) rfl rfl rfl ?_
  refine st_dup211 (pc' := 6) rfl rfl ⟨rfl, rfl⟩ ?_
  refine st_iaload rfl hs2 hb3 (j := x1.toNatClampNeg) rfl (pc' := 7) rfl ?_
  refine st_ipush (pc' := 8) (v := 1) rfl rfl (by decide) ?_
  refine st_isub (pc' := 9) rfl rfl ?_
  refine st_iastore rfl hs2 hb3 (j := x1.toNatClampNeg) rfl (pc' := 10) rfl ?_
  refine st_ipush (pc' := 11) (v := 0) rfl rfl (by decide) ?_
  refine st_istore (pc' := 12) (ls' := [.ref r0, .int x1, .int x2, .int 0]) rfl rfl (Nat.le_of_ble_eq_true rfl) rfl ?_
  exact k
theorem B_Md_unmarks_12 {d : Nat} {h : PH} {Q : PQ} {r0 : Nat} {x1 : Int32} {x2 : Int32} {x3 : Int32} {a0 : Nat} {n1 : Nat} (hs0 : h_sh h r0 = some (0, 12)) (hr1 : h_r h r0 2 = some a0) (hs2 : h_sh h a0 = some (1, n1)) (hb3 : vp_in x1 n1) (kt : (h_i h a0 x1.toNatClampNeg) ≤ x3 → wpx d P_Md_unmarks 56 [.ref r0, .int x1, .int x2, .int x3] [] h Q) (kf : ¬ ((h_i h a0 x1.toNatClampNeg) ≤ x3) → wpx d P_Md_unmarks 22 [.ref r0, .int x1, .int x2, .int x3] [] h Q) : wpx d P_Md_unmarks 12 [.ref r0, .int x1, .int x2, .int x3] [] h Q := by
  refine st_iload (pc' := 13) rfl rfl rfl ?_
  refine st_aload (pc' := 14) rfl rfl rfl ?_
  refine st_getfr (x := some a0) (Or.inl rfl) rfl hs0 rfl hr1 (pc' := 17) rfl ?_
  refine st_iload (pc' := 18) rfl rfl rfl ?_
  refine st_iaload rfl hs2 hb3 (j := x1.toNatClampNeg) rfl (pc' := 19) rfl ?_
  exact st_icmp_ge (pc' := 22) rfl rfl kt kf
theorem B_Md_unmarks_22 {d : Nat} {h : PH} {Q : PQ} {r0 : Nat} {x1 : Int32} {x2 : Int32} {x3 : Int32}  (kt : x2 = 0 → wpx d P_Md_unmarks 56 [.ref r0, .int x1, .int x2, .int x3] [] h Q) (kf : ¬ (x2 = 0) → wpx d P_Md_unmarks 26 [.ref r0, .int x1, .int x2, .int x3] [] h Q) : wpx d P_Md_unmarks 22 [.ref r0, .int x1, .int x2, .int x3] [] h Q := by
  refine st_iload (pc' := 23) rfl rfl rfl ?_
  exact st_if_eq (pc' := 26) rfl rfl kt kf
theorem B_Md_unmarks_26 {d : Nat} {h : PH} {Q : PQ} {r0 : Nat} {x1 : Int32} {x2 : Int32} {x3 : Int32} {a0 : Nat} {n1 : Nat} (hs0 : h_sh h r0 = some (0, 12)) (hr1 : h_r h r0 1 = some a0) (hs2 : h_sh h a0 = some (1, n1)) (hb3 : vp_in ((((8 : Int32) * x1) + x3) + (1 : Int32)) n1) (hb4 : vp_in (((8 : Int32) * x1) + x3) n1) (k : wpx d P_Md_unmarks 12 [.ref r0, .int x1, .int x2, .int (x3 + 1)] [] (w_i h a0 ((((8 : Int32) * x1) + x3).toNatClampNeg) (h_i h a0 ((((8 : Int32) * x1) + x3) + (1 : Int32)).toNatClampNeg)) Q) : wpx d P_Md_unmarks 26 [.ref r0, .int x1, .int x2, .int x3] [] h Q := by
  refine st_aload (pc' := 27) rfl rfl rfl ?_
  refine st_getfr (x := some a0) (Or.inl rfl) rfl hs0 rfl hr1 (pc' := 30) rfl ?_
  refine st_ipush (pc' := 32) (v := 8) rfl rfl (by decide) ?_
  refine st_iload (pc' := 33) rfl rfl rfl ?_
  refine st_imul (pc' := 34) rfl rfl ?_
  refine st_iload (pc' := 35) rfl rfl rfl ?_
  refine st_iadd (pc' := 36) rfl rfl ?_
  refine st_aload (pc' := 37) rfl rfl rfl ?_
  refine st_getfr (x := some a0) (Or.inl rfl) rfl hs0 rfl hr1 (pc' := 40) rfl ?_
  refine st_ipush (pc' := 42) (v := 8) rfl rfl (by decide) ?_
  refine st_iload (pc' := 43) rfl rfl rfl ?_
  refine st_imul (pc' := 44) rfl rfl ?_
  refine st_iload (pc' := 45) rfl rfl rfl ?_
  refine st_iadd (pc' := 46) rfl rfl ?_
  refine st_ipush (pc' := 47) (v := 1) rfl rfl (by decide) ?_
  refine st_iadd (pc' := 48) rfl rfl ?_
  refine st_iaload rfl hs2 hb3 (j := ((((8 : Int32) * x1) + x3) + (1 : Int32)).toNatClampNeg) rfl (pc' := 49) rfl ?_
  refine st_iastore rfl hs2 hb4 (j := (((8 : Int32) * x1) + x3).toNatClampNeg) rfl (pc' := 50) rfl ?_
  refine st_iinc (pc' := 53) (v := 1) (ls' := [.ref r0, .int x1, .int x2, .int (x3 + 1)]) rfl rfl rfl (by decide) rfl ?_
  exact st_goto rfl k
theorem B_Md_unmarks_56 {d : Nat} {h : PH} {Q : PQ} {r0 : Nat} {x1 : Int32} {x2 : Int32} {x3 : Int32}  (k : Q none h) : wpx d P_Md_unmarks 56 [.ref r0, .int x1, .int x2, .int x3] [] h Q := by
  exact st_return rfl k
theorem B_Md_does_0 {d : Nat} {h : PH} {Q : PQ} {r0 : Nat} {x1 : Int32} {x2 : Int32} {v3 : Value}  (k : wpx d P_Md_does 2 [.ref r0, .int x1, .int x2, .int 0] [] h Q) : wpx d P_Md_does 0 [.ref r0, .int x1, .int x2, v3] [] h Q := by
  refine st_ipush (pc' := 1) (v := 0) rfl rfl (by decide) ?_
  refine st_istore (pc' := 2) (ls' := [.ref r0, .int x1, .int x2, .int 0]) rfl rfl (Nat.le_of_ble_eq_true rfl) rfl ?_
  exact k
theorem B_Md_does_2 {d : Nat} {h : PH} {Q : PQ} {r0 : Nat} {x1 : Int32} {x2 : Int32} {x3 : Int32} (hs0 : h_sh h r0 = some (0, 12)) (kt : (h_i h r0 4) ≤ x3 → wpx d P_Md_does 44 [.ref r0, .int x1, .int x2, .int x3] [] h Q) (kf : ¬ ((h_i h r0 4) ≤ x3) → wpx d P_Md_does 10 [.ref r0, .int x1, .int x2, .int x3] [] h Q) : wpx d P_Md_does 2 [.ref r0, .int x1, .int x2, .int x3] [] h Q := by
  refine st_iload (pc' := 3) rfl rfl rfl ?_
  refine st_aload (pc' := 4) rfl rfl rfl ?_
  refine st_getfi (Or.inl rfl) rfl hs0 rfl (pc' := 7) rfl ?_
  exact st_icmp_ge (pc' := 10) rfl rfl kt kf
theorem B_Md_does_10 {d : Nat} {h : PH} {Q : PQ} {r0 : Nat} {x1 : Int32} {x2 : Int32} {x3 : Int32}  (kt : (2 : Int32) ≤ x1 → wpx d P_Md_does 44 [.ref r0, .int x1, .int x2, .int x3] [] h Q) (kf : ¬ ((2 : Int32) ≤ x1) → wpx d P_Md_does 15 [.ref r0, .int x1, .int x2, .int x3] [] h Q) : wpx d P_Md_does 10 [.ref r0, .int x1, .int x2, .int x3] [] h Q := by
  refine st_iload (pc' := 11) rfl rfl rfl ?_
  refine st_ipush (pc' := 12) (v := 2) rfl rfl (by decide) ?_
  exact st_icmp_ge (pc' := 15) rfl rfl kt kf
theorem B_Md_does_15 {d : Nat} {h : PH} {Q : PQ} {r0 : Nat} {x1 : Int32} {x2 : Int32} {x3 : Int32}  (k : wpm d 171 [.int x2, .int x3] h (fun r h' => wpx d P_Md_does 20 [.ref r0, .int x1, .int x2, .int x3] (r.toList ++ []) h' Q)) : wpx d P_Md_does 15 [.ref r0, .int x1, .int x2, .int x3] [] h Q := by
  refine st_iload (pc' := 16) rfl rfl rfl ?_
  refine st_iload (pc' := 17) rfl rfl rfl ?_
  exact st_call (pc' := 20) (as := [.int x2, .int x3]) (rest := []) rfl rfl (Nat.le_of_ble_eq_true rfl) rfl rfl (Nat.le_of_ble_eq_true rfl) (kd := 0) (o := 12) rfl rfl rfl k
theorem B_Md_does_20 {d : Nat} {h : PH} {Q : PQ} {r0 : Nat} {x1 : Int32} {x2 : Int32} {x3 : Int32} {s0 : Int32}  (kt : s0 = 0 → wpx d P_Md_does 38 [.ref r0, .int x1, .int x2, .int x3] [] h Q) (kf : ¬ (s0 = 0) → wpx d P_Md_does 23 [.ref r0, .int x1, .int x2, .int x3] [] h Q) : wpx d P_Md_does 20 [.ref r0, .int x1, .int x2, .int x3] [.int s0] h Q := by
  exact st_if_eq (pc' := 23) rfl rfl kt kf
theorem B_Md_does_23 {d : Nat} {h : PH} {Q : PQ} {r0 : Nat} {x1 : Int32} {x2 : Int32} {x3 : Int32}  (kt : ¬ (x1 = (1 : Int32)) → wpx d P_Md_does 34 [.ref r0, .int x1, .int x2, .int x3] [.int x3, .ref r0] h Q) (kf : x1 = (1 : Int32) → wpx d P_Md_does 30 [.ref r0, .int x1, .int x2, .int x3] [.int x3, .ref r0] h Q) : wpx d P_Md_does 23 [.ref r0, .int x1, .int x2, .int x3] [] h Q := by
  refine st_aload (pc' := 24) rfl rfl rfl ?_
  refine st_iload (pc' := 25) rfl rfl rfl ?_
  refine st_iload (pc' := 26) rfl rfl rfl ?_
  refine st_ipush (pc' := 27) (v := 1) rfl rfl (by decide) ?_
  exact st_icmp_ne (pc' := 30) rfl rfl kt kf
theorem B_Md_does_30 {d : Nat} {h : PH} {Q : PQ} {r0 : Nat} {x1 : Int32} {x2 : Int32} {x3 : Int32} {q0 : Nat} {s1 : Int32}  (k : wpx d P_Md_does 35 [.ref r0, .int x1, .int x2, .int x3] [.int 1, .int s1, .ref q0] h Q) : wpx d P_Md_does 30 [.ref r0, .int x1, .int x2, .int x3] [.int s1, .ref q0] h Q := by
  refine st_ipush (pc' := 31) (v := 1) rfl rfl (by decide) ?_
  exact st_goto rfl k
theorem B_Md_does_34 {d : Nat} {h : PH} {Q : PQ} {r0 : Nat} {x1 : Int32} {x2 : Int32} {x3 : Int32} {q0 : Nat} {s1 : Int32}  (k : wpx d P_Md_does 35 [.ref r0, .int x1, .int x2, .int x3] [.int 0, .int s1, .ref q0] h Q) : wpx d P_Md_does 34 [.ref r0, .int x1, .int x2, .int x3] [.int s1, .ref q0] h Q := by
  refine st_ipush (pc' := 35) (v := 0) rfl rfl (by decide) ?_
  exact k
theorem B_Md_does_35 {d : Nat} {h : PH} {Q : PQ} {r0 : Nat} {x1 : Int32} {x2 : Int32} {x3 : Int32} {q0 : Nat} {s1 : Int32} {s2 : Int32} (hs0 : h_sh h q0 = some (0, 12)) (k : wpm d 272 [.ref q0, .int s1, .int s2] h (fun r h' => wpx d P_Md_does 38 [.ref r0, .int x1, .int x2, .int x3] (r.toList ++ []) h' Q)) : wpx d P_Md_does 35 [.ref r0, .int x1, .int x2, .int x3] [.int s2, .int s1, .ref q0] h Q := by
  exact st_call (pc' := 38) (as := [.ref q0, .int s1, .int s2]) (rest := []) rfl rfl (Nat.le_of_ble_eq_true rfl) rfl rfl (Nat.le_of_ble_eq_true rfl) (kd := 1) (o := 12) rfl rfl (beq_iff_eq.mpr hs0) k
theorem B_Md_does_38 {d : Nat} {h : PH} {Q : PQ} {r0 : Nat} {x1 : Int32} {x2 : Int32} {x3 : Int32}  (k : wpx d P_Md_does 2 [.ref r0, .int x1, .int x2, .int (x3 + 1)] [] h Q) : wpx d P_Md_does 38 [.ref r0, .int x1, .int x2, .int x3] [] h Q := by
  refine st_iinc (pc' := 41) (v := 1) (ls' := [.ref r0, .int x1, .int x2, .int (x3 + 1)]) rfl rfl rfl (by decide) rfl ?_
  exact st_goto rfl k
theorem B_Md_does_44 {d : Nat} {h : PH} {Q : PQ} {r0 : Nat} {x1 : Int32} {x2 : Int32} {x3 : Int32} (hs0 : h_sh h r0 = some (0, 12)) (kt : ¬ (x1 = (2 : Int32)) → wpx d P_Md_does 60 [.ref r0, .int x1, .int x2, .int x3] [.int (h_i h r0 6), .ref r0] h Q) (kf : x1 = (2 : Int32) → wpx d P_Md_does 54 [.ref r0, .int x1, .int x2, .int x3] [.int (h_i h r0 6), .ref r0] h Q) : wpx d P_Md_does 44 [.ref r0, .int x1, .int x2, .int x3] [] h Q := by
  refine st_aload (pc' := 45) rfl rfl rfl ?_
  refine st_dup (pc' := 46) rfl rfl rfl ?_
  refine st_getfi (Or.inl rfl) rfl hs0 rfl (pc' := 49) rfl ?_
  refine st_iload (pc' := 50) rfl rfl rfl ?_
  refine st_ipush (pc' := 51) (v := 2) rfl rfl (by decide) ?_
  exact st_icmp_ne (pc' := 54) rfl rfl kt kf
theorem B_Md_does_54 {d : Nat} {h : PH} {Q : PQ} {r0 : Nat} {x1 : Int32} {x2 : Int32} {x3 : Int32} {q0 : Nat} {s1 : Int32}  (k : wpx d P_Md_does 61 [.ref r0, .int x1, .int x2, .int x3] [.int (x2 ^^^ (-1 : Int32)), .int s1, .ref q0] h Q) : wpx d P_Md_does 54 [.ref r0, .int x1, .int x2, .int x3] [.int s1, .ref q0] h Q := by
  refine st_iload (pc' := 55) rfl rfl rfl ?_
  refine st_ipush (pc' := 56) (v := (-1)) rfl rfl (by decide) ?_
  refine st_ixor (pc' := 57) rfl rfl ?_
  exact st_goto rfl k
theorem B_Md_does_60 {d : Nat} {h : PH} {Q : PQ} {r0 : Nat} {x1 : Int32} {x2 : Int32} {x3 : Int32} {q0 : Nat} {s1 : Int32}  (k : wpx d P_Md_does 61 [.ref r0, .int x1, .int x2, .int x3] [.int (-1), .int s1, .ref q0] h Q) : wpx d P_Md_does 60 [.ref r0, .int x1, .int x2, .int x3] [.int s1, .ref q0] h Q := by
  refine st_ipush (pc' := 61) (v := (-1)) rfl rfl (by decide) ?_
  exact k
theorem B_Md_does_61 {d : Nat} {h : PH} {Q : PQ} {r0 : Nat} {x1 : Int32} {x2 : Int32} {x3 : Int32} {q0 : Nat} {s1 : Int32} {s2 : Int32} (hs0 : h_sh h q0 = some (0, 12)) (k : Q none (w_i h q0 6 (s1 &&& s2))) : wpx d P_Md_does 61 [.ref r0, .int x1, .int x2, .int x3] [.int s2, .int s1, .ref q0] h Q := by
  refine st_iand (pc' := 62) rfl rfl ?_
  refine st_putf (h' := w_i h q0 6 (s1 &&& s2)) (Or.inl rfl) rfl hs0 rfl rfl rfl (pc' := 65) rfl ?_
  exact st_return rfl k
theorem B_Md_isCure_0 {d : Nat} {h : PH} {Q : PQ} {r0 : Nat} {x1 : Int32} {x2 : Int32} {v3 : Value} {v4 : Value} {v5 : Value} (hs0 : h_sh h r0 = some (0, 12)) (k : wpm d 274 [.ref r0, .int x1, .int x2] h (fun r h' => wpx d P_Md_isCure 11 [.ref r0, .int x1, .int x2, .int (h_i h r0 6), v4, v5] (r.toList ++ []) h' Q)) : wpx d P_Md_isCure 0 [.ref r0, .int x1, .int x2, v3, v4, v5] [] h Q := by
  refine st_aload (pc' := 1) rfl rfl rfl ?_
  refine st_getfi (Or.inl rfl) rfl hs0 rfl (pc' := 4) rfl ?_
  refine st_istore (pc' := 5) (ls' := [.ref r0, .int x1, .int x2, .int (h_i h r0 6), v4, v5]) rfl rfl (Nat.le_of_ble_eq_true rfl) rfl ?_
  refine st_aload (pc' := 6) rfl rfl rfl ?_
  refine st_iload (pc' := 7) rfl rfl rfl ?_
  refine st_iload (pc' := 8) rfl rfl rfl ?_
  exact st_call (pc' := 11) (as := [.ref r0, .int x1, .int x2]) (rest := []) rfl rfl (Nat.le_of_ble_eq_true rfl) rfl rfl (Nat.le_of_ble_eq_true rfl) (kd := 1) (o := 12) rfl rfl (beq_iff_eq.mpr hs0) k
theorem B_Md_isCure_11 {d : Nat} {h : PH} {Q : PQ} {r0 : Nat} {x1 : Int32} {x2 : Int32} {x3 : Int32} {v4 : Value} {v5 : Value} (hs0 : h_sh h r0 = some (0, 12)) (k : wpm d 271 [.ref r0] h (fun r h' => wpx d P_Md_isCure 15 [.ref r0, .int x1, .int x2, .int x3, v4, v5] (r.toList ++ []) h' Q)) : wpx d P_Md_isCure 11 [.ref r0, .int x1, .int x2, .int x3, v4, v5] [] h Q := by
  refine st_aload (pc' := 12) rfl rfl rfl ?_
  exact st_call (pc' := 15) (as := [.ref r0]) (rest := []) rfl rfl (Nat.le_of_ble_eq_true rfl) rfl rfl (Nat.le_of_ble_eq_true rfl) (kd := 1) (o := 12) rfl rfl (beq_iff_eq.mpr hs0) k
theorem B_Md_isCure_15 {d : Nat} {h : PH} {Q : PQ} {r0 : Nat} {x1 : Int32} {x2 : Int32} {x3 : Int32} {v4 : Value} {v5 : Value} {s0 : Int32}  (k : wpx d P_Md_isCure 20 [.ref r0, .int x1, .int x2, .int x3, .int s0, .int 0] [] h Q) : wpx d P_Md_isCure 15 [.ref r0, .int x1, .int x2, .int x3, v4, v5] [.int s0] h Q := by
  refine st_istore (pc' := 17) (ls' := [.ref r0, .int x1, .int x2, .int x3, .int s0, v5]) rfl rfl (Nat.le_of_ble_eq_true rfl) rfl ?_
  refine st_ipush (pc' := 18) (v := 0) rfl rfl (by decide) ?_
  refine st_istore (pc' := 20) (ls' := [.ref r0, .int x1, .int x2, .int x3, .int s0, .int 0]) rfl rfl (Nat.le_of_ble_eq_true rfl) rfl ?_
  exact k
theorem B_Md_isCure_20 {d : Nat} {h : PH} {Q : PQ} {r0 : Nat} {x1 : Int32} {x2 : Int32} {x3 : Int32} {x4 : Int32} {x5 : Int32} (hs0 : h_sh h r0 = some (0, 12)) (kt : (h_i h r0 4) ≤ x5 → wpx d P_Md_isCure 65 [.ref r0, .int x1, .int x2, .int x3, .int x4, .int x5] [] h Q) (kf : ¬ ((h_i h r0 4) ≤ x5) → wpx d P_Md_isCure 29 [.ref r0, .int x1, .int x2, .int x3, .int x4, .int x5] [] h Q) : wpx d P_Md_isCure 20 [.ref r0, .int x1, .int x2, .int x3, .int x4, .int x5] [] h Q := by
  refine st_iload (pc' := 22) rfl rfl rfl ?_
  refine st_aload (pc' := 23) rfl rfl rfl ?_
  refine st_getfi (Or.inl rfl) rfl hs0 rfl (pc' := 26) rfl ?_
  exact st_icmp_ge (pc' := 29) rfl rfl kt kf
theorem B_Md_isCure_29 {d : Nat} {h : PH} {Q : PQ} {r0 : Nat} {x1 : Int32} {x2 : Int32} {x3 : Int32} {x4 : Int32} {x5 : Int32}  (kt : (2 : Int32) ≤ x1 → wpx d P_Md_isCure 65 [.ref r0, .int x1, .int x2, .int x3, .int x4, .int x5] [] h Q) (kf : ¬ ((2 : Int32) ≤ x1) → wpx d P_Md_isCure 34 [.ref r0, .int x1, .int x2, .int x3, .int x4, .int x5] [] h Q) : wpx d P_Md_isCure 29 [.ref r0, .int x1, .int x2, .int x3, .int x4, .int x5] [] h Q := by
  refine st_iload (pc' := 30) rfl rfl rfl ?_
  refine st_ipush (pc' := 31) (v := 2) rfl rfl (by decide) ?_
  exact st_icmp_ge (pc' := 34) rfl rfl kt kf
theorem B_Md_isCure_34 {d : Nat} {h : PH} {Q : PQ} {r0 : Nat} {x1 : Int32} {x2 : Int32} {x3 : Int32} {x4 : Int32} {x5 : Int32}  (k : wpm d 171 [.int x2, .int x5] h (fun r h' => wpx d P_Md_isCure 40 [.ref r0, .int x1, .int x2, .int x3, .int x4, .int x5] (r.toList ++ []) h' Q)) : wpx d P_Md_isCure 34 [.ref r0, .int x1, .int x2, .int x3, .int x4, .int x5] [] h Q := by
  refine st_iload (pc' := 35) rfl rfl rfl ?_
  refine st_iload (pc' := 37) rfl rfl rfl ?_
  exact st_call (pc' := 40) (as := [.int x2, .int x5]) (rest := []) rfl rfl (Nat.le_of_ble_eq_true rfl) rfl rfl (Nat.le_of_ble_eq_true rfl) (kd := 0) (o := 12) rfl rfl rfl k
theorem B_Md_isCure_40 {d : Nat} {h : PH} {Q : PQ} {r0 : Nat} {x1 : Int32} {x2 : Int32} {x3 : Int32} {x4 : Int32} {x5 : Int32} {s0 : Int32}  (kt : s0 = 0 → wpx d P_Md_isCure 59 [.ref r0, .int x1, .int x2, .int x3, .int x4, .int x5] [] h Q) (kf : ¬ (s0 = 0) → wpx d P_Md_isCure 43 [.ref r0, .int x1, .int x2, .int x3, .int x4, .int x5] [] h Q) : wpx d P_Md_isCure 40 [.ref r0, .int x1, .int x2, .int x3, .int x4, .int x5] [.int s0] h Q := by
  exact st_if_eq (pc' := 43) rfl rfl kt kf
theorem B_Md_isCure_43 {d : Nat} {h : PH} {Q : PQ} {r0 : Nat} {x1 : Int32} {x2 : Int32} {x3 : Int32} {x4 : Int32} {x5 : Int32}  (kt : ¬ (x1 = (1 : Int32)) → wpx d P_Md_isCure 55 [.ref r0, .int x1, .int x2, .int x3, .int x4, .int x5] [.int x5, .ref r0] h Q) (kf : x1 = (1 : Int32) → wpx d P_Md_isCure 51 [.ref r0, .int x1, .int x2, .int x3, .int x4, .int x5] [.int x5, .ref r0] h Q) : wpx d P_Md_isCure 43 [.ref r0, .int x1, .int x2, .int x3, .int x4, .int x5] [] h Q := by
  refine st_aload (pc' := 44) rfl rfl rfl ?_
  refine st_iload (pc' := 46) rfl rfl rfl ?_
  refine st_iload (pc' := 47) rfl rfl rfl ?_
  refine st_ipush (pc' := 48) (v := 1) rfl rfl (by decide) ?_
  exact st_icmp_ne (pc' := 51) rfl rfl kt kf
theorem B_Md_isCure_51 {d : Nat} {h : PH} {Q : PQ} {r0 : Nat} {x1 : Int32} {x2 : Int32} {x3 : Int32} {x4 : Int32} {x5 : Int32} {q0 : Nat} {s1 : Int32}  (k : wpx d P_Md_isCure 56 [.ref r0, .int x1, .int x2, .int x3, .int x4, .int x5] [.int 1, .int s1, .ref q0] h Q) : wpx d P_Md_isCure 51 [.ref r0, .int x1, .int x2, .int x3, .int x4, .int x5] [.int s1, .ref q0] h Q := by
  refine st_ipush (pc' := 52) (v := 1) rfl rfl (by decide) ?_
  exact st_goto rfl k
theorem B_Md_isCure_55 {d : Nat} {h : PH} {Q : PQ} {r0 : Nat} {x1 : Int32} {x2 : Int32} {x3 : Int32} {x4 : Int32} {x5 : Int32} {q0 : Nat} {s1 : Int32}  (k : wpx d P_Md_isCure 56 [.ref r0, .int x1, .int x2, .int x3, .int x4, .int x5] [.int 0, .int s1, .ref q0] h Q) : wpx d P_Md_isCure 55 [.ref r0, .int x1, .int x2, .int x3, .int x4, .int x5] [.int s1, .ref q0] h Q := by
  refine st_ipush (pc' := 56) (v := 0) rfl rfl (by decide) ?_
  exact k
theorem B_Md_isCure_56 {d : Nat} {h : PH} {Q : PQ} {r0 : Nat} {x1 : Int32} {x2 : Int32} {x3 : Int32} {x4 : Int32} {x5 : Int32} {q0 : Nat} {s1 : Int32} {s2 : Int32} (hs0 : h_sh h q0 = some (0, 12)) (k : wpm d 273 [.ref q0, .int s1, .int s2] h (fun r h' => wpx d P_Md_isCure 59 [.ref r0, .int x1, .int x2, .int x3, .int x4, .int x5] (r.toList ++ []) h' Q)) : wpx d P_Md_isCure 56 [.ref r0, .int x1, .int x2, .int x3, .int x4, .int x5] [.int s2, .int s1, .ref q0] h Q := by
  exact st_call (pc' := 59) (as := [.ref q0, .int s1, .int s2]) (rest := []) rfl rfl (Nat.le_of_ble_eq_true rfl) rfl rfl (Nat.le_of_ble_eq_true rfl) (kd := 1) (o := 12) rfl rfl (beq_iff_eq.mpr hs0) k
theorem B_Md_isCure_59 {d : Nat} {h : PH} {Q : PQ} {r0 : Nat} {x1 : Int32} {x2 : Int32} {x3 : Int32} {x4 : Int32} {x5 : Int32}  (k : wpx d P_Md_isCure 20 [.ref r0, .int x1, .int x2, .int x3, .int x4, .int (x5 + 1)] [] h Q) : wpx d P_Md_isCure 59 [.ref r0, .int x1, .int x2, .int x3, .int x4, .int x5] [] h Q := by
  refine st_iinc (pc' := 62) (v := 1) (ls' := [.ref r0, .int x1, .int x2, .int x3, .int x4, .int (x5 + 1)]) rfl rfl rfl (by decide) rfl ?_
  exact st_goto rfl k
theorem B_Md_isCure_65 {d : Nat} {h : PH} {Q : PQ} {r0 : Nat} {x1 : Int32} {x2 : Int32} {x3 : Int32} {x4 : Int32} {x5 : Int32} (hs0 : h_sh h r0 = some (0, 12)) (hz1 : narrow .boolean (.int x4) = .int x4) (k : Q (some (.int x4)) (w_i h r0 6 x3)) : wpx d P_Md_isCure 65 [.ref r0, .int x1, .int x2, .int x3, .int x4, .int x5] [] h Q := by
  refine st_aload (pc' := 66) rfl rfl rfl ?_
  refine st_iload (pc' := 67) rfl rfl rfl ?_
  refine st_putf (h' := w_i h r0 6 x3) (Or.inl rfl) rfl hs0 rfl rfl rfl (pc' := 70) rfl ?_
  refine st_iload (pc' := 72) rfl rfl rfl ?_
  exact st_ireturn (ty := .boolean) rfl rfl hz1 k
theorem B_Md_cureOf_0 {d : Nat} {h : PH} {Q : PQ} {r0 : Nat} {x1 : Int32} {v2 : Value} {v3 : Value} {v4 : Value} {v5 : Value} {v6 : Value} {v7 : Value}  (k : wpx d P_Md_cureOf 4 [.ref r0, .int x1, .int 0, .int 0, v4, v5, v6, v7] [] h Q) : wpx d P_Md_cureOf 0 [.ref r0, .int x1, v2, v3, v4, v5, v6, v7] [] h Q := by
  refine st_ipush (pc' := 1) (v := 0) rfl rfl (by decide) ?_
  refine st_istore (pc' := 2) (ls' := [.ref r0, .int x1, .int 0, v3, v4, v5, v6, v7]) rfl rfl (Nat.le_of_ble_eq_true rfl) rfl ?_
  refine st_ipush (pc' := 3) (v := 0) rfl rfl (by decide) ?_
  refine st_istore (pc' := 4) (ls' := [.ref r0, .int x1, .int 0, .int 0, v4, v5, v6, v7]) rfl rfl (Nat.le_of_ble_eq_true rfl) rfl ?_
  exact k
theorem B_Md_cureOf_4 {d : Nat} {h : PH} {Q : PQ} {r0 : Nat} {x1 : Int32} {x2 : Int32} {x3 : Int32} {v4 : Value} {v5 : Value} {v6 : Value} {v7 : Value} (hs0 : h_sh h r0 = some (0, 12)) (kt : (h_i h r0 4) ≤ x3 → wpx d P_Md_cureOf 50 [.ref r0, .int x1, .int x2, .int x3, v4, v5, v6, v7] [] h Q) (kf : ¬ ((h_i h r0 4) ≤ x3) → wpx d P_Md_cureOf 12 [.ref r0, .int x1, .int x2, .int x3, v4, v5, v6, v7] [] h Q) : wpx d P_Md_cureOf 4 [.ref r0, .int x1, .int x2, .int x3, v4, v5, v6, v7] [] h Q := by
  refine st_iload (pc' := 5) rfl rfl rfl ?_
  refine st_aload (pc' := 6) rfl rfl rfl ?_
  refine st_getfi (Or.inl rfl) rfl hs0 rfl (pc' := 9) rfl ?_
  exact st_icmp_ge (pc' := 12) rfl rfl kt kf
theorem B_Md_cureOf_12 {d : Nat} {h : PH} {Q : PQ} {r0 : Nat} {x1 : Int32} {x2 : Int32} {x3 : Int32} {v4 : Value} {v5 : Value} {v6 : Value} {v7 : Value} (hs0 : h_sh h r0 = some (0, 12)) (k : wpm d 171 [.int (h_i h r0 6), .int x3] h (fun r h' => wpx d P_Md_cureOf 21 [.ref r0, .int x1, .int x2, .int x3, v4, v5, v6, v7] (r.toList ++ [.int x2]) h' Q)) : wpx d P_Md_cureOf 12 [.ref r0, .int x1, .int x2, .int x3, v4, v5, v6, v7] [] h Q := by
  refine st_iload (pc' := 13) rfl rfl rfl ?_
  refine st_aload (pc' := 14) rfl rfl rfl ?_
  refine st_getfi (Or.inl rfl) rfl hs0 rfl (pc' := 17) rfl ?_
  refine st_iload (pc' := 18) rfl rfl rfl ?_
  exact st_call (pc' := 21) (as := [.int (h_i h r0 6), .int x3]) (rest := [.int x2]) rfl rfl (Nat.le_of_ble_eq_true rfl) rfl rfl (Nat.le_of_ble_eq_true rfl) (kd := 0) (o := 12) rfl rfl rfl k
theorem B_Md_cureOf_21 {d : Nat} {h : PH} {Q : PQ} {r0 : Nat} {x1 : Int32} {x2 : Int32} {x3 : Int32} {v4 : Value} {v5 : Value} {v6 : Value} {v7 : Value} {s0 : Int32} {s1 : Int32}  (kt : s1 = 0 → wpx d P_Md_cureOf 41 [.ref r0, .int x1, .int x2, .int x3, v4, v5, v6, v7] [.int s0] h Q) (kf : ¬ (s1 = 0) → wpx d P_Md_cureOf 24 [.ref r0, .int x1, .int x2, .int x3, v4, v5, v6, v7] [.int s0] h Q) : wpx d P_Md_cureOf 21 [.ref r0, .int x1, .int x2, .int x3, v4, v5, v6, v7] [.int s1, .int s0] h Q := by
  exact st_if_eq (pc' := 24) rfl rfl kt kf
theorem B_Md_cureOf_24 {d : Nat} {h : PH} {Q : PQ} {r0 : Nat} {x1 : Int32} {x2 : Int32} {x3 : Int32} {v4 : Value} {v5 : Value} {v6 : Value} {v7 : Value} {s0 : Int32} {a0 : Nat} {n1 : Nat} (hs0 : h_sh h r0 = some (0, 12)) (hr1 : h_r h r0 2 = some a0) (hs2 : h_sh h a0 = some (1, n1)) (hb3 : vp_in x3 n1) (kt : (6 : Int32) < (h_i h a0 x3.toNatClampNeg) → wpx d P_Md_cureOf 41 [.ref r0, .int x1, .int x2, .int x3, v4, v5, v6, v7] [.int s0] h Q) (kf : ¬ ((6 : Int32) < (h_i h a0 x3.toNatClampNeg)) → wpx d P_Md_cureOf 35 [.ref r0, .int x1, .int x2, .int x3, v4, v5, v6, v7] [.int s0] h Q) : wpx d P_Md_cureOf 24 [.ref r0, .int x1, .int x2, .int x3, v4, v5, v6, v7] [.int s0] h Q := by
  refine st_aload (pc' := 25) rfl rfl rfl ?_
  refine st_getfr (x := some a0) (Or.inl rfl) rfl hs0 rfl hr1 (pc' := 28) rfl ?_
  refine st_iload (pc' := 29) rfl rfl rfl ?_
  refine st_iaload rfl hs2 hb3 (j := x3.toNatClampNeg) rfl (pc' := 30) rfl ?_
  refine st_ipush (pc' := 32) (v := 6) rfl rfl (by decide) ?_
  exact st_icmp_gt (pc' := 35) rfl rfl kt kf
theorem B_Md_cureOf_35 {d : Nat} {h : PH} {Q : PQ} {r0 : Nat} {x1 : Int32} {x2 : Int32} {x3 : Int32} {v4 : Value} {v5 : Value} {v6 : Value} {v7 : Value} {s0 : Int32}  (k : wpx d P_Md_cureOf 42 [.ref r0, .int x1, .int x2, .int x3, v4, v5, v6, v7] [.int ((1 : Int32) <<< (x3 &&& 31)), .int s0] h Q) : wpx d P_Md_cureOf 35 [.ref r0, .int x1, .int x2, .int x3, v4, v5, v6, v7] [.int s0] h Q := by
  refine st_ipush (pc' := 36) (v := 1) rfl rfl (by decide) ?_
  refine st_iload (pc' := 37) rfl rfl rfl ?_
  refine st_ishl (pc' := 38) rfl rfl ?_
  exact st_goto rfl k
theorem B_Md_cureOf_41 {d : Nat} {h : PH} {Q : PQ} {r0 : Nat} {x1 : Int32} {x2 : Int32} {x3 : Int32} {v4 : Value} {v5 : Value} {v6 : Value} {v7 : Value} {s0 : Int32}  (k : wpx d P_Md_cureOf 42 [.ref r0, .int x1, .int x2, .int x3, v4, v5, v6, v7] [.int 0, .int s0] h Q) : wpx d P_Md_cureOf 41 [.ref r0, .int x1, .int x2, .int x3, v4, v5, v6, v7] [.int s0] h Q := by
  refine st_ipush (pc' := 42) (v := 0) rfl rfl (by decide) ?_
  exact k
theorem B_Md_cureOf_42 {d : Nat} {h : PH} {Q : PQ} {r0 : Nat} {x1 : Int32} {x2 : Int32} {x3 : Int32} {v4 : Value} {v5 : Value} {v6 : Value} {v7 : Value} {s0 : Int32} {s1 : Int32}  (k : wpx d P_Md_cureOf 4 [.ref r0, .int x1, .int (s0 ||| s1), .int (x3 + 1), v4, v5, v6, v7] [] h Q) : wpx d P_Md_cureOf 42 [.ref r0, .int x1, .int x2, .int x3, v4, v5, v6, v7] [.int s1, .int s0] h Q := by
  refine st_ior (pc' := 43) rfl rfl ?_
  refine st_istore (pc' := 44) (ls' := [.ref r0, .int x1, .int (s0 ||| s1), .int x3, v4, v5, v6, v7]) rfl rfl (Nat.le_of_ble_eq_true rfl) rfl ?_
  refine st_iinc (pc' := 47) (v := 1) (ls' := [.ref r0, .int x1, .int (s0 ||| s1), .int (x3 + 1), v4, v5, v6, v7]) rfl rfl rfl (by decide) rfl ?_
  exact st_goto rfl k
theorem B_Md_cureOf_50 {d : Nat} {h : PH} {Q : PQ} {r0 : Nat} {x1 : Int32} {x2 : Int32} {x3 : Int32} {v4 : Value} {v5 : Value} {v6 : Value} {v7 : Value}  (k : wpx d P_Md_cureOf 55 [.ref r0, .int x1, .int x2, .int (-1), .int 0, v5, v6, v7] [] h Q) : wpx d P_Md_cureOf 50 [.ref r0, .int x1, .int x2, .int x3, v4, v5, v6, v7] [] h Q := by
  refine st_ipush (pc' := 51) (v := (-1)) rfl rfl (by decide) ?_
  refine st_istore (pc' := 52) (ls' := [.ref r0, .int x1, .int x2, .int (-1), v4, v5, v6, v7]) rfl rfl (Nat.le_of_ble_eq_true rfl) rfl ?_
  refine st_ipush (pc' := 53) (v := 0) rfl rfl (by decide) ?_
  refine st_istore (pc' := 55) (ls' := [.ref r0, .int x1, .int x2, .int (-1), .int 0, v5, v6, v7]) rfl rfl (Nat.le_of_ble_eq_true rfl) rfl ?_
  exact k
theorem B_Md_cureOf_55 {d : Nat} {h : PH} {Q : PQ} {r0 : Nat} {x1 : Int32} {x2 : Int32} {x3 : Int32} {x4 : Int32} {v5 : Value} {v6 : Value} {v7 : Value} (hs0 : h_sh h r0 = some (0, 12)) (kt : ((1 : Int32) <<< ((h_i h r0 4) &&& 31)) ≤ x4 → wpx d P_Md_cureOf 156 [.ref r0, .int x1, .int x2, .int x3, .int x4, v5, v6, v7] [] h Q) (kf : ¬ (((1 : Int32) <<< ((h_i h r0 4) &&& 31)) ≤ x4) → wpx d P_Md_cureOf 66 [.ref r0, .int x1, .int x2, .int x3, .int x4, v5, v6, v7] [] h Q) : wpx d P_Md_cureOf 55 [.ref r0, .int x1, .int x2, .int x3, .int x4, v5, v6, v7] [] h Q := by
  refine st_iload (pc' := 57) rfl rfl rfl ?_
  refine st_ipush (pc' := 58) (v := 1) rfl rfl (by decide) ?_
  refine st_aload (pc' := 59) rfl rfl rfl ?_
  refine st_getfi (Or.inl rfl) rfl hs0 rfl (pc' := 62) rfl ?_
  refine st_ishl (pc' := 63) rfl rfl ?_
  exact st_icmp_ge (pc' := 66) rfl rfl kt kf
theorem B_Md_cureOf_66 {d : Nat} {h : PH} {Q : PQ} {r0 : Nat} {x1 : Int32} {x2 : Int32} {x3 : Int32} {x4 : Int32} {v5 : Value} {v6 : Value} {v7 : Value}  (kt : (x4 &&& (x2 ^^^ (-1 : Int32))) = 0 → wpx d P_Md_cureOf 78 [.ref r0, .int x1, .int x2, .int x3, .int x4, v5, v6, v7] [] h Q) (kf : ¬ ((x4 &&& (x2 ^^^ (-1 : Int32))) = 0) → wpx d P_Md_cureOf 75 [.ref r0, .int x1, .int x2, .int x3, .int x4, v5, v6, v7] [] h Q) : wpx d P_Md_cureOf 66 [.ref r0, .int x1, .int x2, .int x3, .int x4, v5, v6, v7] [] h Q := by
  refine st_iload (pc' := 68) rfl rfl rfl ?_
  refine st_iload (pc' := 69) rfl rfl rfl ?_
  refine st_ipush (pc' := 70) (v := (-1)) rfl rfl (by decide) ?_
  refine st_ixor (pc' := 71) rfl rfl ?_
  refine st_iand (pc' := 72) rfl rfl ?_
  exact st_if_eq (pc' := 75) rfl rfl kt kf
theorem B_Md_cureOf_75 {d : Nat} {h : PH} {Q : PQ} {r0 : Nat} {x1 : Int32} {x2 : Int32} {x3 : Int32} {x4 : Int32} {v5 : Value} {v6 : Value} {v7 : Value}  (k : wpx d P_Md_cureOf 150 [.ref r0, .int x1, .int x2, .int x3, .int x4, v5, v6, v7] [] h Q) : wpx d P_Md_cureOf 75 [.ref r0, .int x1, .int x2, .int x3, .int x4, v5, v6, v7] [] h Q := by
  exact st_goto rfl k
theorem B_Md_cureOf_78 {d : Nat} {h : PH} {Q : PQ} {r0 : Nat} {x1 : Int32} {x2 : Int32} {x3 : Int32} {x4 : Int32} {v5 : Value} {v6 : Value} {v7 : Value}  (k : wpm d 173 [.int x4] h (fun r h' => wpx d P_Md_cureOf 83 [.ref r0, .int x1, .int x2, .int x3, .int x4, v5, v6, v7] (r.toList ++ []) h' Q)) : wpx d P_Md_cureOf 78 [.ref r0, .int x1, .int x2, .int x3, .int x4, v5, v6, v7] [] h Q := by
  refine st_iload (pc' := 80) rfl rfl rfl ?_
  exact st_call (pc' := 83) (as := [.int x4]) (rest := []) rfl rfl (Nat.le_of_ble_eq_true rfl) rfl rfl (Nat.le_of_ble_eq_true rfl) (kd := 0) (o := 12) rfl rfl rfl k
theorem B_Md_cureOf_83 {d : Nat} {h : PH} {Q : PQ} {r0 : Nat} {x1 : Int32} {x2 : Int32} {x3 : Int32} {x4 : Int32} {v5 : Value} {v6 : Value} {v7 : Value} {s0 : Int32}  (kt : x3 < 0 → wpx d P_Md_cureOf 125 [.ref r0, .int x1, .int x2, .int x3, .int x4, .int s0, .int (x4 ^^^ x3), v7] [] h Q) (kf : ¬ (x3 < 0) → wpx d P_Md_cureOf 95 [.ref r0, .int x1, .int x2, .int x3, .int x4, .int s0, .int (x4 ^^^ x3), v7] [] h Q) : wpx d P_Md_cureOf 83 [.ref r0, .int x1, .int x2, .int x3, .int x4, v5, v6, v7] [.int s0] h Q := by
  refine st_istore (pc' := 85) (ls' := [.ref r0, .int x1, .int x2, .int x3, .int x4, .int s0, v6, v7]) rfl rfl (Nat.le_of_ble_eq_true rfl) rfl ?_
  refine st_iload (pc' := 87) rfl rfl rfl ?_
  refine st_iload (pc' := 88) rfl rfl rfl ?_
  refine st_ixor (pc' := 89) rfl rfl ?_
  refine st_istore (pc' := 91) (ls' := [.ref r0, .int x1, .int x2, .int x3, .int x4, .int s0, .int (x4 ^^^ x3), v7]) rfl rfl (Nat.le_of_ble_eq_true rfl) rfl ?_
  refine st_iload (pc' := 92) rfl rfl rfl ?_
  exact st_if_lt (pc' := 95) rfl rfl kt kf
theorem B_Md_cureOf_95 {d : Nat} {h : PH} {Q : PQ} {r0 : Nat} {x1 : Int32} {x2 : Int32} {x3 : Int32} {x4 : Int32} {x5 : Int32} {x6 : Int32} {v7 : Value}  (k : wpm d 173 [.int x3] h (fun r h' => wpx d P_Md_cureOf 101 [.ref r0, .int x1, .int x2, .int x3, .int x4, .int x5, .int x6, v7] (r.toList ++ [.int x5]) h' Q)) : wpx d P_Md_cureOf 95 [.ref r0, .int x1, .int x2, .int x3, .int x4, .int x5, .int x6, v7] [] h Q := by
  refine st_iload (pc' := 97) rfl rfl rfl ?_
  refine st_iload (pc' := 98) rfl rfl rfl ?_
  exact st_call (pc' := 101) (as := [.int x3]) (rest := [.int x5]) rfl rfl (Nat.le_of_ble_eq_true rfl) rfl rfl (Nat.le_of_ble_eq_true rfl) (kd := 0) (o := 12) rfl rfl rfl k
theorem B_Md_cureOf_101 {d : Nat} {h : PH} {Q : PQ} {r0 : Nat} {x1 : Int32} {x2 : Int32} {x3 : Int32} {x4 : Int32} {x5 : Int32} {x6 : Int32} {v7 : Value} {s0 : Int32} {s1 : Int32}  (kt : s0 < s1 → wpx d P_Md_cureOf 125 [.ref r0, .int x1, .int x2, .int x3, .int x4, .int x5, .int x6, v7] [] h Q) (kf : ¬ (s0 < s1) → wpx d P_Md_cureOf 104 [.ref r0, .int x1, .int x2, .int x3, .int x4, .int x5, .int x6, v7] [] h Q) : wpx d P_Md_cureOf 101 [.ref r0, .int x1, .int x2, .int x3, .int x4, .int x5, .int x6, v7] [.int s1, .int s0] h Q := by
  exact st_icmp_lt (pc' := 104) rfl rfl kt kf
theorem B_Md_cureOf_104 {d : Nat} {h : PH} {Q : PQ} {r0 : Nat} {x1 : Int32} {x2 : Int32} {x3 : Int32} {x4 : Int32} {x5 : Int32} {x6 : Int32} {v7 : Value}  (k : wpm d 173 [.int x3] h (fun r h' => wpx d P_Md_cureOf 110 [.ref r0, .int x1, .int x2, .int x3, .int x4, .int x5, .int x6, v7] (r.toList ++ [.int x5]) h' Q)) : wpx d P_Md_cureOf 104 [.ref r0, .int x1, .int x2, .int x3, .int x4, .int x5, .int x6, v7] [] h Q := by
  refine st_iload (pc' := 106) rfl rfl rfl ?_
  refine st_iload (pc' := 107) rfl rfl rfl ?_
  exact st_call (pc' := 110) (as := [.int x3]) (rest := [.int x5]) rfl rfl (Nat.le_of_ble_eq_true rfl) rfl rfl (Nat.le_of_ble_eq_true rfl) (kd := 0) (o := 12) rfl rfl rfl k
theorem B_Md_cureOf_110 {d : Nat} {h : PH} {Q : PQ} {r0 : Nat} {x1 : Int32} {x2 : Int32} {x3 : Int32} {x4 : Int32} {x5 : Int32} {x6 : Int32} {v7 : Value} {s0 : Int32} {s1 : Int32}  (kt : ¬ (s0 = s1) → wpx d P_Md_cureOf 129 [.ref r0, .int x1, .int x2, .int x3, .int x4, .int x5, .int x6, v7] [] h Q) (kf : s0 = s1 → wpx d P_Md_cureOf 113 [.ref r0, .int x1, .int x2, .int x3, .int x4, .int x5, .int x6, v7] [] h Q) : wpx d P_Md_cureOf 110 [.ref r0, .int x1, .int x2, .int x3, .int x4, .int x5, .int x6, v7] [.int s1, .int s0] h Q := by
  exact st_icmp_ne (pc' := 113) rfl rfl kt kf
theorem B_Md_cureOf_113 {d : Nat} {h : PH} {Q : PQ} {r0 : Nat} {x1 : Int32} {x2 : Int32} {x3 : Int32} {x4 : Int32} {x5 : Int32} {x6 : Int32} {v7 : Value}  (kt : ((x6 &&& (-x6)) &&& x4) = 0 → wpx d P_Md_cureOf 129 [.ref r0, .int x1, .int x2, .int x3, .int x4, .int x5, .int x6, v7] [] h Q) (kf : ¬ (((x6 &&& (-x6)) &&& x4) = 0) → wpx d P_Md_cureOf 125 [.ref r0, .int x1, .int x2, .int x3, .int x4, .int x5, .int x6, v7] [] h Q) : wpx d P_Md_cureOf 113 [.ref r0, .int x1, .int x2, .int x3, .int x4, .int x5, .int x6, v7] [] h Q := by
  refine st_iload (pc' := 115) rfl rfl rfl ?_
  refine st_iload (pc' := 117) rfl rfl rfl ?_
  refine st_ineg (pc' := 118) rfl rfl ?_
  refine st_iand (pc' := 119) rfl rfl ?_
  refine st_iload (pc' := 121) rfl rfl rfl ?_
  refine st_iand (pc' := 122) rfl rfl ?_
  exact st_if_eq (pc' := 125) rfl rfl kt kf
theorem B_Md_cureOf_125 {d : Nat} {h : PH} {Q : PQ} {r0 : Nat} {x1 : Int32} {x2 : Int32} {x3 : Int32} {x4 : Int32} {x5 : Int32} {x6 : Int32} {v7 : Value}  (k : wpx d P_Md_cureOf 130 [.ref r0, .int x1, .int x2, .int x3, .int x4, .int x5, .int x6, v7] [.int 1] h Q) : wpx d P_Md_cureOf 125 [.ref r0, .int x1, .int x2, .int x3, .int x4, .int x5, .int x6, v7] [] h Q := by
  refine st_ipush (pc' := 126) (v := 1) rfl rfl (by decide) ?_
  exact st_goto rfl k
theorem B_Md_cureOf_129 {d : Nat} {h : PH} {Q : PQ} {r0 : Nat} {x1 : Int32} {x2 : Int32} {x3 : Int32} {x4 : Int32} {x5 : Int32} {x6 : Int32} {v7 : Value}  (k : wpx d P_Md_cureOf 130 [.ref r0, .int x1, .int x2, .int x3, .int x4, .int x5, .int x6, v7] [.int 0] h Q) : wpx d P_Md_cureOf 129 [.ref r0, .int x1, .int x2, .int x3, .int x4, .int x5, .int x6, v7] [] h Q := by
  refine st_ipush (pc' := 130) (v := 0) rfl rfl (by decide) ?_
  exact k
theorem B_Md_cureOf_130 {d : Nat} {h : PH} {Q : PQ} {r0 : Nat} {x1 : Int32} {x2 : Int32} {x3 : Int32} {x4 : Int32} {x5 : Int32} {x6 : Int32} {v7 : Value} {s0 : Int32}  (kt : s0 = 0 → wpx d P_Md_cureOf 150 [.ref r0, .int x1, .int x2, .int x3, .int x4, .int x5, .int x6, .int s0] [] h Q) (kf : ¬ (s0 = 0) → wpx d P_Md_cureOf 137 [.ref r0, .int x1, .int x2, .int x3, .int x4, .int x5, .int x6, .int s0] [] h Q) : wpx d P_Md_cureOf 130 [.ref r0, .int x1, .int x2, .int x3, .int x4, .int x5, .int x6, v7] [.int s0] h Q := by
  refine st_istore (pc' := 132) (ls' := [.ref r0, .int x1, .int x2, .int x3, .int x4, .int x5, .int x6, .int s0]) rfl rfl (Nat.le_of_ble_eq_true rfl) rfl ?_
  refine st_iload (pc' := 134) rfl rfl rfl ?_
  exact st_if_eq (pc' := 137) rfl rfl kt kf
theorem B_Md_cureOf_137 {d : Nat} {h : PH} {Q : PQ} {r0 : Nat} {x1 : Int32} {x2 : Int32} {x3 : Int32} {x4 : Int32} {x5 : Int32} {x6 : Int32} {x7 : Int32} (hs0 : h_sh h r0 = some (0, 12)) (k : wpm d 275 [.ref r0, .int x1, .int x4] h (fun r h' => wpx d P_Md_cureOf 144 [.ref r0, .int x1, .int x2, .int x3, .int x4, .int x5, .int x6, .int x7] (r.toList ++ []) h' Q)) : wpx d P_Md_cureOf 137 [.ref r0, .int x1, .int x2, .int x3, .int x4, .int x5, .int x6, .int x7] [] h Q := by
  refine st_aload (pc' := 138) rfl rfl rfl ?_
  refine st_iload (pc' := 139) rfl rfl rfl ?_
  refine st_iload (pc' := 141) rfl rfl rfl ?_
  exact st_call (pc' := 144) (as := [.ref r0, .int x1, .int x4]) (rest := []) rfl rfl (Nat.le_of_ble_eq_true rfl) rfl rfl (Nat.le_of_ble_eq_true rfl) (kd := 1) (o := 12) rfl rfl (beq_iff_eq.mpr hs0) k
theorem B_Md_cureOf_144 {d : Nat} {h : PH} {Q : PQ} {r0 : Nat} {x1 : Int32} {x2 : Int32} {x3 : Int32} {x4 : Int32} {x5 : Int32} {x6 : Int32} {x7 : Int32} {s0 : Int32}  (kt : s0 = 0 → wpx d P_Md_cureOf 150 [.ref r0, .int x1, .int x2, .int x3, .int x4, .int x5, .int x6, .int x7] [] h Q) (kf : ¬ (s0 = 0) → wpx d P_Md_cureOf 147 [.ref r0, .int x1, .int x2, .int x3, .int x4, .int x5, .int x6, .int x7] [] h Q) : wpx d P_Md_cureOf 144 [.ref r0, .int x1, .int x2, .int x3, .int x4, .int x5, .int x6, .int x7] [.int s0] h Q := by
  exact st_if_eq (pc' := 147) rfl rfl kt kf
theorem B_Md_cureOf_147 {d : Nat} {h : PH} {Q : PQ} {r0 : Nat} {x1 : Int32} {x2 : Int32} {x3 : Int32} {x4 : Int32} {x5 : Int32} {x6 : Int32} {x7 : Int32}  (k : wpx d P_Md_cureOf 150 [.ref r0, .int x1, .int x2, .int x4, .int x4, .int x5, .int x6, .int x7] [] h Q) : wpx d P_Md_cureOf 147 [.ref r0, .int x1, .int x2, .int x3, .int x4, .int x5, .int x6, .int x7] [] h Q := by
  refine st_iload (pc' := 149) rfl rfl rfl ?_
  refine st_istore (pc' := 150) (ls' := [.ref r0, .int x1, .int x2, .int x4, .int x4, .int x5, .int x6, .int x7]) rfl rfl (Nat.le_of_ble_eq_true rfl) rfl ?_
  exact k
theorem B_Md_cureOf_150 {d : Nat} {h : PH} {Q : PQ} {r0 : Nat} {x1 : Int32} {x2 : Int32} {x3 : Int32} {x4 : Int32} {v5 : Value} {v6 : Value} {v7 : Value}  (k : wpx d P_Md_cureOf 55 [.ref r0, .int x1, .int x2, .int x3, .int (x4 + 1), v5, v6, v7] [] h Q) : wpx d P_Md_cureOf 150 [.ref r0, .int x1, .int x2, .int x3, .int x4, v5, v6, v7] [] h Q := by
  refine st_iinc (pc' := 153) (v := 1) (ls' := [.ref r0, .int x1, .int x2, .int x3, .int (x4 + 1), v5, v6, v7]) rfl rfl rfl (by decide) rfl ?_
  exact st_goto rfl k
theorem B_Md_cureOf_156 {d : Nat} {h : PH} {Q : PQ} {r0 : Nat} {x1 : Int32} {x2 : Int32} {x3 : Int32} {x4 : Int32} {v5 : Value} {v6 : Value} {v7 : Value}  (k : Q (some (.int x3)) h) : wpx d P_Md_cureOf 156 [.ref r0, .int x1, .int x2, .int x3, .int x4, v5, v6, v7] [] h Q := by
  refine st_iload (pc' := 157) rfl rfl rfl ?_
  exact st_ireturn (ty := .int) rfl rfl rfl k
theorem B_Md_cure_0 {d : Nat} {h : PH} {Q : PQ} {r0 : Nat} {x1 : Int32} (hs0 : h_sh h r0 = some (0, 12)) (k : wpm d 170 [.int x1, .int 0, .int 2] (w_i h r0 0 0) (fun r h' => wpx d P_Md_cure 11 [.ref r0, .int x1] (r.toList ++ []) h' Q)) : wpx d P_Md_cure 0 [.ref r0, .int x1] [] h Q := by
  refine st_aload (pc' := 1) rfl rfl rfl ?_
  refine st_ipush (pc' := 2) (v := 0) rfl rfl (by decide) ?_
  refine st_putf (h' := w_i h r0 0 0) (Or.inl rfl) rfl hs0 rfl rfl rfl (pc' := 5) rfl ?_
  refine st_iload (pc' := 6) rfl rfl rfl ?_
  refine st_ipush (pc' := 7) (v := 0) rfl rfl (by decide) ?_
  refine st_ipush (pc' := 8) (v := 2) rfl rfl (by decide) ?_
  exact st_call (pc' := 11) (as := [.int x1, .int 0, .int 2]) (rest := []) rfl rfl (Nat.le_of_ble_eq_true rfl) rfl rfl (Nat.le_of_ble_eq_true rfl) (kd := 0) (o := 12) rfl rfl rfl k
theorem B_Md_cure_11 {d : Nat} {h : PH} {Q : PQ} {r0 : Nat} {x1 : Int32} {s0 : Int32}  (kt : s0 = 0 → wpx d P_Md_cure 22 [.ref r0, .int x1] [] h Q) (kf : ¬ (s0 = 0) → wpx d P_Md_cure 14 [.ref r0, .int x1] [] h Q) : wpx d P_Md_cure 11 [.ref r0, .int x1] [.int s0] h Q := by
  exact st_if_eq (pc' := 14) rfl rfl kt kf
theorem B_Md_cure_14 {d : Nat} {h : PH} {Q : PQ} {r0 : Nat} {x1 : Int32} (hs0 : h_sh h r0 = some (0, 12)) (k : wpm d 276 [.ref r0, .int x1] h (fun r h' => wpx d P_Md_cure 19 [.ref r0, .int x1] (r.toList ++ []) h' Q)) : wpx d P_Md_cure 14 [.ref r0, .int x1] [] h Q := by
  refine st_aload (pc' := 15) rfl rfl rfl ?_
  refine st_iload (pc' := 16) rfl rfl rfl ?_
  exact st_call (pc' := 19) (as := [.ref r0, .int x1]) (rest := []) rfl rfl (Nat.le_of_ble_eq_true rfl) rfl rfl (Nat.le_of_ble_eq_true rfl) (kd := 1) (o := 12) rfl rfl (beq_iff_eq.mpr hs0) k
theorem B_Md_cure_19 {d : Nat} {h : PH} {Q : PQ} {r0 : Nat} {x1 : Int32} {s0 : Int32}  (k : wpx d P_Md_cure 23 [.ref r0, .int x1] [.int s0] h Q) : wpx d P_Md_cure 19 [.ref r0, .int x1] [.int s0] h Q := by
  exact st_goto rfl k
theorem B_Md_cure_22 {d : Nat} {h : PH} {Q : PQ} {r0 : Nat} {x1 : Int32}  (k : wpx d P_Md_cure 23 [.ref r0, .int x1] [.int (-1)] h Q) : wpx d P_Md_cure 22 [.ref r0, .int x1] [] h Q := by
  refine st_ipush (pc' := 23) (v := (-1)) rfl rfl (by decide) ?_
  exact k
theorem B_Md_cure_23 {d : Nat} {h : PH} {Q : PQ} {r0 : Nat} {x1 : Int32} {s0 : Int32}  (k : Q (some (.int s0)) h) : wpx d P_Md_cure 23 [.ref r0, .int x1] [.int s0] h Q := by
  exact st_ireturn (ty := .int) rfl rfl rfl k
theorem B_Md_keep_0 {d : Nat} {h : PH} {Q : PQ} {r0 : Nat} {v1 : Value} {v2 : Value} (hs0 : h_sh h r0 = some (0, 12)) (kt : ¬ ((h_i h r0 76) = (12 : Int32)) → wpx d P_Md_keep 52 [.ref r0, v1, v2] [] h Q) (kf : (h_i h r0 76) = (12 : Int32) → wpx d P_Md_keep 9 [.ref r0, v1, v2] [] h Q) : wpx d P_Md_keep 0 [.ref r0, v1, v2] [] h Q := by
  refine st_aload (pc' := 1) rfl rfl rfl ?_
  refine st_getfi (Or.inl rfl) rfl hs0 rfl (pc' := 4) rfl ?_
  refine st_ipush (pc' := 6) (v := 12) rfl rfl (by decide) ?_
  exact st_icmp_ne (pc' := 9) rfl rfl kt kf
theorem B_Md_keep_9 {d : Nat} {h : PH} {Q : PQ} {r0 : Nat} {v1 : Value} {v2 : Value}  (k : wpx d P_Md_keep 13 [.ref r0, .int 141, v2] [] h Q) : wpx d P_Md_keep 9 [.ref r0, v1, v2] [] h Q := by
  refine st_ipush (pc' := 12) (v := 141) rfl rfl (by decide) ?_
  refine st_istore (pc' := 13) (ls' := [.ref r0, .int 141, v2]) rfl rfl (Nat.le_of_ble_eq_true rfl) rfl ?_
  exact k
theorem B_Md_keep_13 {d : Nat} {h : PH} {Q : PQ} {r0 : Nat} {x1 : Int32} {v2 : Value}  (kt : (1692 : Int32) ≤ x1 → wpx d P_Md_keep 42 [.ref r0, .int x1, v2] [] h Q) (kf : ¬ ((1692 : Int32) ≤ x1) → wpx d P_Md_keep 20 [.ref r0, .int x1, v2] [] h Q) : wpx d P_Md_keep 13 [.ref r0, .int x1, v2] [] h Q := by
  refine st_iload (pc' := 14) rfl rfl rfl ?_
  refine st_ipush (pc' := 17) (v := 1692) rfl rfl (by decide) ?_
  exact st_icmp_ge (pc' := 20) rfl rfl kt kf
theorem B_Md_keep_20 {d : Nat} {h : PH} {Q : PQ} {r0 : Nat} {x1 : Int32} {v2 : Value} {a0 : Nat} {n1 : Nat} (hs0 : h_sh h r0 = some (0, 12)) (hr1 : h_r h r0 75 = some a0) (hs2 : h_sh h a0 = some (1, n1)) (hb3 : vp_in x1 n1) (hb4 : vp_in (x1 - (141 : Int32)) n1) (k : wpx d P_Md_keep 13 [.ref r0, .int (x1 + 1), v2] [] (w_i h a0 ((x1 - (141 : Int32)).toNatClampNeg) (h_i h a0 x1.toNatClampNeg)) Q) : wpx d P_Md_keep 20 [.ref r0, .int x1, v2] [] h Q := by
  refine st_aload (pc' := 21) rfl rfl rfl ?_
  refine st_getfr (x := some a0) (Or.inl rfl) rfl hs0 rfl hr1 (pc' := 24) rfl ?_
  refine st_iload (pc' := 25) rfl rfl rfl ?_
  refine st_ipush (pc' := 28) (v := 141) rfl rfl (by decide) ?_
  refine st_isub (pc' := 29) rfl rfl ?_
  refine st_aload (pc' := 30) rfl rfl rfl ?_
  refine st_getfr (x := some a0) (Or.inl rfl) rfl hs0 rfl hr1 (pc' := 33) rfl ?_
  refine st_iload (pc' := 34) rfl rfl rfl ?_
  refine st_iaload rfl hs2 hb3 (j := x1.toNatClampNeg) rfl (pc' := 35) rfl ?_
  refine st_iastore rfl hs2 hb4 (j := (x1 - (141 : Int32)).toNatClampNeg) rfl (pc' := 36) rfl ?_
  refine st_iinc (pc' := 39) (v := 1) (ls' := [.ref r0, .int (x1 + 1), v2]) rfl rfl rfl (by decide) rfl ?_
  exact st_goto rfl k
theorem B_Md_keep_42 {d : Nat} {h : PH} {Q : PQ} {r0 : Nat} {x1 : Int32} {v2 : Value} (hs0 : h_sh h r0 = some (0, 12)) (k : wpx d P_Md_keep 52 [.ref r0, .int x1, v2] [] (w_i h r0 76 ((h_i h r0 76) - (1 : Int32))) Q) : wpx d P_Md_keep 42 [.ref r0, .int x1, v2] [] h Q := by
  refine st_aload (pc' := 43) rfl rfl rfl ?_
  refine st_dup (pc' := 44) rfl rfl rfl ?_
  refine st_getfi (Or.inl rfl) rfl hs0 rfl (pc' := 47) rfl ?_
  refine st_ipush (pc' := 48) (v := 1) rfl rfl (by decide) ?_
  refine st_isub (pc' := 49) rfl rfl ?_
  refine st_putf (h' := w_i h r0 76 ((h_i h r0 76) - (1 : Int32))) (Or.inl rfl) rfl hs0 rfl rfl rfl (pc' := 52) rfl ?_
  exact k
theorem B_Md_keep_52 {d : Nat} {h : PH} {Q : PQ} {r0 : Nat} {v1 : Value} {v2 : Value} (hs0 : h_sh h r0 = some (0, 12)) (k : wpx d P_Md_keep 63 [.ref r0, .int ((141 : Int32) * (h_i h r0 76)), .int 0] [] h Q) : wpx d P_Md_keep 52 [.ref r0, v1, v2] [] h Q := by
  refine st_ipush (pc' := 55) (v := 141) rfl rfl (by decide) ?_
  refine st_aload (pc' := 56) rfl rfl rfl ?_
  refine st_getfi (Or.inl rfl) rfl hs0 rfl (pc' := 59) rfl ?_
  refine st_imul (pc' := 60) rfl rfl ?_
  refine st_istore (pc' := 61) (ls' := [.ref r0, .int ((141 : Int32) * (h_i h r0 76)), v2]) rfl rfl (Nat.le_of_ble_eq_true rfl) rfl ?_
  refine st_ipush (pc' := 62) (v := 0) rfl rfl (by decide) ?_
  refine st_istore (pc' := 63) (ls' := [.ref r0, .int ((141 : Int32) * (h_i h r0 76)), .int 0]) rfl rfl (Nat.le_of_ble_eq_true rfl) rfl ?_
  exact k
theorem B_Md_keep_63 {d : Nat} {h : PH} {Q : PQ} {r0 : Nat} {x1 : Int32} {x2 : Int32}  (kt : (112 : Int32) ≤ x2 → wpx d P_Md_keep 89 [.ref r0, .int x1, .int x2] [] h Q) (kf : ¬ ((112 : Int32) ≤ x2) → wpx d P_Md_keep 69 [.ref r0, .int x1, .int x2] [] h Q) : wpx d P_Md_keep 63 [.ref r0, .int x1, .int x2] [] h Q := by
  refine st_iload (pc' := 64) rfl rfl rfl ?_
  refine st_ipush (pc' := 66) (v := 112) rfl rfl (by decide) ?_
  exact st_icmp_ge (pc' := 69) rfl rfl kt kf
theorem B_Md_keep_69 {d : Nat} {h : PH} {Q : PQ} {r0 : Nat} {x1 : Int32} {x2 : Int32} {a0 : Nat} {a1 : Nat} {n2 : Nat} {n3 : Nat} (hs0 : h_sh h r0 = some (0, 12)) (hr1 : h_r h r0 75 = some a0) (hr2 : h_r h r0 1 = some a1) (hs3 : h_sh h a1 = some (1, n2)) (hb4 : vp_in x2 n2) (hs5 : h_sh h a0 = some (1, n3)) (hb6 : vp_in (x1 + x2) n3) (k : wpx d P_Md_keep 63 [.ref r0, .int x1, .int (x2 + 1)] [] (w_i h a0 ((x1 + x2).toNatClampNeg) (h_i h a1 x2.toNatClampNeg)) Q) : wpx d P_Md_keep 69 [.ref r0, .int x1, .int x2] [] h Q := by
  refine st_aload (pc' := 70) rfl rfl rfl ?_
  refine st_getfr (x := some a0) (Or.inl rfl) rfl hs0 rfl hr1 (pc' := 73) rfl ?_
  refine st_iload (pc' := 74) rfl rfl rfl ?_
  refine st_iload (pc' := 75) rfl rfl rfl ?_
  refine st_iadd (pc' := 76) rfl rfl ?_
  refine st_aload (pc' := 77) rfl rfl rfl ?_
  refine st_getfr (x := some a1) (Or.inl rfl) rfl hs0 rfl hr2 (pc' := 80) rfl ?_
  refine st_iload (pc' := 81) rfl rfl rfl ?_
  refine st_iaload rfl hs3 hb4 (j := x2.toNatClampNeg) rfl (pc' := 82) rfl ?_
  refine st_iastore rfl hs5 hb6 (j := (x1 + x2).toNatClampNeg) rfl (pc' := 83) rfl ?_
  refine st_iinc (pc' := 86) (v := 1) (ls' := [.ref r0, .int x1, .int (x2 + 1)]) rfl rfl rfl (by decide) rfl ?_
  exact st_goto rfl k
theorem B_Md_keep_89 {d : Nat} {h : PH} {Q : PQ} {r0 : Nat} {x1 : Int32} {x2 : Int32}  (k : wpx d P_Md_keep 91 [.ref r0, .int x1, .int 0] [] h Q) : wpx d P_Md_keep 89 [.ref r0, .int x1, .int x2] [] h Q := by
  refine st_ipush (pc' := 90) (v := 0) rfl rfl (by decide) ?_
  refine st_istore (pc' := 91) (ls' := [.ref r0, .int x1, .int 0]) rfl rfl (Nat.le_of_ble_eq_true rfl) rfl ?_
  exact k
theorem B_Md_keep_91 {d : Nat} {h : PH} {Q : PQ} {r0 : Nat} {x1 : Int32} {x2 : Int32}  (kt : (14 : Int32) ≤ x2 → wpx d P_Md_keep 120 [.ref r0, .int x1, .int x2] [] h Q) (kf : ¬ ((14 : Int32) ≤ x2) → wpx d P_Md_keep 97 [.ref r0, .int x1, .int x2] [] h Q) : wpx d P_Md_keep 91 [.ref r0, .int x1, .int x2] [] h Q := by
  refine st_iload (pc' := 92) rfl rfl rfl ?_
  refine st_ipush (pc' := 94) (v := 14) rfl rfl (by decide) ?_
  exact st_icmp_ge (pc' := 97) rfl rfl kt kf
theorem B_Md_keep_97 {d : Nat} {h : PH} {Q : PQ} {r0 : Nat} {x1 : Int32} {x2 : Int32} {a0 : Nat} {a1 : Nat} {n2 : Nat} {n3 : Nat} (hs0 : h_sh h r0 = some (0, 12)) (hr1 : h_r h r0 75 = some a0) (hr2 : h_r h r0 2 = some a1) (hs3 : h_sh h a1 = some (1, n2)) (hb4 : vp_in x2 n2) (hs5 : h_sh h a0 = some (1, n3)) (hb6 : vp_in ((x1 + (112 : Int32)) + x2) n3) (k : wpx d P_Md_keep 91 [.ref r0, .int x1, .int (x2 + 1)] [] (w_i h a0 (((x1 + (112 : Int32)) + x2).toNatClampNeg) (h_i h a1 x2.toNatClampNeg)) Q) : wpx d P_Md_keep 97 [.ref r0, .int x1, .int x2] [] h Q := by
  refine st_aload (pc' := 98) rfl rfl rfl ?_
  refine st_getfr (x := some a0) (Or.inl rfl) rfl hs0 rfl hr1 (pc' := 101) rfl ?_
  refine st_iload (pc' := 102) rfl rfl rfl ?_
  refine st_ipush (pc' := 104) (v := 112) rfl rfl (by decide) ?_
  refine st_iadd (pc' := 105) rfl rfl ?_
  refine st_iload (pc' := 106) rfl rfl rfl ?_
  refine st_iadd (pc' := 107) rfl rfl ?_
  refine st_aload (pc' := 108) rfl rfl rfl ?_
  refine st_getfr (x := some a1) (Or.inl rfl) rfl hs0 rfl hr2 (pc' := 111) rfl ?_
  refine st_iload (pc' := 112) rfl rfl rfl ?_
  refine st_iaload rfl hs3 hb4 (j := x2.toNatClampNeg) rfl (pc' := 113) rfl ?_
  refine st_iastore rfl hs5 hb6 (j := ((x1 + (112 : Int32)) + x2).toNatClampNeg) rfl (pc' := 114) rfl ?_
  refine st_iinc (pc' := 117) (v := 1) (ls' := [.ref r0, .int x1, .int (x2 + 1)]) rfl rfl rfl (by decide) rfl ?_
  exact st_goto rfl k
theorem B_Md_keep_120 {d : Nat} {h : PH} {Q : PQ} {r0 : Nat} {x1 : Int32} {x2 : Int32} {a0 : Nat} {n1 : Nat} (hs0 : h_sh h r0 = some (0, 12)) (hr1 : h_r h r0 75 = some a0) (hs2 : h_sh h a0 = some (1, n1)) (hb3 : vp_in (x1 + (126 : Int32)) n1) (k : wpm d 197 [.ref r0] (w_i (w_i h a0 ((x1 + (126 : Int32)).toNatClampNeg) (h_i h r0 6)) r0 76 ((h_i (w_i h a0 ((x1 + (126 : Int32)).toNatClampNeg) (h_i h r0 6)) r0 76) + (1 : Int32))) (fun r h' => wpx d P_Md_keep 147 [.ref r0, .int x1, .int x2] (r.toList ++ []) h' Q)) : wpx d P_Md_keep 120 [.ref r0, .int x1, .int x2] [] h Q := by
  refine st_aload (pc' := 121) rfl rfl rfl ?_
  refine st_getfr (x := some a0) (Or.inl rfl) rfl hs0 rfl hr1 (pc' := 124) rfl ?_
  refine st_iload (pc' := 125) rfl rfl rfl ?_
  refine st_ipush (pc' := 127) (v := 126) rfl rfl (by decide) ?_
  refine st_iadd (pc' := 128) rfl rfl ?_
  refine st_aload (pc' := 129) rfl rfl rfl ?_
  refine st_getfi (Or.inl rfl) rfl hs0 rfl (pc' := 132) rfl ?_
  refine st_iastore rfl hs2 hb3 (j := (x1 + (126 : Int32)).toNatClampNeg) rfl (pc' := 133) rfl ?_
  refine st_aload (pc' := 134) rfl rfl rfl ?_
  refine st_dup (pc' := 135) rfl rfl rfl ?_
  refine st_getfi (Or.inl rfl) rfl hs0 rfl (pc' := 138) rfl ?_
  refine st_ipush (pc' := 139) (v := 1) rfl rfl (by decide) ?_
  refine st_iadd (pc' := 140) rfl rfl ?_
  refine st_putf (h' := w_i (w_i h a0 ((x1 + (126 : Int32)).toNatClampNeg) (h_i h r0 6)) r0 76 ((h_i (w_i h a0 ((x1 + (126 : Int32)).toNatClampNeg) (h_i h r0 6)) r0 76) + (1 : Int32))) (Or.inl rfl) rfl hs0 rfl rfl rfl (pc' := 143) rfl ?_
  refine st_aload (pc' := 144) rfl rfl rfl ?_
  exact st_call (pc' := 147) (as := [.ref r0]) (rest := []) rfl rfl (Nat.le_of_ble_eq_true rfl) rfl rfl (Nat.le_of_ble_eq_true rfl) (kd := 1) (o := 12) rfl rfl (beq_iff_eq.mpr hs0) k
theorem B_Md_keep_147 {d : Nat} {h : PH} {Q : PQ} {r0 : Nat} {x1 : Int32} {x2 : Int32}  (k : Q none h) : wpx d P_Md_keep 147 [.ref r0, .int x1, .int x2] [] h Q := by
  exact st_return rfl k
theorem B_Md_mend_0 {d : Nat} {h : PH} {Q : PQ} {r0 : Nat} {x1 : Int32} {v2 : Value} (hs0 : h_sh h r0 = some (0, 12)) (k : wpm d 170 [.int x1, .int 0, .int 2] (w_i h r0 0 0) (fun r h' => wpx d P_Md_mend 11 [.ref r0, .int x1, v2] (r.toList ++ []) h' Q)) : wpx d P_Md_mend 0 [.ref r0, .int x1, v2] [] h Q := by
  refine st_aload (pc' := 1) rfl rfl rfl ?_
  refine st_ipush (pc' := 2) (v := 0) rfl rfl (by decide) ?_
  refine st_putf (h' := w_i h r0 0 0) (Or.inl rfl) rfl hs0 rfl rfl rfl (pc' := 5) rfl ?_
  refine st_iload (pc' := 6) rfl rfl rfl ?_
  refine st_ipush (pc' := 7) (v := 0) rfl rfl (by decide) ?_
  refine st_ipush (pc' := 8) (v := 2) rfl rfl (by decide) ?_
  exact st_call (pc' := 11) (as := [.int x1, .int 0, .int 2]) (rest := []) rfl rfl (Nat.le_of_ble_eq_true rfl) rfl rfl (Nat.le_of_ble_eq_true rfl) (kd := 0) (o := 12) rfl rfl rfl k
theorem B_Md_mend_11 {d : Nat} {h : PH} {Q : PQ} {r0 : Nat} {x1 : Int32} {v2 : Value} {s0 : Int32}  (kt : s0 = 0 → wpx d P_Md_mend 22 [.ref r0, .int x1, v2] [] h Q) (kf : ¬ (s0 = 0) → wpx d P_Md_mend 14 [.ref r0, .int x1, v2] [] h Q) : wpx d P_Md_mend 11 [.ref r0, .int x1, v2] [.int s0] h Q := by
  exact st_if_eq (pc' := 14) rfl rfl kt kf
theorem B_Md_mend_14 {d : Nat} {h : PH} {Q : PQ} {r0 : Nat} {x1 : Int32} {v2 : Value} (hs0 : h_sh h r0 = some (0, 12)) (k : wpm d 276 [.ref r0, .int x1] h (fun r h' => wpx d P_Md_mend 19 [.ref r0, .int x1, v2] (r.toList ++ []) h' Q)) : wpx d P_Md_mend 14 [.ref r0, .int x1, v2] [] h Q := by
  refine st_aload (pc' := 15) rfl rfl rfl ?_
  refine st_iload (pc' := 16) rfl rfl rfl ?_
  exact st_call (pc' := 19) (as := [.ref r0, .int x1]) (rest := []) rfl rfl (Nat.le_of_ble_eq_true rfl) rfl rfl (Nat.le_of_ble_eq_true rfl) (kd := 1) (o := 12) rfl rfl (beq_iff_eq.mpr hs0) k
theorem B_Md_mend_19 {d : Nat} {h : PH} {Q : PQ} {r0 : Nat} {x1 : Int32} {v2 : Value} {s0 : Int32}  (k : wpx d P_Md_mend 23 [.ref r0, .int x1, v2] [.int s0] h Q) : wpx d P_Md_mend 19 [.ref r0, .int x1, v2] [.int s0] h Q := by
  exact st_goto rfl k
theorem B_Md_mend_22 {d : Nat} {h : PH} {Q : PQ} {r0 : Nat} {x1 : Int32} {v2 : Value}  (k : wpx d P_Md_mend 23 [.ref r0, .int x1, v2] [.int (-1)] h Q) : wpx d P_Md_mend 22 [.ref r0, .int x1, v2] [] h Q := by
  refine st_ipush (pc' := 23) (v := (-1)) rfl rfl (by decide) ?_
  exact k
theorem B_Md_mend_23 {d : Nat} {h : PH} {Q : PQ} {r0 : Nat} {x1 : Int32} {v2 : Value} {s0 : Int32}  (kt : 0 < s0 → wpx d P_Md_mend 30 [.ref r0, .int x1, .int s0] [] h Q) (kf : ¬ (0 < s0) → wpx d P_Md_mend 28 [.ref r0, .int x1, .int s0] [] h Q) : wpx d P_Md_mend 23 [.ref r0, .int x1, v2] [.int s0] h Q := by
  refine st_istore (pc' := 24) (ls' := [.ref r0, .int x1, .int s0]) rfl rfl (Nat.le_of_ble_eq_true rfl) rfl ?_
  refine st_iload (pc' := 25) rfl rfl rfl ?_
  exact st_if_gt (pc' := 28) rfl rfl kt kf
theorem B_Md_mend_28 {d : Nat} {h : PH} {Q : PQ} {r0 : Nat} {x1 : Int32} {x2 : Int32}  (k : Q (some (.int (-1))) h) : wpx d P_Md_mend 28 [.ref r0, .int x1, .int x2] [] h Q := by
  refine st_ipush (pc' := 29) (v := (-1)) rfl rfl (by decide) ?_
  exact st_ireturn (ty := .int) rfl rfl rfl k
theorem B_Md_mend_30 {d : Nat} {h : PH} {Q : PQ} {r0 : Nat} {x1 : Int32} {x2 : Int32} (hs0 : h_sh h r0 = some (0, 12)) (k : wpm d 278 [.ref r0] h (fun r h' => wpx d P_Md_mend 34 [.ref r0, .int x1, .int x2] (r.toList ++ []) h' Q)) : wpx d P_Md_mend 30 [.ref r0, .int x1, .int x2] [] h Q := by
  refine st_aload (pc' := 31) rfl rfl rfl ?_
  exact st_call (pc' := 34) (as := [.ref r0]) (rest := []) rfl rfl (Nat.le_of_ble_eq_true rfl) rfl rfl (Nat.le_of_ble_eq_true rfl) (kd := 1) (o := 12) rfl rfl (beq_iff_eq.mpr hs0) k
theorem B_Md_mend_34 {d : Nat} {h : PH} {Q : PQ} {r0 : Nat} {x1 : Int32} {x2 : Int32} (hs0 : h_sh h r0 = some (0, 12)) (k : wpm d 274 [.ref r0, .int x1, .int x2] h (fun r h' => wpx d P_Md_mend 40 [.ref r0, .int x1, .int x2] (r.toList ++ []) h' Q)) : wpx d P_Md_mend 34 [.ref r0, .int x1, .int x2] [] h Q := by
  refine st_aload (pc' := 35) rfl rfl rfl ?_
  refine st_iload (pc' := 36) rfl rfl rfl ?_
  refine st_iload (pc' := 37) rfl rfl rfl ?_
  exact st_call (pc' := 40) (as := [.ref r0, .int x1, .int x2]) (rest := []) rfl rfl (Nat.le_of_ble_eq_true rfl) rfl rfl (Nat.le_of_ble_eq_true rfl) (kd := 1) (o := 12) rfl rfl (beq_iff_eq.mpr hs0) k
theorem B_Md_mend_40 {d : Nat} {h : PH} {Q : PQ} {r0 : Nat} {x1 : Int32} {x2 : Int32}  (k : wpm d 173 [.int x2] h (fun r h' => wpx d P_Md_mend 44 [.ref r0, .int x1, .int x2] (r.toList ++ []) h' Q)) : wpx d P_Md_mend 40 [.ref r0, .int x1, .int x2] [] h Q := by
  refine st_iload (pc' := 41) rfl rfl rfl ?_
  exact st_call (pc' := 44) (as := [.int x2]) (rest := []) rfl rfl (Nat.le_of_ble_eq_true rfl) rfl rfl (Nat.le_of_ble_eq_true rfl) (kd := 0) (o := 12) rfl rfl rfl k
theorem B_Md_mend_44 {d : Nat} {h : PH} {Q : PQ} {r0 : Nat} {x1 : Int32} {x2 : Int32} {s0 : Int32}  (k : Q (some (.int s0)) h) : wpx d P_Md_mend 44 [.ref r0, .int x1, .int x2] [.int s0] h Q := by
  exact st_ireturn (ty := .int) rfl rfl rfl k
theorem B_Md_out_0 {d : Nat} {h : PH} {Q : PQ} {r0 : Nat} {x1 : Int32} {x2 : Int32} (hs0 : h_sh h r0 = some (0, 12)) (k : wpm d 174 [.ref r0, .int x1] (w_i h r0 0 0) (fun r h' => wpx d P_Md_out 10 [.ref r0, .int x1, .int x2] (r.toList ++ []) h' Q)) : wpx d P_Md_out 0 [.ref r0, .int x1, .int x2] [] h Q := by
  refine st_aload (pc' := 1) rfl rfl rfl ?_
  refine st_ipush (pc' := 2) (v := 0) rfl rfl (by decide) ?_
  refine st_putf (h' := w_i h r0 0 0) (Or.inl rfl) rfl hs0 rfl rfl rfl (pc' := 5) rfl ?_
  refine st_aload (pc' := 6) rfl rfl rfl ?_
  refine st_iload (pc' := 7) rfl rfl rfl ?_
  exact st_call (pc' := 10) (as := [.ref r0, .int x1]) (rest := []) rfl rfl (Nat.le_of_ble_eq_true rfl) rfl rfl (Nat.le_of_ble_eq_true rfl) (kd := 1) (o := 12) rfl rfl (beq_iff_eq.mpr hs0) k
theorem B_Md_out_10 {d : Nat} {h : PH} {Q : PQ} {r0 : Nat} {x1 : Int32} {x2 : Int32} {s0 : Int32}  (kt : s0 = 0 → wpx d P_Md_out 25 [.ref r0, .int x1, .int x2] [] h Q) (kf : ¬ (s0 = 0) → wpx d P_Md_out 13 [.ref r0, .int x1, .int x2] [] h Q) : wpx d P_Md_out 10 [.ref r0, .int x1, .int x2] [.int s0] h Q := by
  exact st_if_eq (pc' := 13) rfl rfl kt kf
theorem B_Md_out_13 {d : Nat} {h : PH} {Q : PQ} {r0 : Nat} {x1 : Int32} {x2 : Int32} (hs0 : h_sh h r0 = some (0, 12)) (k : wpm d 171 [.int (h_i h r0 6), .int x1] h (fun r h' => wpx d P_Md_out 21 [.ref r0, .int x1, .int x2] (r.toList ++ []) h' Q)) : wpx d P_Md_out 13 [.ref r0, .int x1, .int x2] [] h Q := by
  refine st_aload (pc' := 14) rfl rfl rfl ?_
  refine st_getfi (Or.inl rfl) rfl hs0 rfl (pc' := 17) rfl ?_
  refine st_iload (pc' := 18) rfl rfl rfl ?_
  exact st_call (pc' := 21) (as := [.int (h_i h r0 6), .int x1]) (rest := []) rfl rfl (Nat.le_of_ble_eq_true rfl) rfl rfl (Nat.le_of_ble_eq_true rfl) (kd := 0) (o := 12) rfl rfl rfl k
theorem B_Md_out_21 {d : Nat} {h : PH} {Q : PQ} {r0 : Nat} {x1 : Int32} {x2 : Int32} {s0 : Int32}  (kt : s0 = x2 → wpx d P_Md_out 27 [.ref r0, .int x1, .int x2] [] h Q) (kf : ¬ (s0 = x2) → wpx d P_Md_out 25 [.ref r0, .int x1, .int x2] [] h Q) : wpx d P_Md_out 21 [.ref r0, .int x1, .int x2] [.int s0] h Q := by
  refine st_iload (pc' := 22) rfl rfl rfl ?_
  exact st_icmp_eq (pc' := 25) rfl rfl kt kf
theorem B_Md_out_25 {d : Nat} {h : PH} {Q : PQ} {r0 : Nat} {x1 : Int32} {x2 : Int32}  (k : Q (some (.int 0)) h) : wpx d P_Md_out 25 [.ref r0, .int x1, .int x2] [] h Q := by
  refine st_ipush (pc' := 26) (v := 0) rfl rfl (by decide) ?_
  exact st_ireturn (ty := .boolean) rfl rfl (by decide) k
theorem B_Md_out_27 {d : Nat} {h : PH} {Q : PQ} {r0 : Nat} {x1 : Int32} {x2 : Int32} (hs0 : h_sh h r0 = some (0, 12)) (k : wpm d 278 [.ref r0] h (fun r h' => wpx d P_Md_out 31 [.ref r0, .int x1, .int x2] (r.toList ++ []) h' Q)) : wpx d P_Md_out 27 [.ref r0, .int x1, .int x2] [] h Q := by
  refine st_aload (pc' := 28) rfl rfl rfl ?_
  exact st_call (pc' := 31) (as := [.ref r0]) (rest := []) rfl rfl (Nat.le_of_ble_eq_true rfl) rfl rfl (Nat.le_of_ble_eq_true rfl) (kd := 1) (o := 12) rfl rfl (beq_iff_eq.mpr hs0) k
theorem B_Md_out_31 {d : Nat} {h : PH} {Q : PQ} {r0 : Nat} {x1 : Int32} {x2 : Int32} (hs0 : h_sh h r0 = some (0, 12)) (k : Q (some (.int 1)) (w_i h r0 6 ((h_i h r0 6) ^^^ ((1 : Int32) <<< (x1 &&& 31))))) : wpx d P_Md_out 31 [.ref r0, .int x1, .int x2] [] h Q := by
  refine st_aload (pc' := 32) rfl rfl rfl ?_
  refine st_dup (pc' := 33) rfl rfl rfl ?_
  refine st_getfi (Or.inl rfl) rfl hs0 rfl (pc' := 36) rfl ?_
  refine st_ipush (pc' := 37) (v := 1) rfl rfl (by decide) ?_
  refine st_iload (pc' := 38) rfl rfl rfl ?_
  refine st_ishl (pc' := 39) rfl rfl ?_
  refine st_ixor (pc' := 40) rfl rfl ?_
  refine st_putf (h' := w_i h r0 6 ((h_i h r0 6) ^^^ ((1 : Int32) <<< (x1 &&& 31)))) (Or.inl rfl) rfl hs0 rfl rfl rfl (pc' := 43) rfl ?_
  refine st_ipush (pc' := 44) (v := 1) rfl rfl (by decide) ?_
  exact st_ireturn (ty := .boolean) rfl rfl (by decide) k
theorem B_Md_undo_0 {d : Nat} {h : PH} {Q : PQ} {r0 : Nat} {v1 : Value} {v2 : Value} (hs0 : h_sh h r0 = some (0, 12)) (kt : ¬ ((h_i (w_i h r0 0 0) r0 76) = 0) → wpx d P_Md_undo 14 [.ref r0, v1, v2] [] (w_i h r0 0 0) Q) (kf : (h_i (w_i h r0 0 0) r0 76) = 0 → wpx d P_Md_undo 12 [.ref r0, v1, v2] [] (w_i h r0 0 0) Q) : wpx d P_Md_undo 0 [.ref r0, v1, v2] [] h Q := by
  refine st_aload (pc' := 1) rfl rfl rfl ?_
  refine st_ipush (pc' := 2) (v := 0) rfl rfl (by decide) ?_
  refine st_putf (h' := w_i h r0 0 0) (Or.inl rfl) rfl hs0 rfl rfl rfl (pc' := 5) rfl ?_
  refine st_aload (pc' := 6) rfl rfl rfl ?_
  refine st_getfi (Or.inl rfl) rfl hs0 rfl (pc' := 9) rfl ?_
  exact st_if_ne (pc' := 12) rfl rfl kt kf
theorem B_Md_undo_12 {d : Nat} {h : PH} {Q : PQ} {r0 : Nat} {v1 : Value} {v2 : Value}  (k : Q (some (.int 0)) h) : wpx d P_Md_undo 12 [.ref r0, v1, v2] [] h Q := by
  refine st_ipush (pc' := 13) (v := 0) rfl rfl (by decide) ?_
  exact st_ireturn (ty := .boolean) rfl rfl (by decide) k
theorem B_Md_undo_14 {d : Nat} {h : PH} {Q : PQ} {r0 : Nat} {v1 : Value} {v2 : Value} (hs0 : h_sh h r0 = some (0, 12)) (k : wpx d P_Md_undo 35 [.ref r0, .int ((141 : Int32) * (h_i (w_i h r0 76 ((h_i h r0 76) - (1 : Int32))) r0 76)), .int 0] [] (w_i h r0 76 ((h_i h r0 76) - (1 : Int32))) Q) : wpx d P_Md_undo 14 [.ref r0, v1, v2] [] h Q := by
  refine st_aload (pc' := 15) rfl rfl rfl ?_
  refine st_dup (pc' := 16) rfl rfl rfl ?_
  refine st_getfi (Or.inl rfl) rfl hs0 rfl (pc' := 19) rfl ?_
  refine st_ipush (pc' := 20) (v := 1) rfl rfl (by decide) ?_
  refine st_isub (pc' := 21) rfl rfl ?_
  refine st_putf (h' := w_i h r0 76 ((h_i h r0 76) - (1 : Int32))) (Or.inl rfl) rfl hs0 rfl rfl rfl (pc' := 24) rfl ?_
  refine st_ipush (pc' := 27) (v := 141) rfl rfl (by decide) ?_
  refine st_aload (pc' := 28) rfl rfl rfl ?_
  refine st_getfi (Or.inl rfl) rfl hs0 rfl (pc' := 31) rfl ?_
  refine st_imul (pc' := 32) rfl rfl ?_
  refine st_istore (pc' := 33) (ls' := [.ref r0, .int ((141 : Int32) * (h_i (w_i h r0 76 ((h_i h r0 76) - (1 : Int32))) r0 76)), v2]) rfl rfl (Nat.le_of_ble_eq_true rfl) rfl ?_
  refine st_ipush (pc' := 34) (v := 0) rfl rfl (by decide) ?_
  refine st_istore (pc' := 35) (ls' := [.ref r0, .int ((141 : Int32) * (h_i (w_i h r0 76 ((h_i h r0 76) - (1 : Int32))) r0 76)), .int 0]) rfl rfl (Nat.le_of_ble_eq_true rfl) rfl ?_
  exact k
theorem B_Md_undo_35 {d : Nat} {h : PH} {Q : PQ} {r0 : Nat} {x1 : Int32} {x2 : Int32}  (kt : (112 : Int32) ≤ x2 → wpx d P_Md_undo 61 [.ref r0, .int x1, .int x2] [] h Q) (kf : ¬ ((112 : Int32) ≤ x2) → wpx d P_Md_undo 41 [.ref r0, .int x1, .int x2] [] h Q) : wpx d P_Md_undo 35 [.ref r0, .int x1, .int x2] [] h Q := by
  refine st_iload (pc' := 36) rfl rfl rfl ?_
  refine st_ipush (pc' := 38) (v := 112) rfl rfl (by decide) ?_
  exact st_icmp_ge (pc' := 41) rfl rfl kt kf
theorem B_Md_undo_41 {d : Nat} {h : PH} {Q : PQ} {r0 : Nat} {x1 : Int32} {x2 : Int32} {a0 : Nat} {a1 : Nat} {n2 : Nat} {n3 : Nat} (hs0 : h_sh h r0 = some (0, 12)) (hr1 : h_r h r0 1 = some a0) (hr2 : h_r h r0 75 = some a1) (hs3 : h_sh h a1 = some (1, n2)) (hb4 : vp_in (x1 + x2) n2) (hs5 : h_sh h a0 = some (1, n3)) (hb6 : vp_in x2 n3) (k : wpx d P_Md_undo 35 [.ref r0, .int x1, .int (x2 + 1)] [] (w_i h a0 x2.toNatClampNeg (h_i h a1 (x1 + x2).toNatClampNeg)) Q) : wpx d P_Md_undo 41 [.ref r0, .int x1, .int x2] [] h Q := by
  refine st_aload (pc' := 42) rfl rfl rfl ?_
  refine st_getfr (x := some a0) (Or.inl rfl) rfl hs0 rfl hr1 (pc' := 45) rfl ?_
  refine st_iload (pc' := 46) rfl rfl rfl ?_
  refine st_aload (pc' := 47) rfl rfl rfl ?_
  refine st_getfr (x := some a1) (Or.inl rfl) rfl hs0 rfl hr2 (pc' := 50) rfl ?_
  refine st_iload (pc' := 51) rfl rfl rfl ?_
  refine st_iload (pc' := 52) rfl rfl rfl ?_
  refine st_iadd (pc' := 53) rfl rfl ?_
  refine st_iaload rfl hs3 hb4 (j := (x1 + x2).toNatClampNeg) rfl (pc' := 54) rfl ?_
  refine st_iastore rfl hs5 hb6 (j := x2.toNatClampNeg) rfl (pc' := 55) rfl ?_
  refine st_iinc (pc' := 58) (v := 1) (ls' := [.ref r0, .int x1, .int (x2 + 1)]) rfl rfl rfl (by decide) rfl ?_
  exact st_goto rfl k
theorem B_Md_undo_61 {d : Nat} {h : PH} {Q : PQ} {r0 : Nat} {x1 : Int32} {x2 : Int32}  (k : wpx d P_Md_undo 63 [.ref r0, .int x1, .int 0] [] h Q) : wpx d P_Md_undo 61 [.ref r0, .int x1, .int x2] [] h Q := by
  refine st_ipush (pc' := 62) (v := 0) rfl rfl (by decide) ?_
  refine st_istore (pc' := 63) (ls' := [.ref r0, .int x1, .int 0]) rfl rfl (Nat.le_of_ble_eq_true rfl) rfl ?_
  exact k
theorem B_Md_undo_63 {d : Nat} {h : PH} {Q : PQ} {r0 : Nat} {x1 : Int32} {x2 : Int32}  (kt : (14 : Int32) ≤ x2 → wpx d P_Md_undo 92 [.ref r0, .int x1, .int x2] [] h Q) (kf : ¬ ((14 : Int32) ≤ x2) → wpx d P_Md_undo 69 [.ref r0, .int x1, .int x2] [] h Q) : wpx d P_Md_undo 63 [.ref r0, .int x1, .int x2] [] h Q := by
  refine st_iload (pc' := 64) rfl rfl rfl ?_
  refine st_ipush (pc' := 66) (v := 14) rfl rfl (by decide) ?_
  exact st_icmp_ge (pc' := 69) rfl rfl kt kf
theorem B_Md_undo_69 {d : Nat} {h : PH} {Q : PQ} {r0 : Nat} {x1 : Int32} {x2 : Int32} {a0 : Nat} {a1 : Nat} {n2 : Nat} {n3 : Nat} (hs0 : h_sh h r0 = some (0, 12)) (hr1 : h_r h r0 2 = some a0) (hr2 : h_r h r0 75 = some a1) (hs3 : h_sh h a1 = some (1, n2)) (hb4 : vp_in ((x1 + (112 : Int32)) + x2) n2) (hs5 : h_sh h a0 = some (1, n3)) (hb6 : vp_in x2 n3) (k : wpx d P_Md_undo 63 [.ref r0, .int x1, .int (x2 + 1)] [] (w_i h a0 x2.toNatClampNeg (h_i h a1 ((x1 + (112 : Int32)) + x2).toNatClampNeg)) Q) : wpx d P_Md_undo 69 [.ref r0, .int x1, .int x2] [] h Q := by
  refine st_aload (pc' := 70) rfl rfl rfl ?_
  refine st_getfr (x := some a0) (Or.inl rfl) rfl hs0 rfl hr1 (pc' := 73) rfl ?_
  refine st_iload (pc' := 74) rfl rfl rfl ?_
  refine st_aload (pc' := 75) rfl rfl rfl ?_
  refine st_getfr (x := some a1) (Or.inl rfl) rfl hs0 rfl hr2 (pc' := 78) rfl ?_
  refine st_iload (pc' := 79) rfl rfl rfl ?_
  refine st_ipush (pc' := 81) (v := 112) rfl rfl (by decide) ?_
  refine st_iadd (pc' := 82) rfl rfl ?_
  refine st_iload (pc' := 83) rfl rfl rfl ?_
  refine st_iadd (pc' := 84) rfl rfl ?_
  refine st_iaload rfl hs3 hb4 (j := ((x1 + (112 : Int32)) + x2).toNatClampNeg) rfl (pc' := 85) rfl ?_
  refine st_iastore rfl hs5 hb6 (j := x2.toNatClampNeg) rfl (pc' := 86) rfl ?_
  refine st_iinc (pc' := 89) (v := 1) (ls' := [.ref r0, .int x1, .int (x2 + 1)]) rfl rfl rfl (by decide) rfl ?_
  exact st_goto rfl k
theorem B_Md_undo_92 {d : Nat} {h : PH} {Q : PQ} {r0 : Nat} {x1 : Int32} {x2 : Int32} {a0 : Nat} {n1 : Nat} (hs0 : h_sh h r0 = some (0, 12)) (hr1 : h_r h r0 75 = some a0) (hs2 : h_sh h a0 = some (1, n1)) (hb3 : vp_in (x1 + (126 : Int32)) n1) (k : wpm d 197 [.ref r0] (w_i h r0 6 (h_i h a0 (x1 + (126 : Int32)).toNatClampNeg)) (fun r h' => wpx d P_Md_undo 109 [.ref r0, .int x1, .int x2] (r.toList ++ []) h' Q)) : wpx d P_Md_undo 92 [.ref r0, .int x1, .int x2] [] h Q := by
  refine st_aload (pc' := 93) rfl rfl rfl ?_
  refine st_aload (pc' := 94) rfl rfl rfl ?_
  refine st_getfr (x := some a0) (Or.inl rfl) rfl hs0 rfl hr1 (pc' := 97) rfl ?_
  refine st_iload (pc' := 98) rfl rfl rfl ?_
  refine st_ipush (pc' := 100) (v := 126) rfl rfl (by decide) ?_
  refine st_iadd (pc' := 101) rfl rfl ?_
  refine st_iaload rfl hs2 hb3 (j := (x1 + (126 : Int32)).toNatClampNeg) rfl (pc' := 102) rfl ?_
  refine st_putf (h' := w_i h r0 6 (h_i h a0 (x1 + (126 : Int32)).toNatClampNeg)) (Or.inl rfl) rfl hs0 rfl rfl rfl (pc' := 105) rfl ?_
  refine st_aload (pc' := 106) rfl rfl rfl ?_
  exact st_call (pc' := 109) (as := [.ref r0]) (rest := []) rfl rfl (Nat.le_of_ble_eq_true rfl) rfl rfl (Nat.le_of_ble_eq_true rfl) (kd := 1) (o := 12) rfl rfl (beq_iff_eq.mpr hs0) k
theorem B_Md_undo_109 {d : Nat} {h : PH} {Q : PQ} {r0 : Nat} {x1 : Int32} {x2 : Int32}  (k : Q (some (.int 1)) h) : wpx d P_Md_undo 109 [.ref r0, .int x1, .int x2] [] h Q := by
  refine st_ipush (pc' := 110) (v := 1) rfl rfl (by decide) ?_
  exact st_ireturn (ty := .boolean) rfl rfl (by decide) k
