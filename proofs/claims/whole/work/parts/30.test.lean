/-! stretches of methods -/
theorem B_Md_alike_0 {d : Nat} {h : PH} {Q : PQ} {r0 : Nat} {x1 : Int32} {x2 : Int32} {x3 : Int32} {x4 : Int32} {v5 : Value}  (k : wpx d P_Md_alike 3 [.ref r0, .int x1, .int x2, .int x3, .int x4, .int 0] [] h Q) : wpx d P_Md_alike 0 [.ref r0, .int x1, .int x2, .int x3, .int x4, v5] [] h Q := by
  refine st_ipush (pc' := 1) (v := 0) rfl rfl (by decide) ?_
  refine st_istore (pc' := 3) (ls' := [.ref r0, .int x1, .int x2, .int x3, .int x4, .int 0]) rfl rfl (Nat.le_of_ble_eq_true rfl) rfl ?_
  exact k
theorem B_Md_alike_3 {d : Nat} {h : PH} {Q : PQ} {r0 : Nat} {x1 : Int32} {x2 : Int32} {x3 : Int32} {x4 : Int32} {x5 : Int32} {a0 : Nat} {n1 : Nat} (hs0 : h_sh h r0 = some (0, 12)) (hr1 : h_r h r0 2 = some a0) (hs2 : h_sh h a0 = some (1, n1)) (hb3 : vp_in x1 n1) (kt : (h_i h a0 x1.toNatClampNeg) ≤ (x2 + x5) → wpx d P_Md_alike 58 [.ref r0, .int x1, .int x2, .int x3, .int x4, .int x5] [] h Q) (kf : ¬ ((h_i h a0 x1.toNatClampNeg) ≤ (x2 + x5)) → wpx d P_Md_alike 16 [.ref r0, .int x1, .int x2, .int x3, .int x4, .int x5] [] h Q) : wpx d P_Md_alike 3 [.ref r0, .int x1, .int x2, .int x3, .int x4, .int x5] [] h Q := by
  refine st_iload (pc' := 4) rfl rfl rfl ?_
  refine st_iload (pc' := 6) rfl rfl rfl ?_
  refine st_iadd (pc' := 7) rfl rfl ?_
  refine st_aload (pc' := 8) rfl rfl rfl ?_
  refine st_getfr (x := some a0) (Or.inl rfl) rfl hs0 rfl hr1 (pc' := 11) rfl ?_
  refine st_iload (pc' := 12) rfl rfl rfl ?_
  refine st_iaload rfl hs2 hb3 (pc' := 13) rfl ?_
  exact st_icmp_ge (pc' := 16) rfl rfl kt kf
theorem B_Md_alike_16 {d : Nat} {h : PH} {Q : PQ} {r0 : Nat} {x1 : Int32} {x2 : Int32} {x3 : Int32} {x4 : Int32} {x5 : Int32} {a0 : Nat} {n1 : Nat} (hs0 : h_sh h r0 = some (0, 12)) (hr1 : h_r h r0 2 = some a0) (hs2 : h_sh h a0 = some (1, n1)) (hb3 : vp_in x3 n1) (kt : (h_i h a0 x3.toNatClampNeg) ≤ (x4 + x5) → wpx d P_Md_alike 58 [.ref r0, .int x1, .int x2, .int x3, .int x4, .int x5] [] h Q) (kf : ¬ ((h_i h a0 x3.toNatClampNeg) ≤ (x4 + x5)) → wpx d P_Md_alike 30 [.ref r0, .int x1, .int x2, .int x3, .int x4, .int x5] [] h Q) : wpx d P_Md_alike 16 [.ref r0, .int x1, .int x2, .int x3, .int x4, .int x5] [] h Q := by
  refine st_iload (pc' := 18) rfl rfl rfl ?_
  refine st_iload (pc' := 20) rfl rfl rfl ?_
  refine st_iadd (pc' := 21) rfl rfl ?_
  refine st_aload (pc' := 22) rfl rfl rfl ?_
  refine st_getfr (x := some a0) (Or.inl rfl) rfl hs0 rfl hr1 (pc' := 25) rfl ?_
  refine st_iload (pc' := 26) rfl rfl rfl ?_
  refine st_iaload rfl hs2 hb3 (pc' := 27) rfl ?_
  exact st_icmp_ge (pc' := 30) rfl rfl kt kf
theorem B_Md_alike_30 {d : Nat} {h : PH} {Q : PQ} {r0 : Nat} {x1 : Int32} {x2 : Int32} {x3 : Int32} {x4 : Int32} {x5 : Int32} (hs0 : h_sh h r0 = some (0, 12)) (k : wpm d 174 [.ref r0, .int x1, .int (x2 + x5)] h (fun r h' => wpx d P_Md_alike 39 [.ref r0, .int x1, .int x2, .int x3, .int x4, .int x5] (r.toList ++ []) h' Q)) : wpx d P_Md_alike 30 [.ref r0, .int x1, .int x2, .int x3, .int x4, .int x5] [] h Q := by
  refine st_aload (pc' := 31) rfl rfl rfl ?_
  refine st_iload (pc' := 32) rfl rfl rfl ?_
  refine st_iload (pc' := 33) rfl rfl rfl ?_
  refine st_iload (pc' := 35) rfl rfl rfl ?_
  refine st_iadd (pc' := 36) rfl rfl ?_
  exact st_call (pc' := 39) (as := [.ref r0, .int x1, .int (x2 + x5)]) (rest := []) rfl rfl (Nat.le_of_ble_eq_true rfl) rfl rfl (Nat.le_of_ble_eq_true rfl) (kd := 1) (o := 12) rfl rfl (beq_iff_eq.mpr hs0) k
theorem B_Md_alike_39 {d : Nat} {h : PH} {Q : PQ} {r0 : Nat} {x1 : Int32} {x2 : Int32} {x3 : Int32} {x4 : Int32} {x5 : Int32} {s0 : Int32} (hs0 : h_sh h r0 = some (0, 12)) (k : wpm d 174 [.ref r0, .int x3, .int (x4 + x5)] h (fun r h' => wpx d P_Md_alike 49 [.ref r0, .int x1, .int x2, .int x3, .int x4, .int x5] (r.toList ++ [.int s0]) h' Q)) : wpx d P_Md_alike 39 [.ref r0, .int x1, .int x2, .int x3, .int x4, .int x5] [.int s0] h Q := by
  refine st_aload (pc' := 40) rfl rfl rfl ?_
  refine st_iload (pc' := 41) rfl rfl rfl ?_
  refine st_iload (pc' := 43) rfl rfl rfl ?_
  refine st_iload (pc' := 45) rfl rfl rfl ?_
  refine st_iadd (pc' := 46) rfl rfl ?_
  exact st_call (pc' := 49) (as := [.ref r0, .int x3, .int (x4 + x5)]) (rest := [.int s0]) rfl rfl (Nat.le_of_ble_eq_true rfl) rfl rfl (Nat.le_of_ble_eq_true rfl) (kd := 1) (o := 12) rfl rfl (beq_iff_eq.mpr hs0) k
theorem B_Md_alike_49 {d : Nat} {h : PH} {Q : PQ} {r0 : Nat} {x1 : Int32} {x2 : Int32} {x3 : Int32} {x4 : Int32} {x5 : Int32} {s0 : Int32} {s1 : Int32}  (kt : ¬ (s0 = s1) → wpx d P_Md_alike 58 [.ref r0, .int x1, .int x2, .int x3, .int x4, .int x5] [] h Q) (kf : s0 = s1 → wpx d P_Md_alike 52 [.ref r0, .int x1, .int x2, .int x3, .int x4, .int x5] [] h Q) : wpx d P_Md_alike 49 [.ref r0, .int x1, .int x2, .int x3, .int x4, .int x5] [.int s1, .int s0] h Q := by
  exact st_icmp_ne (pc' := 52) rfl rfl kt kf
theorem B_Md_alike_52 {d : Nat} {h : PH} {Q : PQ} {r0 : Nat} {x1 : Int32} {x2 : Int32} {x3 : Int32} {x4 : Int32} {x5 : Int32}  (k : wpx d P_Md_alike 3 [.ref r0, .int x1, .int x2, .int x3, .int x4, .int (x5 + 1)] [] h Q) : wpx d P_Md_alike 52 [.ref r0, .int x1, .int x2, .int x3, .int x4, .int x5] [] h Q := by
  refine st_iinc (pc' := 55) (v := 1) (ls' := [.ref r0, .int x1, .int x2, .int x3, .int x4, .int (x5 + 1)]) rfl rfl rfl (by decide) rfl ?_
  exact st_goto rfl k
theorem B_Md_alike_58 {d : Nat} {h : PH} {Q : PQ} {r0 : Nat} {x1 : Int32} {x2 : Int32} {x3 : Int32} {x4 : Int32} {x5 : Int32}  (k : Q (some (.int x5)) h) : wpx d P_Md_alike 58 [.ref r0, .int x1, .int x2, .int x3, .int x4, .int x5] [] h Q := by
  refine st_iload (pc' := 60) rfl rfl rfl ?_
  exact st_ireturn (ty := .int) rfl rfl rfl k
theorem B_Md_letterAt_0 {d : Nat} {h : PH} {Q : PQ} {r0 : Nat} {x1 : Int32} {x2 : Int32} {a0 : Nat} {n1 : Nat} (hs0 : h_sh h r0 = some (0, 12)) (hr1 : h_r h r0 1 = some a0) (hs2 : h_sh h a0 = some (1, n1)) (hb3 : vp_in (((8 : Int32) * x1) + x2) n1) (k : Q (some (.int (h_i h a0 (((8 : Int32) * x1) + x2).toNatClampNeg))) h) : wpx d P_Md_letterAt 0 [.ref r0, .int x1, .int x2] [] h Q := by
  refine st_aload (pc' := 1) rfl rfl rfl ?_
  refine st_getfr (x := some a0) (Or.inl rfl) rfl hs0 rfl hr1 (pc' := 4) rfl ?_
  refine st_ipush (pc' := 6) (v := 8) rfl rfl (by decide) ?_
  refine st_iload (pc' := 7) rfl rfl rfl ?_
  refine st_imul (pc' := 8) rfl rfl ?_
  refine st_iload (pc' := 9) rfl rfl rfl ?_
  refine st_iadd (pc' := 10) rfl rfl ?_
  refine st_iaload rfl hs2 hb3 (pc' := 11) rfl ?_
  exact st_ireturn (ty := .int) rfl rfl rfl k
theorem B_Gr_change_0 {d : Nat} {h : PH} {Q : PQ} {r0 : Nat} {x1 : Int32} {x2 : Int32} {v3 : Value} (hs0 : h_sh h r0 = some (0, 3)) (kt : ¬ (x1 = (2 : Int32)) → wpx d P_Gr_change 26 [.ref r0, .int x1, .int x2, v3] [] (w_i h r0 6 ((h_i h r0 6) + (1 : Int32))) Q) (kf : x1 = (2 : Int32) → wpx d P_Gr_change 15 [.ref r0, .int x1, .int x2, v3] [] (w_i h r0 6 ((h_i h r0 6) + (1 : Int32))) Q) : wpx d P_Gr_change 0 [.ref r0, .int x1, .int x2, v3] [] h Q := by
  refine st_aload (pc' := 1) rfl rfl rfl ?_
  refine st_dup (pc' := 2) rfl rfl rfl ?_
  refine st_getfi (Or.inl rfl) rfl hs0 rfl (pc' := 5) rfl ?_
  refine st_ipush (pc' := 6) (v := 1) rfl rfl (by decide) ?_
  refine st_iadd (pc' := 7) rfl rfl ?_
  refine st_putf (h' := w_i h r0 6 ((h_i h r0 6) + (1 : Int32))) (Or.inl rfl) rfl hs0 rfl rfl rfl (pc' := 10) rfl ?_
  refine st_iload (pc' := 11) rfl rfl rfl ?_
  refine st_ipush (pc' := 12) (v := 2) rfl rfl (by decide) ?_
  exact st_icmp_ne (pc' := 15) rfl rfl kt kf
theorem B_Gr_change_15 {d : Nat} {h : PH} {Q : PQ} {r0 : Nat} {x1 : Int32} {x2 : Int32} {v3 : Value} (hs0 : h_sh h r0 = some (0, 3)) (k : Q none (w_i h r0 5 ((h_i h r0 5) ^^^ x2))) : wpx d P_Gr_change 15 [.ref r0, .int x1, .int x2, v3] [] h Q := by
  refine st_aload (pc' := 16) rfl rfl rfl ?_
  refine st_dup (pc' := 17) rfl rfl rfl ?_
  refine st_getfi (Or.inl rfl) rfl hs0 rfl (pc' := 20) rfl ?_
  refine st_iload (pc' := 21) rfl rfl rfl ?_
  refine st_ixor (pc' := 22) rfl rfl ?_
  refine st_putf (h' := w_i h r0 5 ((h_i h r0 5) ^^^ x2)) (Or.inl rfl) rfl hs0 rfl rfl rfl (pc' := 25) rfl ?_
  exact st_return rfl k
theorem B_Gr_change_26 {d : Nat} {h : PH} {Q : PQ} {r0 : Nat} {x1 : Int32} {x2 : Int32} {v3 : Value}  (k : wpx d P_Gr_change 28 [.ref r0, .int x1, .int x2, .int 0] [] h Q) : wpx d P_Gr_change 26 [.ref r0, .int x1, .int x2, v3] [] h Q := by
  refine st_ipush (pc' := 27) (v := 0) rfl rfl (by decide) ?_
  refine st_istore (pc' := 28) (ls' := [.ref r0, .int x1, .int x2, .int 0]) rfl rfl (Nat.le_of_ble_eq_true rfl) rfl ?_
  exact k
theorem B_Gr_change_28 {d : Nat} {h : PH} {Q : PQ} {r0 : Nat} {x1 : Int32} {x2 : Int32} {x3 : Int32} (hs0 : h_sh h r0 = some (0, 3)) (kt : (h_i h r0 3) ≤ x3 → wpx d P_Gr_change 117 [.ref r0, .int x1, .int x2, .int x3] [] h Q) (kf : ¬ ((h_i h r0 3) ≤ x3) → wpx d P_Gr_change 36 [.ref r0, .int x1, .int x2, .int x3] [] h Q) : wpx d P_Gr_change 28 [.ref r0, .int x1, .int x2, .int x3] [] h Q := by
  refine st_iload (pc' := 29) rfl rfl rfl ?_
  refine st_aload (pc' := 30) rfl rfl rfl ?_
  refine st_getfi (Or.inl rfl) rfl hs0 rfl (pc' := 33) rfl ?_
  exact st_icmp_ge (pc' := 36) rfl rfl kt kf
theorem B_Gr_change_36 {d : Nat} {h : PH} {Q : PQ} {r0 : Nat} {x1 : Int32} {x2 : Int32} {x3 : Int32}  (kt : ¬ ((((x2.toUInt32 >>> (x3.toUInt32 &&& Int32.toUInt32 31)).toInt32) &&& (1 : Int32)) = (1 : Int32)) → wpx d P_Gr_change 111 [.ref r0, .int x1, .int x2, .int x3] [] h Q) (kf : (((x2.toUInt32 >>> (x3.toUInt32 &&& Int32.toUInt32 31)).toInt32) &&& (1 : Int32)) = (1 : Int32) → wpx d P_Gr_change 45 [.ref r0, .int x1, .int x2, .int x3] [] h Q) : wpx d P_Gr_change 36 [.ref r0, .int x1, .int x2, .int x3] [] h Q := by
  refine st_iload (pc' := 37) rfl rfl rfl ?_
  refine st_iload (pc' := 38) rfl rfl rfl ?_
  refine st_iushr (pc' := 39) rfl rfl ?_
  refine st_ipush (pc' := 40) (v := 1) rfl rfl (by decide) ?_
  refine st_iand (pc' := 41) rfl rfl ?_
  refine st_ipush (pc' := 42) (v := 1) rfl rfl (by decide) ?_
  exact st_icmp_ne (pc' := 45) rfl rfl kt kf
theorem B_Gr_change_45 {d : Nat} {h : PH} {Q : PQ} {r0 : Nat} {x1 : Int32} {x2 : Int32} {x3 : Int32} {a0 : Nat} {n1 : Nat} (hs0 : h_sh h r0 = some (0, 3)) (hr1 : h_r h r0 1 = some a0) (hs2 : h_sh h a0 = some (1, n1)) (hb3 : vp_in x3 n1) (kt : (7 : Int32) ≤ (h_i h a0 x3.toNatClampNeg) → wpx d P_Gr_change 111 [.ref r0, .int x1, .int x2, .int x3] [] h Q) (kf : ¬ ((7 : Int32) ≤ (h_i h a0 x3.toNatClampNeg)) → wpx d P_Gr_change 56 [.ref r0, .int x1, .int x2, .int x3] [] h Q) : wpx d P_Gr_change 45 [.ref r0, .int x1, .int x2, .int x3] [] h Q := by
  refine st_aload (pc' := 46) rfl rfl rfl ?_
  refine st_getfr (x := some a0) (Or.inl rfl) rfl hs0 rfl hr1 (pc' := 49) rfl ?_
  refine st_iload (pc' := 50) rfl rfl rfl ?_
  refine st_iaload rfl hs2 hb3 (pc' := 51) rfl ?_
  refine st_ipush (pc' := 53) (v := 7) rfl rfl (by decide) ?_
  exact st_icmp_ge (pc' := 56) rfl rfl kt kf
theorem B_Gr_change_56 {d : Nat} {h : PH} {Q : PQ} {r0 : Nat} {x1 : Int32} {x2 : Int32} {x3 : Int32} {a0 : Nat} (hs0 : h_sh h r0 = some (0, 3)) (hr1 : h_r h r0 0 = some a0) (kt : ¬ (x1 = (1 : Int32)) → wpx d P_Gr_change 88 [.ref r0, .int x1, .int x2, .int x3] [.int x3, .ref a0] h Q) (kf : x1 = (1 : Int32) → wpx d P_Gr_change 66 [.ref r0, .int x1, .int x2, .int x3] [.int x3, .ref a0] h Q) : wpx d P_Gr_change 56 [.ref r0, .int x1, .int x2, .int x3] [] h Q := by
  refine st_aload (pc' := 57) rfl rfl rfl ?_
  refine st_getfr (x := some a0) (Or.inl rfl) rfl hs0 rfl hr1 (pc' := 60) rfl ?_
  refine st_iload (pc' := 61) rfl rfl rfl ?_
  refine st_iload (pc' := 62) rfl rfl rfl ?_
  refine st_ipush (pc' := 63) (v := 1) rfl rfl (by decide) ?_
  exact st_icmp_ne (pc' := 66) rfl rfl kt kf
theorem B_Gr_change_66 {d : Nat} {h : PH} {Q : PQ} {r0 : Nat} {x1 : Int32} {x2 : Int32} {x3 : Int32} {q0 : Nat} {s1 : Int32} {a0 : Nat} {n1 : Nat} {a2 : Nat} {n3 : Nat} (hs0 : h_sh h r0 = some (0, 3)) (hr1 : h_r h r0 1 = some a0) (hs2 : h_sh h a0 = some (1, n1)) (hb3 : vp_in x3 n1) (hr4 : h_r h r0 0 = some a2) (hs5 : h_sh h a2 = some (4, n3)) (hb6 : vp_in x3 n3) (k : wpx d P_Gr_change 100 [.ref r0, .int x1, .int x2, .int x3] [.long (((27 : Int64) <<< (((5 : Int32) * (h_i h a0 x3.toNatClampNeg)).toInt64 &&& 63)) ||| (h_l h a2 x3.toNatClampNeg)), .int s1, .ref q0] h Q) : wpx d P_Gr_change 66 [.ref r0, .int x1, .int x2, .int x3] [.int s1, .ref q0] h Q := by
  refine st_ldc2 (pc' := 69) (v := 27) rfl rfl (by decide) ?_
  refine st_ipush (pc' := 70) (v := 5) rfl rfl (by decide) ?_
  refine st_aload (pc' := 71) rfl rfl rfl ?_
  refine st_getfr (x := some a0) (Or.inl rfl) rfl hs0 rfl hr1 (pc' := 74) rfl ?_
  refine st_iload (pc' := 75) rfl rfl rfl ?_
  refine st_iaload rfl hs2 hb3 (pc' := 76) rfl ?_
  refine st_imul (pc' := 77) rfl rfl ?_
  refine st_lshl (pc' := 78) rfl rfl ?_
  refine st_aload (pc' := 79) rfl rfl rfl ?_
  refine st_getfr (x := some a2) (Or.inl rfl) rfl hs0 rfl hr4 (pc' := 82) rfl ?_
  refine st_iload (pc' := 83) rfl rfl rfl ?_
  refine st_laload rfl hs5 hb6 (pc' := 84) rfl ?_
  refine st_lor (pc' := 85) rfl rfl ?_
  exact st_goto rfl k
theorem B_Gr_change_88 {d : Nat} {h : PH} {Q : PQ} {r0 : Nat} {x1 : Int32} {x2 : Int32} {x3 : Int32} {q0 : Nat} {s1 : Int32} {a0 : Nat} {n1 : Nat} (hs0 : h_sh h r0 = some (0, 3)) (hr1 : h_r h r0 0 = some a0) (hs2 : h_sh h a0 = some (4, n1)) (hb3 : vp_in x3 n1) (k : wpx d P_Gr_change 100 [.ref r0, .int x1, .int x2, .int x3] [.long (((h_l h a0 x3.toNatClampNeg) <<< ((5 : Int32).toInt64 &&& 63)) ||| (27 : Int64)), .int s1, .ref q0] h Q) : wpx d P_Gr_change 88 [.ref r0, .int x1, .int x2, .int x3] [.int s1, .ref q0] h Q := by
  refine st_aload (pc' := 89) rfl rfl rfl ?_
  refine st_getfr (x := some a0) (Or.inl rfl) rfl hs0 rfl hr1 (pc' := 92) rfl ?_
  refine st_iload (pc' := 93) rfl rfl rfl ?_
  refine st_laload rfl hs2 hb3 (pc' := 94) rfl ?_
  refine st_ipush (pc' := 95) (v := 5) rfl rfl (by decide) ?_
  refine st_lshl (pc' := 96) rfl rfl ?_
  refine st_ldc2 (pc' := 99) (v := 27) rfl rfl (by decide) ?_
  refine st_lor (pc' := 100) rfl rfl ?_
  exact k
theorem B_Gr_change_100 {d : Nat} {h : PH} {Q : PQ} {r0 : Nat} {x1 : Int32} {x2 : Int32} {x3 : Int32} {q0 : Nat} {s1 : Int32} {t2 : Int64} {n0 : Nat} {a1 : Nat} {n2 : Nat} (hs0 : h_sh h q0 = some (4, n0)) (hb1 : vp_in s1 n0) (hs2 : h_sh h r0 = some (0, 3)) (hr3 : h_r h r0 1 = some a1) (hs4 : h_sh h a1 = some (1, n2)) (hb5 : vp_in x3 n2) (k : wpx d P_Gr_change 111 [.ref r0, .int x1, .int x2, .int x3] [] (w_i (w_l h q0 s1.toNatClampNeg t2) a1 x3.toNatClampNeg ((h_i (w_l h q0 s1.toNatClampNeg t2) a1 x3.toNatClampNeg) + (1 : Int32))) Q) : wpx d P_Gr_change 100 [.ref r0, .int x1, .int x2, .int x3] [.long t2, .int s1, .ref q0] h Q := by
  refine st_lastore rfl hs0 hb1 (pc' := 101) rfl ?_
  refine st_aload (pc' := 102) rfl rfl rfl ?_
  refine st_getfr (x := some a1) (Or.inl rfl) rfl hs2 rfl hr3 (pc' := 105) rfl ?_
  refine st_iload (pc' := 106) rfl rfl rfl ?_
  refine st_dup211 (pc' := 107) rfl rfl ⟨rfl, rfl⟩ ?_
  refine st_iaload rfl hs4 hb5 (pc' := 108) rfl ?_
  refine st_ipush (pc' := 109) (v := 1) rfl rfl (by decide) ?_
  refine st_iadd (pc' := 110) rfl rfl ?_
  refine st_iastore rfl hs4 hb5 (pc' := 111) rfl ?_
  exact k
theorem B_Gr_change_111 {d : Nat} {h : PH} {Q : PQ} {r0 : Nat} {x1 : Int32} {x2 : Int32} {x3 : Int32}  (k : wpx d P_Gr_change 28 [.ref r0, .int x1, .int x2, .int (x3 + 1)] [] h Q) : wpx d P_Gr_change 111 [.ref r0, .int x1, .int x2, .int x3] [] h Q := by
  refine st_iinc (pc' := 114) (v := 1) (ls' := [.ref r0, .int x1, .int x2, .int (x3 + 1)]) rfl rfl rfl (by decide) rfl ?_
  exact st_goto rfl k
theorem B_Gr_change_117 {d : Nat} {h : PH} {Q : PQ} {r0 : Nat} {x1 : Int32} {x2 : Int32} {x3 : Int32}  (k : Q none h) : wpx d P_Gr_change 117 [.ref r0, .int x1, .int x2, .int x3] [] h Q := by
  exact st_return rfl k
theorem B_Ow_freshTails_0 {d : Nat} {h : PH} {Q : PQ} {r0 : Nat} (hs0 : h_sh h r0 = some (0, 11)) (kt : ∀ a, h_r h r0 6 = some a → wpx d P_Ow_freshTails 18 [.ref r0] [] h Q) (kf : h_r h r0 6 = none → wpx d P_Ow_freshTails 7 [.ref r0] [] h Q) : wpx d P_Ow_freshTails 0 [.ref r0] [] h Q := by
  refine st_aload (pc' := 1) rfl rfl rfl ?_
  refine st_getfr (x := h_r h r0 6) (Or.inl rfl) rfl hs0 rfl rfl (pc' := 4) rfl ?_
  exact st_nonnull rfl kt (pc' := 7) rfl kf
theorem B_Ow_freshTails_7 {d : Nat} {h : PH} {Q : PQ} {r0 : Nat}  (k : wpm d 68 [.ref (h_ct h)] (h_new h (0, 6) (fN 6)) (fun r h' => wpx d P_Ow_freshTails 15 [.ref r0] (r.toList ++ [.ref (h_ct h), .ref r0]) h' Q)) : wpx d P_Ow_freshTails 7 [.ref r0] [] h Q := by
  refine st_aload (pc' := 8) rfl rfl rfl ?_
  refine st_new rfl (pc' := 11) rfl ?_
  refine st_dup (pc' := 12) rfl rfl rfl ?_
  exact st_call (pc' := 15) (as := [.ref (h_ct h)]) (rest := [.ref (h_ct h), .ref r0]) rfl rfl (Nat.le_of_ble_eq_true rfl) rfl rfl (Nat.le_of_ble_eq_true rfl) (kd := 2) (o := 6) rfl rfl rfl k
theorem B_Ow_freshTails_15 {d : Nat} {h : PH} {Q : PQ} {r0 : Nat} {q0 : Nat} {q1 : Nat} (hs0 : h_sh h q0 = some (0, 11)) (k : wpx d P_Ow_freshTails 18 [.ref r0] [] (w_r h q0 6 (some q1)) Q) : wpx d P_Ow_freshTails 15 [.ref r0] [.ref q1, .ref q0] h Q := by
  refine st_putf (h' := w_r h q0 6 (some q1)) (Or.inl rfl) rfl hs0 rfl rfl rfl (pc' := 18) rfl ?_
  exact k
theorem B_Ow_freshTails_18 {d : Nat} {h : PH} {Q : PQ} {r0 : Nat} {a0 : Nat} {a1 : Nat} (hs0 : h_sh h r0 = some (0, 11)) (hr1 : h_r h r0 6 = some a0) (hs2 : h_sh h a0 = some (0, 6)) (hr3 : h_r h r0 2 = some a1) (hs4 : h_sh h a1 = some (0, 3)) (kt : (h_i h a0 8) = (h_i h a1 6) → wpx d P_Ow_freshTails 47 [.ref r0] [] h Q) (kf : ¬ ((h_i h a0 8) = (h_i h a1 6)) → wpx d P_Ow_freshTails 35 [.ref r0] [] h Q) : wpx d P_Ow_freshTails 18 [.ref r0] [] h Q := by
  refine st_aload (pc' := 19) rfl rfl rfl ?_
  refine st_getfr (x := some a0) (Or.inl rfl) rfl hs0 rfl hr1 (pc' := 22) rfl ?_
  refine st_getfi (Or.inr rfl) rfl hs2 rfl (pc' := 25) rfl ?_
  refine st_aload (pc' := 26) rfl rfl rfl ?_
  refine st_getfr (x := some a1) (Or.inl rfl) rfl hs0 rfl hr3 (pc' := 29) rfl ?_
  refine st_getfi (Or.inr rfl) rfl hs4 rfl (pc' := 32) rfl ?_
  exact st_icmp_eq (pc' := 35) rfl rfl kt kf
theorem B_Ow_freshTails_35 {d : Nat} {h : PH} {Q : PQ} {r0 : Nat} {a0 : Nat} {a1 : Nat} (hs0 : h_sh h r0 = some (0, 11)) (hr1 : h_r h r0 6 = some a0) (hr2 : h_r h r0 2 = some a1) (hs3 : h_sh h a0 = some (0, 6)) (k : wpm d 69 [.ref a0, .ref a1, .int 0] h (fun r h' => wpx d P_Ow_freshTails 47 [.ref r0] (r.toList ++ []) h' Q)) : wpx d P_Ow_freshTails 35 [.ref r0] [] h Q := by
  refine st_aload (pc' := 36) rfl rfl rfl ?_
  refine st_getfr (x := some a0) (Or.inl rfl) rfl hs0 rfl hr1 (pc' := 39) rfl ?_
  refine st_aload (pc' := 40) rfl rfl rfl ?_
  refine st_getfr (x := some a1) (Or.inl rfl) rfl hs0 rfl hr2 (pc' := 43) rfl ?_
  refine st_ipush (pc' := 44) (v := 0) rfl rfl (by decide) ?_
  exact st_call (pc' := 47) (as := [.ref a0, .ref a1, .int 0]) (rest := []) rfl rfl (Nat.le_of_ble_eq_true rfl) rfl rfl (Nat.le_of_ble_eq_true rfl) (kd := 1) (o := 6) rfl rfl (beq_iff_eq.mpr hs3) k
theorem B_Ow_freshTails_47 {d : Nat} {h : PH} {Q : PQ} {r0 : Nat} {a0 : Nat} (hs0 : h_sh h r0 = some (0, 11)) (hr1 : h_r h r0 6 = some a0) (k : Q (some (.ref a0)) h) : wpx d P_Ow_freshTails 47 [.ref r0] [] h Q := by
  refine st_aload (pc' := 48) rfl rfl rfl ?_
  refine st_getfr (x := some a0) (Or.inl rfl) rfl hs0 rfl hr1 (pc' := 51) rfl ?_
  exact st_areturn rfl k
