/-! stretches of methods -/
theorem B_Bo_init_0 {d : Nat} {h : PH} {Q : PQ} {r0 : Nat} (hs0 : h_sh (h_new h (4, 10) 10) r0 = some (0, 0)) (hs1 : h_sh (h_new (w_r (h_new h (4, 10) 10) r0 0 (some (h_ct h))) (4, 10) 10) r0 = some (0, 0)) (hs2 : h_sh (h_new (w_r (h_new (w_r (h_new h (4, 10) 10) r0 0 (some (h_ct h))) (4, 10) 10) r0 1 (some (h_ct (w_r (h_new h (4, 10) 10) r0 0 (some (h_ct h)))))) (1, 64) 64) r0 = some (0, 0)) (k : wpx d P_Bo_init 28 [.ref r0] [] (w_r (h_new (w_r (h_new (w_r (h_new h (4, 10) 10) r0 0 (some (h_ct h))) (4, 10) 10) r0 1 (some (h_ct (w_r (h_new h (4, 10) 10) r0 0 (some (h_ct h)))))) (1, 64) 64) r0 2 (some (h_ct (w_r (h_new (w_r (h_new h (4, 10) 10) r0 0 (some (h_ct h))) (4, 10) 10) r0 1 (some (h_ct (w_r (h_new h (4, 10) 10) r0 0 (some (h_ct h))))))))) Q) : wpx d P_Bo_init 0 [.ref r0] [] h Q := by
  refine st_aload (pc' := 1) rfl rfl rfl ?_
  refine st_oinit (pc' := 4) rfl rfl (Nat.le_of_ble_eq_true rfl) ?_
  refine st_aload (pc' := 5) rfl rfl rfl ?_
  refine st_ipush (pc' := 7) (v := 10) rfl rfl (by decide) ?_
  refine st_newL rfl (by decide) (j := 10) (by decide) (pc' := 9) rfl ?_
  refine st_putf (h' := w_r (h_new h (4, 10) 10) r0 0 (some (h_ct h))) (Or.inr (Or.inr rfl)) rfl hs0 rfl rfl rfl (pc' := 12) rfl ?_
  refine st_aload (pc' := 13) rfl rfl rfl ?_
  refine st_ipush (pc' := 15) (v := 10) rfl rfl (by decide) ?_
  refine st_newL rfl (by decide) (j := 10) (by decide) (pc' := 17) rfl ?_
  refine st_putf (h' := w_r (h_new (w_r (h_new h (4, 10) 10) r0 0 (some (h_ct h))) (4, 10) 10) r0 1 (some (h_ct (w_r (h_new h (4, 10) 10) r0 0 (some (h_ct h)))))) (Or.inr (Or.inr rfl)) rfl hs1 rfl rfl rfl (pc' := 20) rfl ?_
  refine st_aload (pc' := 21) rfl rfl rfl ?_
  refine st_ipush (pc' := 23) (v := 64) rfl rfl (by decide) ?_
  refine st_newI rfl (by decide) (j := 64) (by decide) (pc' := 25) rfl ?_
  refine st_putf (h' := w_r (h_new (w_r (h_new (w_r (h_new h (4, 10) 10) r0 0 (some (h_ct h))) (4, 10) 10) r0 1 (some (h_ct (w_r (h_new h (4, 10) 10) r0 0 (some (h_ct h)))))) (1, 64) 64) r0 2 (some (h_ct (w_r (h_new (w_r (h_new h (4, 10) 10) r0 0 (some (h_ct h))) (4, 10) 10) r0 1 (some (h_ct (w_r (h_new h (4, 10) 10) r0 0 (some (h_ct h))))))))) (Or.inl rfl) rfl hs2 rfl rfl rfl (pc' := 28) rfl ?_
  exact k
theorem B_Bo_init_28 {d : Nat} {h : PH} {Q : PQ} {r0 : Nat} (hs0 : h_sh (h_new h (1, 6) 6) r0 = some (0, 0)) (k : Q none (w_i (w_r (h_new h (1, 6) 6) r0 4 (some (h_ct h))) r0 5 (-1))) : wpx d P_Bo_init 28 [.ref r0] [] h Q := by
  refine st_aload (pc' := 29) rfl rfl rfl ?_
  refine st_ipush (pc' := 31) (v := 6) rfl rfl (by decide) ?_
  refine st_newI rfl (by decide) (j := 6) (by decide) (pc' := 33) rfl ?_
  refine st_putf (h' := w_r (h_new h (1, 6) 6) r0 4 (some (h_ct h))) (Or.inr (Or.inr rfl)) rfl hs0 rfl rfl rfl (pc' := 36) rfl ?_
  refine st_aload (pc' := 37) rfl rfl rfl ?_
  refine st_ipush (pc' := 38) (v := (-1)) rfl rfl (by decide) ?_
  refine st_putf (h' := w_i (w_r (h_new h (1, 6) 6) r0 4 (some (h_ct h))) r0 5 (-1)) (Or.inl rfl) rfl hs0 rfl rfl rfl (pc' := 41) rfl ?_
  exact st_return rfl k
theorem B_Bo_build_0 {d : Nat} {h : PH} {Q : PQ} {r0 : Nat} {r1 : Nat} {x2 : Int32} {v3 : Value} (hs0 : h_sh h r0 = some (0, 0)) (k : wpm d 2 [.ref r0, .int 0] (w_i (w_i h r0 5 x2) r0 3 0) (fun r h' => wpx d P_Bo_build 15 [.ref r0, .ref r1, .int x2, v3] (r.toList ++ []) h' Q)) : wpx d P_Bo_build 0 [.ref r0, .ref r1, .int x2, v3] [] h Q := by
  refine st_aload (pc' := 1) rfl rfl rfl ?_
  refine st_iload (pc' := 2) rfl rfl rfl ?_
  refine st_putf (h' := w_i h r0 5 x2) (Or.inl rfl) rfl hs0 rfl rfl rfl (pc' := 5) rfl ?_
  refine st_aload (pc' := 6) rfl rfl rfl ?_
  refine st_ipush (pc' := 7) (v := 0) rfl rfl (by decide) ?_
  refine st_putf (h' := w_i (w_i h r0 5 x2) r0 3 0) (Or.inl rfl) rfl hs0 rfl rfl rfl (pc' := 10) rfl ?_
  refine st_aload (pc' := 11) rfl rfl rfl ?_
  refine st_ipush (pc' := 12) (v := 0) rfl rfl (by decide) ?_
  exact st_call (pc' := 15) (as := [.ref r0, .int 0]) (rest := []) rfl rfl (Nat.le_of_ble_eq_true rfl) rfl rfl (Nat.le_of_ble_eq_true rfl) (kd := 1) (o := 0) rfl rfl (beq_iff_eq.mpr hs0) k
theorem B_Bo_build_15 {d : Nat} {h : PH} {Q : PQ} {r0 : Nat} {r1 : Nat} {x2 : Int32} {v3 : Value}  (k : wpx d P_Bo_build 17 [.ref r0, .ref r1, .int x2, .int 0] [] h Q) : wpx d P_Bo_build 15 [.ref r0, .ref r1, .int x2, v3] [] h Q := by
  refine st_ipush (pc' := 16) (v := 0) rfl rfl (by decide) ?_
  refine st_istore (pc' := 17) (ls' := [.ref r0, .ref r1, .int x2, .int 0]) rfl rfl (Nat.le_of_ble_eq_true rfl) rfl ?_
  exact k
theorem B_Bo_build_17 {d : Nat} {h : PH} {Q : PQ} {r0 : Nat} {r1 : Nat} {x2 : Int32} {x3 : Int32} (hs0 : h_sh h r1 = some (0, 8)) (kt : (h_i h r1 9) ≤ x3 → wpx d P_Bo_build 75 [.ref r0, .ref r1, .int x2, .int x3] [] h Q) (kf : ¬ ((h_i h r1 9) ≤ x3) → wpx d P_Bo_build 25 [.ref r0, .ref r1, .int x2, .int x3] [] h Q) : wpx d P_Bo_build 17 [.ref r0, .ref r1, .int x2, .int x3] [] h Q := by
  refine st_iload (pc' := 18) rfl rfl rfl ?_
  refine st_aload (pc' := 19) rfl rfl rfl ?_
  refine st_getfi (Or.inr rfl) rfl hs0 rfl (pc' := 22) rfl ?_
  exact st_icmp_ge (pc' := 25) rfl rfl kt kf
theorem B_Bo_build_25 {d : Nat} {h : PH} {Q : PQ} {r0 : Nat} {r1 : Nat} {x2 : Int32} {x3 : Int32}  (kt : x3 = 0 → wpx d P_Bo_build 38 [.ref r0, .ref r1, .int x2, .int x3] [] h Q) (kf : ¬ (x3 = 0) → wpx d P_Bo_build 29 [.ref r0, .ref r1, .int x2, .int x3] [] h Q) : wpx d P_Bo_build 25 [.ref r0, .ref r1, .int x2, .int x3] [] h Q := by
  refine st_iload (pc' := 26) rfl rfl rfl ?_
  exact st_if_eq (pc' := 29) rfl rfl kt kf
theorem B_Bo_build_29 {d : Nat} {h : PH} {Q : PQ} {r0 : Nat} {r1 : Nat} {x2 : Int32} {x3 : Int32} {a0 : Nat} {n1 : Nat} (hs0 : h_sh h r1 = some (0, 8)) (hr1 : h_r h r1 4 = some a0) (hs2 : h_sh h a0 = some (3, n1)) (hb3 : vp_in x3 n1) (kt : (h_i h a0 x3.toNatClampNeg) = 0 → wpx d P_Bo_build 47 [.ref r0, .ref r1, .int x2, .int x3] [] h Q) (kf : ¬ ((h_i h a0 x3.toNatClampNeg) = 0) → wpx d P_Bo_build 38 [.ref r0, .ref r1, .int x2, .int x3] [] h Q) : wpx d P_Bo_build 29 [.ref r0, .ref r1, .int x2, .int x3] [] h Q := by
  refine st_aload (pc' := 30) rfl rfl rfl ?_
  refine st_getfr (x := some a0) (Or.inr rfl) rfl hs0 rfl hr1 (pc' := 33) rfl ?_
  refine st_iload (pc' := 34) rfl rfl rfl ?_
  refine st_baload rfl (Or.inr hs2) hb3 (j := x3.toNatClampNeg) rfl (pc' := 35) rfl ?_
  exact st_if_eq (pc' := 38) rfl rfl kt kf
theorem B_Bo_build_38 {d : Nat} {h : PH} {Q : PQ} {r0 : Nat} {r1 : Nat} {x2 : Int32} {x3 : Int32} {a0 : Nat} (hs0 : h_sh h r0 = some (0, 0)) (hr1 : h_r h r0 0 = some a0) (k : wpm d 3 [.ref a0, .int 0, .int x3] h (fun r h' => wpx d P_Bo_build 47 [.ref r0, .ref r1, .int x2, .int x3] (r.toList ++ []) h' Q)) : wpx d P_Bo_build 38 [.ref r0, .ref r1, .int x2, .int x3] [] h Q := by
  refine st_aload (pc' := 39) rfl rfl rfl ?_
  refine st_getfr (x := some a0) (Or.inl rfl) rfl hs0 rfl hr1 (pc' := 42) rfl ?_
  refine st_ipush (pc' := 43) (v := 0) rfl rfl (by decide) ?_
  refine st_iload (pc' := 44) rfl rfl rfl ?_
  exact st_call (pc' := 47) (as := [.ref a0, .int 0, .int x3]) (rest := []) rfl rfl (Nat.le_of_ble_eq_true rfl) rfl rfl (Nat.le_of_ble_eq_true rfl) (kd := 0) (o := 0) rfl rfl rfl k
theorem B_Bo_build_47 {d : Nat} {h : PH} {Q : PQ} {r0 : Nat} {r1 : Nat} {x2 : Int32} {x3 : Int32}  (kt : x3 = 0 → wpx d P_Bo_build 69 [.ref r0, .ref r1, .int x2, .int x3] [] h Q) (kf : ¬ (x3 = 0) → wpx d P_Bo_build 51 [.ref r0, .ref r1, .int x2, .int x3] [] h Q) : wpx d P_Bo_build 47 [.ref r0, .ref r1, .int x2, .int x3] [] h Q := by
  refine st_iload (pc' := 48) rfl rfl rfl ?_
  exact st_if_eq (pc' := 51) rfl rfl kt kf
theorem B_Bo_build_51 {d : Nat} {h : PH} {Q : PQ} {r0 : Nat} {r1 : Nat} {x2 : Int32} {x3 : Int32} {a0 : Nat} {n1 : Nat} (hs0 : h_sh h r1 = some (0, 8)) (hr1 : h_r h r1 4 = some a0) (hs2 : h_sh h a0 = some (3, n1)) (hb3 : vp_in x3 n1) (kt : (h_i h a0 x3.toNatClampNeg) = 0 → wpx d P_Bo_build 69 [.ref r0, .ref r1, .int x2, .int x3] [] h Q) (kf : ¬ ((h_i h a0 x3.toNatClampNeg) = 0) → wpx d P_Bo_build 60 [.ref r0, .ref r1, .int x2, .int x3] [] h Q) : wpx d P_Bo_build 51 [.ref r0, .ref r1, .int x2, .int x3] [] h Q := by
  refine st_aload (pc' := 52) rfl rfl rfl ?_
  refine st_getfr (x := some a0) (Or.inr rfl) rfl hs0 rfl hr1 (pc' := 55) rfl ?_
  refine st_iload (pc' := 56) rfl rfl rfl ?_
  refine st_baload rfl (Or.inr hs2) hb3 (j := x3.toNatClampNeg) rfl (pc' := 57) rfl ?_
  exact st_if_eq (pc' := 60) rfl rfl kt kf
theorem B_Bo_build_60 {d : Nat} {h : PH} {Q : PQ} {r0 : Nat} {r1 : Nat} {x2 : Int32} {x3 : Int32} {a0 : Nat} (hs0 : h_sh h r0 = some (0, 0)) (hr1 : h_r h r0 1 = some a0) (k : wpm d 3 [.ref a0, .int 0, .int x3] h (fun r h' => wpx d P_Bo_build 69 [.ref r0, .ref r1, .int x2, .int x3] (r.toList ++ []) h' Q)) : wpx d P_Bo_build 60 [.ref r0, .ref r1, .int x2, .int x3] [] h Q := by
  refine st_aload (pc' := 61) rfl rfl rfl ?_
  refine st_getfr (x := some a0) (Or.inl rfl) rfl hs0 rfl hr1 (pc' := 64) rfl ?_
  refine st_ipush (pc' := 65) (v := 0) rfl rfl (by decide) ?_
  refine st_iload (pc' := 66) rfl rfl rfl ?_
  exact st_call (pc' := 69) (as := [.ref a0, .int 0, .int x3]) (rest := []) rfl rfl (Nat.le_of_ble_eq_true rfl) rfl rfl (Nat.le_of_ble_eq_true rfl) (kd := 0) (o := 0) rfl rfl rfl k
theorem B_Bo_build_69 {d : Nat} {h : PH} {Q : PQ} {r0 : Nat} {r1 : Nat} {x2 : Int32} {x3 : Int32}  (k : wpx d P_Bo_build 17 [.ref r0, .ref r1, .int x2, .int (x3 + 1)] [] h Q) : wpx d P_Bo_build 69 [.ref r0, .ref r1, .int x2, .int x3] [] h Q := by
  refine st_iinc (pc' := 72) (v := 1) (ls' := [.ref r0, .ref r1, .int x2, .int (x3 + 1)]) rfl rfl rfl (by decide) rfl ?_
  exact st_goto rfl k
theorem B_Bo_build_75 {d : Nat} {h : PH} {Q : PQ} {r0 : Nat} {r1 : Nat} {x2 : Int32} {x3 : Int32} (hs0 : h_sh h r0 = some (0, 0)) (k : wpm d 6 [.ref r0, .ref r1, .int 0, .int 0] h (fun r h' => wpx d P_Bo_build 82 [.ref r0, .ref r1, .int x2, .int x3] (r.toList ++ []) h' Q)) : wpx d P_Bo_build 75 [.ref r0, .ref r1, .int x2, .int x3] [] h Q := by
  refine st_aload (pc' := 76) rfl rfl rfl ?_
  refine st_aload (pc' := 77) rfl rfl rfl ?_
  refine st_ipush (pc' := 78) (v := 0) rfl rfl (by decide) ?_
  refine st_ipush (pc' := 79) (v := 0) rfl rfl (by decide) ?_
  exact st_call (pc' := 82) (as := [.ref r0, .ref r1, .int 0, .int 0]) (rest := []) rfl rfl (Nat.le_of_ble_eq_true rfl) rfl rfl (Nat.le_of_ble_eq_true rfl) (kd := 1) (o := 0) rfl rfl (beq_iff_eq.mpr hs0) k
theorem B_Bo_build_82 {d : Nat} {h : PH} {Q : PQ} {r0 : Nat} {r1 : Nat} {x2 : Int32} {x3 : Int32} (hs0 : h_sh h r0 = some (0, 0)) (k : wpm d 9 [.ref r0] h (fun r h' => wpx d P_Bo_build 86 [.ref r0, .ref r1, .int x2, .int x3] (r.toList ++ []) h' Q)) : wpx d P_Bo_build 82 [.ref r0, .ref r1, .int x2, .int x3] [] h Q := by
  refine st_aload (pc' := 83) rfl rfl rfl ?_
  exact st_call (pc' := 86) (as := [.ref r0]) (rest := []) rfl rfl (Nat.le_of_ble_eq_true rfl) rfl rfl (Nat.le_of_ble_eq_true rfl) (kd := 1) (o := 0) rfl rfl (beq_iff_eq.mpr hs0) k
theorem B_Bo_build_86 {d : Nat} {h : PH} {Q : PQ} {r0 : Nat} {r1 : Nat} {x2 : Int32} {x3 : Int32} (hs0 : h_sh h r0 = some (0, 0)) (k : wpm d 10 [.ref r0] h (fun r h' => wpx d P_Bo_build 90 [.ref r0, .ref r1, .int x2, .int x3] (r.toList ++ []) h' Q)) : wpx d P_Bo_build 86 [.ref r0, .ref r1, .int x2, .int x3] [] h Q := by
  refine st_aload (pc' := 87) rfl rfl rfl ?_
  exact st_call (pc' := 90) (as := [.ref r0]) (rest := []) rfl rfl (Nat.le_of_ble_eq_true rfl) rfl rfl (Nat.le_of_ble_eq_true rfl) (kd := 1) (o := 0) rfl rfl (beq_iff_eq.mpr hs0) k
theorem B_Bo_build_90 {d : Nat} {h : PH} {Q : PQ} {r0 : Nat} {r1 : Nat} {x2 : Int32} {x3 : Int32}  (k : Q none h) : wpx d P_Bo_build 90 [.ref r0, .ref r1, .int x2, .int x3] [] h Q := by
  exact st_return rfl k
theorem B_Bo_clear_0 {d : Nat} {h : PH} {Q : PQ} {r0 : Nat} {x1 : Int32} {a0 : Nat} {n1 : Nat} {a2 : Nat} {n3 : Nat} (hs0 : h_sh h r0 = some (0, 0)) (hr1 : h_r h r0 0 = some a0) (hs2 : h_sh h a0 = some (4, n1)) (hb3 : vp_in ((2 : Int32) * x1) n1) (hb4 : vp_in (((2 : Int32) * x1) + (1 : Int32)) n1) (hr5 : h_r h r0 1 = some a2) (hs6 : h_sh h a2 = some (4, n3)) (hb7 : vp_in ((2 : Int32) * x1) n3) (hb8 : vp_in (((2 : Int32) * x1) + (1 : Int32)) n3) (k : Q none (w_l (w_l (w_l (w_l h a0 (((2 : Int32) * x1).toNatClampNeg) 0) a0 ((((2 : Int32) * x1) + (1 : Int32)).toNatClampNeg) 0) a2 (((2 : Int32) * x1).toNatClampNeg) 0) a2 ((((2 : Int32) * x1) + (1 : Int32)).toNatClampNeg) 0)) : wpx d P_Bo_clear 0 [.ref r0, .int x1] [] h Q := by
  refine st_aload (pc' := 1) rfl rfl rfl ?_
  refine st_getfr (x := some a0) (Or.inl rfl) rfl hs0 rfl hr1 (pc' := 4) rfl ?_
  refine st_ipush (pc' := 5) (v := 2) rfl rfl (by decide) ?_
  refine st_iload (pc' := 6) rfl rfl rfl ?_
  refine st_imul (pc' := 7) rfl rfl ?_
  refine st_lpush (pc' := 8) (v := 0) rfl rfl (by decide) ?_
  refine st_lastore rfl hs2 hb3 (j := ((2 : Int32) * x1).toNatClampNeg) rfl (pc' := 9) rfl ?_
  refine st_aload (pc' := 10) rfl rfl rfl ?_
  refine st_getfr (x := some a0) (Or.inl rfl) rfl hs0 rfl hr1 (pc' := 13) rfl ?_
  refine st_ipush (pc' := 14) (v := 2) rfl rfl (by decide) ?_
  refine st_iload (pc' := 15) rfl rfl rfl ?_
  refine st_imul (pc' := 16) rfl rfl ?_
  refine st_ipush (pc' := 17) (v := 1) rfl rfl (by decide) ?_
  refine st_iadd (pc' := 18) rfl rfl ?_
  refine st_lpush (pc' := 19) (v := 0) rfl rfl (by decide) ?_
  refine st_lastore rfl hs2 hb4 (j := (((2 : Int32) * x1) + (1 : Int32)).toNatClampNeg) rfl (pc' := 20) rfl ?_
  refine st_aload (pc' := 21) rfl rfl rfl ?_
  refine st_getfr (x := some a2) (Or.inl rfl) rfl hs0 rfl hr5 (pc' := 24) rfl ?_
  refine st_ipush (pc' := 25) (v := 2) rfl rfl (by decide) ?_
  refine st_iload (pc' := 26) rfl rfl rfl ?_
  refine st_imul (pc' := 27) rfl rfl ?_
  refine st_lpush (pc' := 28) (v := 0) rfl rfl (by decide) ?_
  refine st_lastore rfl hs6 hb7 (j := ((2 : Int32) * x1).toNatClampNeg) rfl (pc' := 29) rfl ?_
  refine st_aload (pc' := 30) rfl rfl rfl ?_
  refine st_getfr (x := some a2) (Or.inl rfl) rfl hs0 rfl hr5 (pc' := 33) rfl ?_
  refine st_ipush (pc' := 34) (v := 2) rfl rfl (by decide) ?_
  refine st_iload (pc' := 35) rfl rfl rfl ?_
  refine st_imul (pc' := 36) rfl rfl ?_
  refine st_ipush (pc' := 37) (v := 1) rfl rfl (by decide) ?_
  refine st_iadd (pc' := 38) rfl rfl ?_
  refine st_lpush (pc' := 39) (v := 0) rfl rfl (by decide) ?_
  refine st_lastore rfl hs6 hb8 (j := (((2 : Int32) * x1) + (1 : Int32)).toNatClampNeg) rfl (pc' := 40) rfl ?_
  exact st_return rfl k
theorem B_Bo_put_0 {d : Nat} {h : PH} {Q : PQ} {r0 : Nat} {x1 : Int32} {x2 : Int32} {n0 : Nat} (hs0 : h_sh h r0 = some (4, n0)) (hb1 : vp_in (((2 : Int32) * x1) + (x2 / (64 : Int32))) n0) (k : Q none (w_l h r0 ((((2 : Int32) * x1) + (x2 / (64 : Int32))).toNatClampNeg) ((h_l h r0 (((2 : Int32) * x1) + (x2 / (64 : Int32))).toNatClampNeg) ||| ((1 : Int64) <<< ((x2 - x2 / (64 : Int32) * (64 : Int32)).toInt64 &&& 63))))) : wpx d P_Bo_put 0 [.ref r0, .int x1, .int x2] [] h Q := by
  refine st_aload (pc' := 1) rfl rfl rfl ?_
  refine st_ipush (pc' := 2) (v := 2) rfl rfl (by decide) ?_
  refine st_iload (pc' := 3) rfl rfl rfl ?_
  refine st_imul (pc' := 4) rfl rfl ?_
  refine st_iload (pc' := 5) rfl rfl rfl ?_
  refine st_ipush (pc' := 7) (v := 64) rfl rfl (by decide) ?_
  refine st_idiv rfl (by decide) (pc' := 8) rfl ?_
  refine st_iadd (pc' := 9) rfl rfl ?_
  refine st_dup211 (pc' := 10) rfl rfl ⟨rfl, rfl⟩ ?_
  refine st_laload rfl hs0 hb1 (j := (((2 : Int32) * x1) + (x2 / (64 : Int32))).toNatClampNeg) rfl (pc' := 11) rfl ?_
  refine st_lpush (pc' := 12) (v := 1) rfl rfl (by decide) ?_
  refine st_iload (pc' := 13) rfl rfl rfl ?_
  refine st_ipush (pc' := 15) (v := 64) rfl rfl (by decide) ?_
  refine st_irem rfl (by decide) (pc' := 16) rfl ?_
  refine st_lshl (pc' := 17) rfl rfl ?_
  refine st_lor (pc' := 18) rfl rfl ?_
  refine st_lastore rfl hs0 hb1 (j := (((2 : Int32) * x1) + (x2 / (64 : Int32))).toNatClampNeg) rfl (pc' := 19) rfl ?_
  exact st_return rfl k
theorem B_Bo_has_0 {d : Nat} {h : PH} {Q : PQ} {r0 : Nat} {x1 : Int32} {x2 : Int32} {n0 : Nat} (hs0 : h_sh h r0 = some (4, n0)) (hb1 : vp_in (((2 : Int32) * x1) + (x2 / (64 : Int32))) n0) (kt : ¬ ((lg_cmp ((((h_l h r0 (((2 : Int32) * x1) + (x2 / (64 : Int32))).toNatClampNeg).toUInt64 >>> ((x2 - x2 / (64 : Int32) * (64 : Int32)).toInt64.toUInt64 &&& Int64.toUInt64 63)).toInt64) &&& (1 : Int64)) (1 : Int64)) = 0) → wpx d P_Bo_has 26 [.ref r0, .int x1, .int x2] [] h Q) (kf : (lg_cmp ((((h_l h r0 (((2 : Int32) * x1) + (x2 / (64 : Int32))).toNatClampNeg).toUInt64 >>> ((x2 - x2 / (64 : Int32) * (64 : Int32)).toInt64.toUInt64 &&& Int64.toUInt64 63)).toInt64) &&& (1 : Int64)) (1 : Int64)) = 0 → wpx d P_Bo_has 22 [.ref r0, .int x1, .int x2] [] h Q) : wpx d P_Bo_has 0 [.ref r0, .int x1, .int x2] [] h Q := by
  refine st_aload (pc' := 1) rfl rfl rfl ?_
  refine st_ipush (pc' := 2) (v := 2) rfl rfl (by decide) ?_
  refine st_iload (pc' := 3) rfl rfl rfl ?_
  refine st_imul (pc' := 4) rfl rfl ?_
  refine st_iload (pc' := 5) rfl rfl rfl ?_
  refine st_ipush (pc' := 7) (v := 64) rfl rfl (by decide) ?_
  refine st_idiv rfl (by decide) (pc' := 8) rfl ?_
  refine st_iadd (pc' := 9) rfl rfl ?_
  refine st_laload rfl hs0 hb1 (j := (((2 : Int32) * x1) + (x2 / (64 : Int32))).toNatClampNeg) rfl (pc' := 10) rfl ?_
  refine st_iload (pc' := 11) rfl rfl rfl ?_
  refine st_ipush (pc' := 13) (v := 64) rfl rfl (by decide) ?_
  refine st_irem rfl (by decide) (pc' := 14) rfl ?_
  refine st_lushr (pc' := 15) rfl rfl ?_
  refine st_lpush (pc' := 16) (v := 1) rfl rfl (by decide) ?_
  refine st_land (pc' := 17) rfl rfl ?_
  refine st_lpush (pc' := 18) (v := 1) rfl rfl (by decide) ?_
  refine st_lcmp (pc' := 19) rfl rfl ?_
  exact st_if_ne (pc' := 22) rfl rfl kt kf
theorem B_Bo_has_22 {d : Nat} {h : PH} {Q : PQ} {r0 : Nat} {x1 : Int32} {x2 : Int32}  (k : wpx d P_Bo_has 27 [.ref r0, .int x1, .int x2] [.int 1] h Q) : wpx d P_Bo_has 22 [.ref r0, .int x1, .int x2] [] h Q := by
  refine st_ipush (pc' := 23) (v := 1) rfl rfl (by decide) ?_
  exact st_goto rfl k
theorem B_Bo_has_26 {d : Nat} {h : PH} {Q : PQ} {r0 : Nat} {x1 : Int32} {x2 : Int32}  (k : wpx d P_Bo_has 27 [.ref r0, .int x1, .int x2] [.int 0] h Q) : wpx d P_Bo_has 26 [.ref r0, .int x1, .int x2] [] h Q := by
  refine st_ipush (pc' := 27) (v := 0) rfl rfl (by decide) ?_
  exact k
theorem B_Bo_has_27 {d : Nat} {h : PH} {Q : PQ} {r0 : Nat} {x1 : Int32} {x2 : Int32} {s0 : Int32} (hz0 : narrow .boolean (.int s0) = .int s0) (k : Q (some (.int s0)) h) : wpx d P_Bo_has 27 [.ref r0, .int x1, .int x2] [.int s0] h Q := by
  exact st_ireturn (ty := .boolean) rfl rfl hz0 k
theorem B_Bo_isEmpty_0 {d : Nat} {h : PH} {Q : PQ} {r0 : Nat} {x1 : Int32} {n0 : Nat} (hs0 : h_sh h r0 = some (4, n0)) (hb1 : vp_in ((2 : Int32) * x1) n0) (hb2 : vp_in (((2 : Int32) * x1) + (1 : Int32)) n0) (kt : ¬ ((lg_cmp ((h_l h r0 ((2 : Int32) * x1).toNatClampNeg) ||| (h_l h r0 (((2 : Int32) * x1) + (1 : Int32)).toNatClampNeg)) (0 : Int64)) = 0) → wpx d P_Bo_isEmpty 22 [.ref r0, .int x1] [] h Q) (kf : (lg_cmp ((h_l h r0 ((2 : Int32) * x1).toNatClampNeg) ||| (h_l h r0 (((2 : Int32) * x1) + (1 : Int32)).toNatClampNeg)) (0 : Int64)) = 0 → wpx d P_Bo_isEmpty 18 [.ref r0, .int x1] [] h Q) : wpx d P_Bo_isEmpty 0 [.ref r0, .int x1] [] h Q := by
  refine st_aload (pc' := 1) rfl rfl rfl ?_
  refine st_ipush (pc' := 2) (v := 2) rfl rfl (by decide) ?_
  refine st_iload (pc' := 3) rfl rfl rfl ?_
  refine st_imul (pc' := 4) rfl rfl ?_
  refine st_laload rfl hs0 hb1 (j := ((2 : Int32) * x1).toNatClampNeg) rfl (pc' := 5) rfl ?_
  refine st_aload (pc' := 6) rfl rfl rfl ?_
  refine st_ipush (pc' := 7) (v := 2) rfl rfl (by decide) ?_
  refine st_iload (pc' := 8) rfl rfl rfl ?_
  refine st_imul (pc' := 9) rfl rfl ?_
  refine st_ipush (pc' := 10) (v := 1) rfl rfl (by decide) ?_
  refine st_iadd (pc' := 11) rfl rfl ?_
  refine st_laload rfl hs0 hb2 (j := (((2 : Int32) * x1) + (1 : Int32)).toNatClampNeg) rfl (pc' := 12) rfl ?_
  refine st_lor (pc' := 13) rfl rfl ?_
  refine st_lpush (pc' := 14) (v := 0) rfl rfl (by decide) ?_
  refine st_lcmp (pc' := 15) rfl rfl ?_
  exact st_if_ne (pc' := 18) rfl rfl kt kf
theorem B_Bo_isEmpty_18 {d : Nat} {h : PH} {Q : PQ} {r0 : Nat} {x1 : Int32}  (k : wpx d P_Bo_isEmpty 23 [.ref r0, .int x1] [.int 1] h Q) : wpx d P_Bo_isEmpty 18 [.ref r0, .int x1] [] h Q := by
  refine st_ipush (pc' := 19) (v := 1) rfl rfl (by decide) ?_
  exact st_goto rfl k
theorem B_Bo_isEmpty_22 {d : Nat} {h : PH} {Q : PQ} {r0 : Nat} {x1 : Int32}  (k : wpx d P_Bo_isEmpty 23 [.ref r0, .int x1] [.int 0] h Q) : wpx d P_Bo_isEmpty 22 [.ref r0, .int x1] [] h Q := by
  refine st_ipush (pc' := 23) (v := 0) rfl rfl (by decide) ?_
  exact k
theorem B_Bo_isEmpty_23 {d : Nat} {h : PH} {Q : PQ} {r0 : Nat} {x1 : Int32} {s0 : Int32} (hz0 : narrow .boolean (.int s0) = .int s0) (k : Q (some (.int s0)) h) : wpx d P_Bo_isEmpty 23 [.ref r0, .int x1] [.int s0] h Q := by
  exact st_ireturn (ty := .boolean) rfl rfl hz0 k
theorem B_Bo_lengthen_0 {d : Nat} {h : PH} {Q : PQ} {r0 : Nat} {r1 : Nat} {x2 : Int32} {x3 : Int32} {v4 : Value} {v5 : Value}  (kt : x2 < (4 : Int32) → wpx d P_Bo_lengthen 6 [.ref r0, .ref r1, .int x2, .int x3, v4, v5] [] h Q) (kf : ¬ (x2 < (4 : Int32)) → wpx d P_Bo_lengthen 5 [.ref r0, .ref r1, .int x2, .int x3, v4, v5] [] h Q) : wpx d P_Bo_lengthen 0 [.ref r0, .ref r1, .int x2, .int x3, v4, v5] [] h Q := by
  refine st_iload (pc' := 1) rfl rfl rfl ?_
  refine st_ipush (pc' := 2) (v := 4) rfl rfl (by decide) ?_
  exact st_icmp_lt (pc' := 5) rfl rfl kt kf
theorem B_Bo_lengthen_5 {d : Nat} {h : PH} {Q : PQ} {r0 : Nat} {r1 : Nat} {x2 : Int32} {x3 : Int32} {v4 : Value} {v5 : Value}  (k : Q none h) : wpx d P_Bo_lengthen 5 [.ref r0, .ref r1, .int x2, .int x3, v4, v5] [] h Q := by
  exact st_return rfl k
theorem B_Bo_lengthen_6 {d : Nat} {h : PH} {Q : PQ} {r0 : Nat} {r1 : Nat} {x2 : Int32} {x3 : Int32} {v4 : Value} {v5 : Value}  (k : wpx d P_Bo_lengthen 9 [.ref r0, .ref r1, .int x2, .int x3, .int 1, v5] [] h Q) : wpx d P_Bo_lengthen 6 [.ref r0, .ref r1, .int x2, .int x3, v4, v5] [] h Q := by
  refine st_ipush (pc' := 7) (v := 1) rfl rfl (by decide) ?_
  refine st_istore (pc' := 9) (ls' := [.ref r0, .ref r1, .int x2, .int x3, .int 1, v5]) rfl rfl (Nat.le_of_ble_eq_true rfl) rfl ?_
  exact k
theorem B_Bo_lengthen_9 {d : Nat} {h : PH} {Q : PQ} {r0 : Nat} {r1 : Nat} {x2 : Int32} {x3 : Int32} {x4 : Int32} {v5 : Value}  (kt : (27 : Int32) < x4 → wpx d P_Bo_lengthen 92 [.ref r0, .ref r1, .int x2, .int x3, .int x4, v5] [] h Q) (kf : ¬ ((27 : Int32) < x4) → wpx d P_Bo_lengthen 16 [.ref r0, .ref r1, .int x2, .int x3, .int x4, v5] [] h Q) : wpx d P_Bo_lengthen 9 [.ref r0, .ref r1, .int x2, .int x3, .int x4, v5] [] h Q := by
  refine st_iload (pc' := 11) rfl rfl rfl ?_
  refine st_ipush (pc' := 13) (v := 27) rfl rfl (by decide) ?_
  exact st_icmp_gt (pc' := 16) rfl rfl kt kf
theorem B_Bo_lengthen_16 {d : Nat} {h : PH} {Q : PQ} {r0 : Nat} {r1 : Nat} {x2 : Int32} {x3 : Int32} {x4 : Int32} {v5 : Value} (hs0 : h_sh h r0 = some (0, 0)) (k : wpm d 7 [.ref r0, .ref r1, .int x2, .int x4] h (fun r h' => wpx d P_Bo_lengthen 24 [.ref r0, .ref r1, .int x2, .int x3, .int x4, v5] (r.toList ++ []) h' Q)) : wpx d P_Bo_lengthen 16 [.ref r0, .ref r1, .int x2, .int x3, .int x4, v5] [] h Q := by
  refine st_aload (pc' := 17) rfl rfl rfl ?_
  refine st_aload (pc' := 18) rfl rfl rfl ?_
  refine st_iload (pc' := 19) rfl rfl rfl ?_
  refine st_iload (pc' := 21) rfl rfl rfl ?_
  exact st_call (pc' := 24) (as := [.ref r0, .ref r1, .int x2, .int x4]) (rest := []) rfl rfl (Nat.le_of_ble_eq_true rfl) rfl rfl (Nat.le_of_ble_eq_true rfl) (kd := 1) (o := 0) rfl rfl (beq_iff_eq.mpr hs0) k
theorem B_Bo_lengthen_24 {d : Nat} {h : PH} {Q : PQ} {r0 : Nat} {r1 : Nat} {x2 : Int32} {x3 : Int32} {x4 : Int32} {v5 : Value} {a0 : Nat} (hs0 : h_sh h r0 = some (0, 0)) (hr1 : h_r h r0 1 = some a0) (k : wpm d 5 [.ref a0, .int (x2 + (1 : Int32))] h (fun r h' => wpx d P_Bo_lengthen 44 [.ref r0, .ref r1, .int x2, .int x3, .int x4, .int ((x4 <<< (((5 : Int32) * x2) &&& 31)) ||| x3)] (r.toList ++ []) h' Q)) : wpx d P_Bo_lengthen 24 [.ref r0, .ref r1, .int x2, .int x3, .int x4, v5] [] h Q := by
  refine st_iload (pc' := 26) rfl rfl rfl ?_
  refine st_ipush (pc' := 27) (v := 5) rfl rfl (by decide) ?_
  refine st_iload (pc' := 28) rfl rfl rfl ?_
  refine st_imul (pc' := 29) rfl rfl ?_
  refine st_ishl (pc' := 30) rfl rfl ?_
  refine st_iload (pc' := 31) rfl rfl rfl ?_
  refine st_ior (pc' := 32) rfl rfl ?_
  refine st_istore (pc' := 34) (ls' := [.ref r0, .ref r1, .int x2, .int x3, .int x4, .int ((x4 <<< (((5 : Int32) * x2) &&& 31)) ||| x3)]) rfl rfl (Nat.le_of_ble_eq_true rfl) rfl ?_
  refine st_aload (pc' := 35) rfl rfl rfl ?_
  refine st_getfr (x := some a0) (Or.inl rfl) rfl hs0 rfl hr1 (pc' := 38) rfl ?_
  refine st_iload (pc' := 39) rfl rfl rfl ?_
  refine st_ipush (pc' := 40) (v := 1) rfl rfl (by decide) ?_
  refine st_iadd (pc' := 41) rfl rfl ?_
  exact st_call (pc' := 44) (as := [.ref a0, .int (x2 + (1 : Int32))]) (rest := []) rfl rfl (Nat.le_of_ble_eq_true rfl) rfl rfl (Nat.le_of_ble_eq_true rfl) (kd := 0) (o := 0) rfl rfl rfl k
theorem B_Bo_lengthen_44 {d : Nat} {h : PH} {Q : PQ} {r0 : Nat} {r1 : Nat} {x2 : Int32} {x3 : Int32} {x4 : Int32} {x5 : Int32} {s0 : Int32}  (kt : ¬ (s0 = 0) → wpx d P_Bo_lengthen 60 [.ref r0, .ref r1, .int x2, .int x3, .int x4, .int x5] [] h Q) (kf : s0 = 0 → wpx d P_Bo_lengthen 47 [.ref r0, .ref r1, .int x2, .int x3, .int x4, .int x5] [] h Q) : wpx d P_Bo_lengthen 44 [.ref r0, .ref r1, .int x2, .int x3, .int x4, .int x5] [.int s0] h Q := by
  exact st_if_ne (pc' := 47) rfl rfl kt kf
theorem B_Bo_lengthen_47 {d : Nat} {h : PH} {Q : PQ} {r0 : Nat} {r1 : Nat} {x2 : Int32} {x3 : Int32} {x4 : Int32} {x5 : Int32} (hs0 : h_sh h r0 = some (0, 0)) (k : wpm d 6 [.ref r0, .ref r1, .int (x2 + (1 : Int32)), .int x5] h (fun r h' => wpx d P_Bo_lengthen 57 [.ref r0, .ref r1, .int x2, .int x3, .int x4, .int x5] (r.toList ++ []) h' Q)) : wpx d P_Bo_lengthen 47 [.ref r0, .ref r1, .int x2, .int x3, .int x4, .int x5] [] h Q := by
  refine st_aload (pc' := 48) rfl rfl rfl ?_
  refine st_aload (pc' := 49) rfl rfl rfl ?_
  refine st_iload (pc' := 50) rfl rfl rfl ?_
  refine st_ipush (pc' := 51) (v := 1) rfl rfl (by decide) ?_
  refine st_iadd (pc' := 52) rfl rfl ?_
  refine st_iload (pc' := 54) rfl rfl rfl ?_
  exact st_call (pc' := 57) (as := [.ref r0, .ref r1, .int (x2 + (1 : Int32)), .int x5]) (rest := []) rfl rfl (Nat.le_of_ble_eq_true rfl) rfl rfl (Nat.le_of_ble_eq_true rfl) (kd := 1) (o := 0) rfl rfl (beq_iff_eq.mpr hs0) k
theorem B_Bo_lengthen_57 {d : Nat} {h : PH} {Q : PQ} {r0 : Nat} {r1 : Nat} {x2 : Int32} {x3 : Int32} {x4 : Int32} {x5 : Int32}  (k : wpx d P_Bo_lengthen 86 [.ref r0, .ref r1, .int x2, .int x3, .int x4, .int x5] [] h Q) : wpx d P_Bo_lengthen 57 [.ref r0, .ref r1, .int x2, .int x3, .int x4, .int x5] [] h Q := by
  exact st_goto rfl k
theorem B_Bo_lengthen_60 {d : Nat} {h : PH} {Q : PQ} {r0 : Nat} {r1 : Nat} {x2 : Int32} {x3 : Int32} {x4 : Int32} {x5 : Int32} {a0 : Nat} (hs0 : h_sh h r0 = some (0, 0)) (hr1 : h_r h r0 0 = some a0) (k : wpm d 5 [.ref a0, .int (x2 + (1 : Int32))] h (fun r h' => wpx d P_Bo_lengthen 70 [.ref r0, .ref r1, .int x2, .int x3, .int x4, .int x5] (r.toList ++ []) h' Q)) : wpx d P_Bo_lengthen 60 [.ref r0, .ref r1, .int x2, .int x3, .int x4, .int x5] [] h Q := by
  refine st_aload (pc' := 61) rfl rfl rfl ?_
  refine st_getfr (x := some a0) (Or.inl rfl) rfl hs0 rfl hr1 (pc' := 64) rfl ?_
  refine st_iload (pc' := 65) rfl rfl rfl ?_
  refine st_ipush (pc' := 66) (v := 1) rfl rfl (by decide) ?_
  refine st_iadd (pc' := 67) rfl rfl ?_
  exact st_call (pc' := 70) (as := [.ref a0, .int (x2 + (1 : Int32))]) (rest := []) rfl rfl (Nat.le_of_ble_eq_true rfl) rfl rfl (Nat.le_of_ble_eq_true rfl) (kd := 0) (o := 0) rfl rfl rfl k
theorem B_Bo_lengthen_70 {d : Nat} {h : PH} {Q : PQ} {r0 : Nat} {r1 : Nat} {x2 : Int32} {x3 : Int32} {x4 : Int32} {x5 : Int32} {s0 : Int32}  (kt : ¬ (s0 = 0) → wpx d P_Bo_lengthen 86 [.ref r0, .ref r1, .int x2, .int x3, .int x4, .int x5] [] h Q) (kf : s0 = 0 → wpx d P_Bo_lengthen 73 [.ref r0, .ref r1, .int x2, .int x3, .int x4, .int x5] [] h Q) : wpx d P_Bo_lengthen 70 [.ref r0, .ref r1, .int x2, .int x3, .int x4, .int x5] [.int s0] h Q := by
  exact st_if_ne (pc' := 73) rfl rfl kt kf
theorem B_Bo_lengthen_73 {d : Nat} {h : PH} {Q : PQ} {r0 : Nat} {r1 : Nat} {x2 : Int32} {x3 : Int32} {x4 : Int32} {x5 : Int32} (hs0 : h_sh h r0 = some (0, 0)) (k : wpm d 8 [.ref r0, .int (((x2 + (1 : Int32)) <<< ((20 : Int32) &&& 31)) ||| x5)] h (fun r h' => wpx d P_Bo_lengthen 86 [.ref r0, .ref r1, .int x2, .int x3, .int x4, .int x5] (r.toList ++ []) h' Q)) : wpx d P_Bo_lengthen 73 [.ref r0, .ref r1, .int x2, .int x3, .int x4, .int x5] [] h Q := by
  refine st_aload (pc' := 74) rfl rfl rfl ?_
  refine st_iload (pc' := 75) rfl rfl rfl ?_
  refine st_ipush (pc' := 76) (v := 1) rfl rfl (by decide) ?_
  refine st_iadd (pc' := 77) rfl rfl ?_
  refine st_ipush (pc' := 79) (v := 20) rfl rfl (by decide) ?_
  refine st_ishl (pc' := 80) rfl rfl ?_
  refine st_iload (pc' := 82) rfl rfl rfl ?_
  refine st_ior (pc' := 83) rfl rfl ?_
  exact st_call (pc' := 86) (as := [.ref r0, .int (((x2 + (1 : Int32)) <<< ((20 : Int32) &&& 31)) ||| x5)]) (rest := []) rfl rfl (Nat.le_of_ble_eq_true rfl) rfl rfl (Nat.le_of_ble_eq_true rfl) (kd := 1) (o := 0) rfl rfl (beq_iff_eq.mpr hs0) k
theorem B_Bo_lengthen_86 {d : Nat} {h : PH} {Q : PQ} {r0 : Nat} {r1 : Nat} {x2 : Int32} {x3 : Int32} {x4 : Int32} {x5 : Int32}  (k : wpx d P_Bo_lengthen 9 [.ref r0, .ref r1, .int x2, .int x3, .int (x4 + 1), .int x5] [] h Q) : wpx d P_Bo_lengthen 86 [.ref r0, .ref r1, .int x2, .int x3, .int x4, .int x5] [] h Q := by
  refine st_iinc (pc' := 89) (v := 1) (ls' := [.ref r0, .ref r1, .int x2, .int x3, .int (x4 + 1), .int x5]) rfl rfl rfl (by decide) rfl ?_
  exact st_goto rfl k
theorem B_Bo_lengthen_92 {d : Nat} {h : PH} {Q : PQ} {r0 : Nat} {r1 : Nat} {x2 : Int32} {x3 : Int32} {x4 : Int32} {v5 : Value}  (k : Q none h) : wpx d P_Bo_lengthen 92 [.ref r0, .ref r1, .int x2, .int x3, .int x4, v5] [] h Q := by
  exact st_return rfl k
theorem B_Bo_putAhead_0 {d : Nat} {h : PH} {Q : PQ} {r0 : Nat} {r1 : Nat} {x2 : Int32} {x3 : Int32} {v4 : Value} {v5 : Value} (hs0 : h_sh h r0 = some (0, 0)) (k : wpm d 2 [.ref r0, .int (x2 + (1 : Int32))] h (fun r h' => wpx d P_Bo_putAhead 7 [.ref r0, .ref r1, .int x2, .int x3, v4, v5] (r.toList ++ []) h' Q)) : wpx d P_Bo_putAhead 0 [.ref r0, .ref r1, .int x2, .int x3, v4, v5] [] h Q := by
  refine st_aload (pc' := 1) rfl rfl rfl ?_
  refine st_iload (pc' := 2) rfl rfl rfl ?_
  refine st_ipush (pc' := 3) (v := 1) rfl rfl (by decide) ?_
  refine st_iadd (pc' := 4) rfl rfl ?_
  exact st_call (pc' := 7) (as := [.ref r0, .int (x2 + (1 : Int32))]) (rest := []) rfl rfl (Nat.le_of_ble_eq_true rfl) rfl rfl (Nat.le_of_ble_eq_true rfl) (kd := 1) (o := 0) rfl rfl (beq_iff_eq.mpr hs0) k
theorem B_Bo_putAhead_7 {d : Nat} {h : PH} {Q : PQ} {r0 : Nat} {r1 : Nat} {x2 : Int32} {x3 : Int32} {v4 : Value} {v5 : Value} {a0 : Nat} {n1 : Nat} (hs0 : h_sh h r1 = some (0, 8)) (hr1 : h_r h r1 8 = some a0) (hs2 : h_sh h a0 = some (1, n1)) (hb3 : vp_in x3 n1) (k : wpx d P_Bo_putAhead 15 [.ref r0, .ref r1, .int x2, .int x3, .int (h_i h a0 x3.toNatClampNeg), v5] [] h Q) : wpx d P_Bo_putAhead 7 [.ref r0, .ref r1, .int x2, .int x3, v4, v5] [] h Q := by
  refine st_aload (pc' := 8) rfl rfl rfl ?_
  refine st_getfr (x := some a0) (Or.inr rfl) rfl hs0 rfl hr1 (pc' := 11) rfl ?_
  refine st_iload (pc' := 12) rfl rfl rfl ?_
  refine st_iaload rfl hs2 hb3 (j := x3.toNatClampNeg) rfl (pc' := 13) rfl ?_
  refine st_istore (pc' := 15) (ls' := [.ref r0, .ref r1, .int x2, .int x3, .int (h_i h a0 x3.toNatClampNeg), v5]) rfl rfl (Nat.le_of_ble_eq_true rfl) rfl ?_
  exact k
theorem B_Bo_putAhead_15 {d : Nat} {h : PH} {Q : PQ} {r0 : Nat} {r1 : Nat} {x2 : Int32} {x3 : Int32} {x4 : Int32} {v5 : Value} {a0 : Nat} {n1 : Nat} (hs0 : h_sh h r1 = some (0, 8)) (hr1 : h_r h r1 8 = some a0) (hs2 : h_sh h a0 = some (1, n1)) (hb3 : vp_in (x3 + (1 : Int32)) n1) (kt : (h_i h a0 (x3 + (1 : Int32)).toNatClampNeg) ≤ x4 → wpx d P_Bo_putAhead 167 [.ref r0, .ref r1, .int x2, .int x3, .int x4, v5] [] h Q) (kf : ¬ ((h_i h a0 (x3 + (1 : Int32)).toNatClampNeg) ≤ x4) → wpx d P_Bo_putAhead 28 [.ref r0, .ref r1, .int x2, .int x3, .int x4, v5] [] h Q) : wpx d P_Bo_putAhead 15 [.ref r0, .ref r1, .int x2, .int x3, .int x4, v5] [] h Q := by
  refine st_iload (pc' := 17) rfl rfl rfl ?_
  refine st_aload (pc' := 18) rfl rfl rfl ?_
  refine st_getfr (x := some a0) (Or.inr rfl) rfl hs0 rfl hr1 (pc' := 21) rfl ?_
  refine st_iload (pc' := 22) rfl rfl rfl ?_
  refine st_ipush (pc' := 23) (v := 1) rfl rfl (by decide) ?_
  refine st_iadd (pc' := 24) rfl rfl ?_
  refine st_iaload rfl hs2 hb3 (j := (x3 + (1 : Int32)).toNatClampNeg) rfl (pc' := 25) rfl ?_
  exact st_icmp_ge (pc' := 28) rfl rfl kt kf
theorem B_Bo_putAhead_28 {d : Nat} {h : PH} {Q : PQ} {r0 : Nat} {r1 : Nat} {x2 : Int32} {x3 : Int32} {x4 : Int32} {v5 : Value} {a0 : Nat} {n1 : Nat} {a2 : Nat} {n3 : Nat} (hs0 : h_sh h r1 = some (0, 8)) (hr1 : h_r h r1 7 = some a0) (hs2 : h_sh h a0 = some (1, n1)) (hb3 : vp_in x4 n1) (hr4 : h_r h r1 4 = some a2) (hs5 : h_sh h a2 = some (3, n3)) (hb6 : vp_in (h_i h a0 x4.toNatClampNeg) n3) (kt : (h_i h a2 (h_i h a0 x4.toNatClampNeg).toNatClampNeg) = 0 → wpx d P_Bo_putAhead 60 [.ref r0, .ref r1, .int x2, .int x3, .int x4, .int (h_i h a0 x4.toNatClampNeg)] [] h Q) (kf : ¬ ((h_i h a2 (h_i h a0 x4.toNatClampNeg).toNatClampNeg) = 0) → wpx d P_Bo_putAhead 47 [.ref r0, .ref r1, .int x2, .int x3, .int x4, .int (h_i h a0 x4.toNatClampNeg)] [] h Q) : wpx d P_Bo_putAhead 28 [.ref r0, .ref r1, .int x2, .int x3, .int x4, v5] [] h Q := by
  refine st_aload (pc' := 29) rfl rfl rfl ?_
  refine st_getfr (x := some a0) (Or.inr rfl) rfl hs0 rfl hr1 (pc' := 32) rfl ?_
  refine st_iload (pc' := 34) rfl rfl rfl ?_
  refine st_iaload rfl hs2 hb3 (j := x4.toNatClampNeg) rfl (pc' := 35) rfl ?_
  refine st_istore (pc' := 37) (ls' := [.ref r0, .ref r1, .int x2, .int x3, .int x4, .int (h_i h a0 x4.toNatClampNeg)]) rfl rfl (Nat.le_of_ble_eq_true rfl) rfl ?_
  refine st_aload (pc' := 38) rfl rfl rfl ?_
  refine st_getfr (x := some a2) (Or.inr rfl) rfl hs0 rfl hr4 (pc' := 41) rfl ?_
  refine st_iload (pc' := 43) rfl rfl rfl ?_
  refine st_baload rfl (Or.inr hs5) hb6 (j := (h_i h a0 x4.toNatClampNeg).toNatClampNeg) rfl (pc' := 44) rfl ?_
  exact st_if_eq (pc' := 47) rfl rfl kt kf
theorem B_Bo_putAhead_47 {d : Nat} {h : PH} {Q : PQ} {r0 : Nat} {r1 : Nat} {x2 : Int32} {x3 : Int32} {x4 : Int32} {x5 : Int32} {a0 : Nat} (hs0 : h_sh h r0 = some (0, 0)) (hr1 : h_r h r0 0 = some a0) (k : wpm d 4 [.ref a0, .int x2, .int x5] h (fun r h' => wpx d P_Bo_putAhead 57 [.ref r0, .ref r1, .int x2, .int x3, .int x4, .int x5] (r.toList ++ []) h' Q)) : wpx d P_Bo_putAhead 47 [.ref r0, .ref r1, .int x2, .int x3, .int x4, .int x5] [] h Q := by
  refine st_aload (pc' := 48) rfl rfl rfl ?_
  refine st_getfr (x := some a0) (Or.inl rfl) rfl hs0 rfl hr1 (pc' := 51) rfl ?_
  refine st_iload (pc' := 52) rfl rfl rfl ?_
  refine st_iload (pc' := 54) rfl rfl rfl ?_
  exact st_call (pc' := 57) (as := [.ref a0, .int x2, .int x5]) (rest := []) rfl rfl (Nat.le_of_ble_eq_true rfl) rfl rfl (Nat.le_of_ble_eq_true rfl) (kd := 0) (o := 0) rfl rfl rfl k
theorem B_Bo_putAhead_57 {d : Nat} {h : PH} {Q : PQ} {r0 : Nat} {r1 : Nat} {x2 : Int32} {x3 : Int32} {x4 : Int32} {x5 : Int32} {s0 : Int32}  (kt : ¬ (s0 = 0) → wpx d P_Bo_putAhead 82 [.ref r0, .ref r1, .int x2, .int x3, .int x4, .int x5] [] h Q) (kf : s0 = 0 → wpx d P_Bo_putAhead 60 [.ref r0, .ref r1, .int x2, .int x3, .int x4, .int x5] [] h Q) : wpx d P_Bo_putAhead 57 [.ref r0, .ref r1, .int x2, .int x3, .int x4, .int x5] [.int s0] h Q := by
  exact st_if_ne (pc' := 60) rfl rfl kt kf
theorem B_Bo_putAhead_60 {d : Nat} {h : PH} {Q : PQ} {r0 : Nat} {r1 : Nat} {x2 : Int32} {x3 : Int32} {x4 : Int32} {x5 : Int32} {a0 : Nat} {n1 : Nat} (hs0 : h_sh h r1 = some (0, 8)) (hr1 : h_r h r1 3 = some a0) (hs2 : h_sh h a0 = some (3, n1)) (hb3 : vp_in x5 n1) (kt : (h_i h a0 x5.toNatClampNeg) = 0 → wpx d P_Bo_putAhead 99 [.ref r0, .ref r1, .int x2, .int x3, .int x4, .int x5] [] h Q) (kf : ¬ ((h_i h a0 x5.toNatClampNeg) = 0) → wpx d P_Bo_putAhead 70 [.ref r0, .ref r1, .int x2, .int x3, .int x4, .int x5] [] h Q) : wpx d P_Bo_putAhead 60 [.ref r0, .ref r1, .int x2, .int x3, .int x4, .int x5] [] h Q := by
  refine st_aload (pc' := 61) rfl rfl rfl ?_
  refine st_getfr (x := some a0) (Or.inr rfl) rfl hs0 rfl hr1 (pc' := 64) rfl ?_
  refine st_iload (pc' := 66) rfl rfl rfl ?_
  refine st_baload rfl (Or.inr hs2) hb3 (j := x5.toNatClampNeg) rfl (pc' := 67) rfl ?_
  exact st_if_eq (pc' := 70) rfl rfl kt kf
theorem B_Bo_putAhead_70 {d : Nat} {h : PH} {Q : PQ} {r0 : Nat} {r1 : Nat} {x2 : Int32} {x3 : Int32} {x4 : Int32} {x5 : Int32} {a0 : Nat} (hs0 : h_sh h r0 = some (0, 0)) (hr1 : h_r h r0 0 = some a0) (k : wpm d 4 [.ref a0, .int x2, .int 0] h (fun r h' => wpx d P_Bo_putAhead 79 [.ref r0, .ref r1, .int x2, .int x3, .int x4, .int x5] (r.toList ++ []) h' Q)) : wpx d P_Bo_putAhead 70 [.ref r0, .ref r1, .int x2, .int x3, .int x4, .int x5] [] h Q := by
  refine st_aload (pc' := 71) rfl rfl rfl ?_
  refine st_getfr (x := some a0) (Or.inl rfl) rfl hs0 rfl hr1 (pc' := 74) rfl ?_
  refine st_iload (pc' := 75) rfl rfl rfl ?_
  refine st_ipush (pc' := 76) (v := 0) rfl rfl (by decide) ?_
  exact st_call (pc' := 79) (as := [.ref a0, .int x2, .int 0]) (rest := []) rfl rfl (Nat.le_of_ble_eq_true rfl) rfl rfl (Nat.le_of_ble_eq_true rfl) (kd := 0) (o := 0) rfl rfl rfl k
theorem B_Bo_putAhead_79 {d : Nat} {h : PH} {Q : PQ} {r0 : Nat} {r1 : Nat} {x2 : Int32} {x3 : Int32} {x4 : Int32} {x5 : Int32} {s0 : Int32}  (kt : s0 = 0 → wpx d P_Bo_putAhead 99 [.ref r0, .ref r1, .int x2, .int x3, .int x4, .int x5] [] h Q) (kf : ¬ (s0 = 0) → wpx d P_Bo_putAhead 82 [.ref r0, .ref r1, .int x2, .int x3, .int x4, .int x5] [] h Q) : wpx d P_Bo_putAhead 79 [.ref r0, .ref r1, .int x2, .int x3, .int x4, .int x5] [.int s0] h Q := by
  exact st_if_eq (pc' := 82) rfl rfl kt kf
theorem B_Bo_putAhead_82 {d : Nat} {h : PH} {Q : PQ} {r0 : Nat} {r1 : Nat} {x2 : Int32} {x3 : Int32} {x4 : Int32} {x5 : Int32} {a0 : Nat} {a1 : Nat} {n2 : Nat} (hs0 : h_sh h r0 = some (0, 0)) (hr1 : h_r h r0 0 = some a0) (hs2 : h_sh h r1 = some (0, 8)) (hr3 : h_r h r1 5 = some a1) (hs4 : h_sh h a1 = some (1, n2)) (hb5 : vp_in x5 n2) (k : wpm d 3 [.ref a0, .int (x2 + (1 : Int32)), .int (h_i h a1 x5.toNatClampNeg)] h (fun r h' => wpx d P_Bo_putAhead 99 [.ref r0, .ref r1, .int x2, .int x3, .int x4, .int x5] (r.toList ++ []) h' Q)) : wpx d P_Bo_putAhead 82 [.ref r0, .ref r1, .int x2, .int x3, .int x4, .int x5] [] h Q := by
  refine st_aload (pc' := 83) rfl rfl rfl ?_
  refine st_getfr (x := some a0) (Or.inl rfl) rfl hs0 rfl hr1 (pc' := 86) rfl ?_
  refine st_iload (pc' := 87) rfl rfl rfl ?_
  refine st_ipush (pc' := 88) (v := 1) rfl rfl (by decide) ?_
  refine st_iadd (pc' := 89) rfl rfl ?_
  refine st_aload (pc' := 90) rfl rfl rfl ?_
  refine st_getfr (x := some a1) (Or.inr rfl) rfl hs2 rfl hr3 (pc' := 93) rfl ?_
  refine st_iload (pc' := 95) rfl rfl rfl ?_
  refine st_iaload rfl hs4 hb5 (j := x5.toNatClampNeg) rfl (pc' := 96) rfl ?_
  exact st_call (pc' := 99) (as := [.ref a0, .int (x2 + (1 : Int32)), .int (h_i h a1 x5.toNatClampNeg)]) (rest := []) rfl rfl (Nat.le_of_ble_eq_true rfl) rfl rfl (Nat.le_of_ble_eq_true rfl) (kd := 0) (o := 0) rfl rfl rfl k
theorem B_Bo_putAhead_99 {d : Nat} {h : PH} {Q : PQ} {r0 : Nat} {r1 : Nat} {x2 : Int32} {x3 : Int32} {x4 : Int32} {x5 : Int32} {a0 : Nat} {n1 : Nat} (hs0 : h_sh h r1 = some (0, 8)) (hr1 : h_r h r1 4 = some a0) (hs2 : h_sh h a0 = some (3, n1)) (hb3 : vp_in x5 n1) (kt : (h_i h a0 x5.toNatClampNeg) = 0 → wpx d P_Bo_putAhead 122 [.ref r0, .ref r1, .int x2, .int x3, .int x4, .int x5] [] h Q) (kf : ¬ ((h_i h a0 x5.toNatClampNeg) = 0) → wpx d P_Bo_putAhead 109 [.ref r0, .ref r1, .int x2, .int x3, .int x4, .int x5] [] h Q) : wpx d P_Bo_putAhead 99 [.ref r0, .ref r1, .int x2, .int x3, .int x4, .int x5] [] h Q := by
  refine st_aload (pc' := 100) rfl rfl rfl ?_
  refine st_getfr (x := some a0) (Or.inr rfl) rfl hs0 rfl hr1 (pc' := 103) rfl ?_
  refine st_iload (pc' := 105) rfl rfl rfl ?_
  refine st_baload rfl (Or.inr hs2) hb3 (j := x5.toNatClampNeg) rfl (pc' := 106) rfl ?_
  exact st_if_eq (pc' := 109) rfl rfl kt kf
theorem B_Bo_putAhead_109 {d : Nat} {h : PH} {Q : PQ} {r0 : Nat} {r1 : Nat} {x2 : Int32} {x3 : Int32} {x4 : Int32} {x5 : Int32} {a0 : Nat} (hs0 : h_sh h r0 = some (0, 0)) (hr1 : h_r h r0 1 = some a0) (k : wpm d 4 [.ref a0, .int x2, .int x5] h (fun r h' => wpx d P_Bo_putAhead 119 [.ref r0, .ref r1, .int x2, .int x3, .int x4, .int x5] (r.toList ++ []) h' Q)) : wpx d P_Bo_putAhead 109 [.ref r0, .ref r1, .int x2, .int x3, .int x4, .int x5] [] h Q := by
  refine st_aload (pc' := 110) rfl rfl rfl ?_
  refine st_getfr (x := some a0) (Or.inl rfl) rfl hs0 rfl hr1 (pc' := 113) rfl ?_
  refine st_iload (pc' := 114) rfl rfl rfl ?_
  refine st_iload (pc' := 116) rfl rfl rfl ?_
  exact st_call (pc' := 119) (as := [.ref a0, .int x2, .int x5]) (rest := []) rfl rfl (Nat.le_of_ble_eq_true rfl) rfl rfl (Nat.le_of_ble_eq_true rfl) (kd := 0) (o := 0) rfl rfl rfl k
theorem B_Bo_putAhead_119 {d : Nat} {h : PH} {Q : PQ} {r0 : Nat} {r1 : Nat} {x2 : Int32} {x3 : Int32} {x4 : Int32} {x5 : Int32} {s0 : Int32}  (kt : ¬ (s0 = 0) → wpx d P_Bo_putAhead 144 [.ref r0, .ref r1, .int x2, .int x3, .int x4, .int x5] [] h Q) (kf : s0 = 0 → wpx d P_Bo_putAhead 122 [.ref r0, .ref r1, .int x2, .int x3, .int x4, .int x5] [] h Q) : wpx d P_Bo_putAhead 119 [.ref r0, .ref r1, .int x2, .int x3, .int x4, .int x5] [.int s0] h Q := by
  exact st_if_ne (pc' := 122) rfl rfl kt kf
theorem B_Bo_putAhead_122 {d : Nat} {h : PH} {Q : PQ} {r0 : Nat} {r1 : Nat} {x2 : Int32} {x3 : Int32} {x4 : Int32} {x5 : Int32} {a0 : Nat} {n1 : Nat} (hs0 : h_sh h r1 = some (0, 8)) (hr1 : h_r h r1 3 = some a0) (hs2 : h_sh h a0 = some (3, n1)) (hb3 : vp_in x5 n1) (kt : (h_i h a0 x5.toNatClampNeg) = 0 → wpx d P_Bo_putAhead 161 [.ref r0, .ref r1, .int x2, .int x3, .int x4, .int x5] [] h Q) (kf : ¬ ((h_i h a0 x5.toNatClampNeg) = 0) → wpx d P_Bo_putAhead 132 [.ref r0, .ref r1, .int x2, .int x3, .int x4, .int x5] [] h Q) : wpx d P_Bo_putAhead 122 [.ref r0, .ref r1, .int x2, .int x3, .int x4, .int x5] [] h Q := by
  refine st_aload (pc' := 123) rfl rfl rfl ?_
  refine st_getfr (x := some a0) (Or.inr rfl) rfl hs0 rfl hr1 (pc' := 126) rfl ?_
  refine st_iload (pc' := 128) rfl rfl rfl ?_
  refine st_baload rfl (Or.inr hs2) hb3 (j := x5.toNatClampNeg) rfl (pc' := 129) rfl ?_
  exact st_if_eq (pc' := 132) rfl rfl kt kf
theorem B_Bo_putAhead_132 {d : Nat} {h : PH} {Q : PQ} {r0 : Nat} {r1 : Nat} {x2 : Int32} {x3 : Int32} {x4 : Int32} {x5 : Int32} {a0 : Nat} (hs0 : h_sh h r0 = some (0, 0)) (hr1 : h_r h r0 1 = some a0) (k : wpm d 4 [.ref a0, .int x2, .int 0] h (fun r h' => wpx d P_Bo_putAhead 141 [.ref r0, .ref r1, .int x2, .int x3, .int x4, .int x5] (r.toList ++ []) h' Q)) : wpx d P_Bo_putAhead 132 [.ref r0, .ref r1, .int x2, .int x3, .int x4, .int x5] [] h Q := by
  refine st_aload (pc' := 133) rfl rfl rfl ?_
  refine st_getfr (x := some a0) (Or.inl rfl) rfl hs0 rfl hr1 (pc' := 136) rfl ?_
  refine st_iload (pc' := 137) rfl rfl rfl ?_
  refine st_ipush (pc' := 138) (v := 0) rfl rfl (by decide) ?_
  exact st_call (pc' := 141) (as := [.ref a0, .int x2, .int 0]) (rest := []) rfl rfl (Nat.le_of_ble_eq_true rfl) rfl rfl (Nat.le_of_ble_eq_true rfl) (kd := 0) (o := 0) rfl rfl rfl k
theorem B_Bo_putAhead_141 {d : Nat} {h : PH} {Q : PQ} {r0 : Nat} {r1 : Nat} {x2 : Int32} {x3 : Int32} {x4 : Int32} {x5 : Int32} {s0 : Int32}  (kt : s0 = 0 → wpx d P_Bo_putAhead 161 [.ref r0, .ref r1, .int x2, .int x3, .int x4, .int x5] [] h Q) (kf : ¬ (s0 = 0) → wpx d P_Bo_putAhead 144 [.ref r0, .ref r1, .int x2, .int x3, .int x4, .int x5] [] h Q) : wpx d P_Bo_putAhead 141 [.ref r0, .ref r1, .int x2, .int x3, .int x4, .int x5] [.int s0] h Q := by
  exact st_if_eq (pc' := 144) rfl rfl kt kf
theorem B_Bo_putAhead_144 {d : Nat} {h : PH} {Q : PQ} {r0 : Nat} {r1 : Nat} {x2 : Int32} {x3 : Int32} {x4 : Int32} {x5 : Int32} {a0 : Nat} {a1 : Nat} {n2 : Nat} (hs0 : h_sh h r0 = some (0, 0)) (hr1 : h_r h r0 1 = some a0) (hs2 : h_sh h r1 = some (0, 8)) (hr3 : h_r h r1 5 = some a1) (hs4 : h_sh h a1 = some (1, n2)) (hb5 : vp_in x5 n2) (k : wpm d 3 [.ref a0, .int (x2 + (1 : Int32)), .int (h_i h a1 x5.toNatClampNeg)] h (fun r h' => wpx d P_Bo_putAhead 161 [.ref r0, .ref r1, .int x2, .int x3, .int x4, .int x5] (r.toList ++ []) h' Q)) : wpx d P_Bo_putAhead 144 [.ref r0, .ref r1, .int x2, .int x3, .int x4, .int x5] [] h Q := by
  refine st_aload (pc' := 145) rfl rfl rfl ?_
  refine st_getfr (x := some a0) (Or.inl rfl) rfl hs0 rfl hr1 (pc' := 148) rfl ?_
  refine st_iload (pc' := 149) rfl rfl rfl ?_
  refine st_ipush (pc' := 150) (v := 1) rfl rfl (by decide) ?_
  refine st_iadd (pc' := 151) rfl rfl ?_
  refine st_aload (pc' := 152) rfl rfl rfl ?_
  refine st_getfr (x := some a1) (Or.inr rfl) rfl hs2 rfl hr3 (pc' := 155) rfl ?_
  refine st_iload (pc' := 157) rfl rfl rfl ?_
  refine st_iaload rfl hs4 hb5 (j := x5.toNatClampNeg) rfl (pc' := 158) rfl ?_
  exact st_call (pc' := 161) (as := [.ref a0, .int (x2 + (1 : Int32)), .int (h_i h a1 x5.toNatClampNeg)]) (rest := []) rfl rfl (Nat.le_of_ble_eq_true rfl) rfl rfl (Nat.le_of_ble_eq_true rfl) (kd := 0) (o := 0) rfl rfl rfl k
theorem B_Bo_putAhead_161 {d : Nat} {h : PH} {Q : PQ} {r0 : Nat} {r1 : Nat} {x2 : Int32} {x3 : Int32} {x4 : Int32} {x5 : Int32}  (k : wpx d P_Bo_putAhead 15 [.ref r0, .ref r1, .int x2, .int x3, .int (x4 + 1), .int x5] [] h Q) : wpx d P_Bo_putAhead 161 [.ref r0, .ref r1, .int x2, .int x3, .int x4, .int x5] [] h Q := by
  refine st_iinc (pc' := 164) (v := 1) (ls' := [.ref r0, .ref r1, .int x2, .int x3, .int (x4 + 1), .int x5]) rfl rfl rfl (by decide) rfl ?_
  exact st_goto rfl k
theorem B_Bo_putAhead_167 {d : Nat} {h : PH} {Q : PQ} {r0 : Nat} {r1 : Nat} {x2 : Int32} {x3 : Int32} {x4 : Int32} {v5 : Value}  (k : Q none h) : wpx d P_Bo_putAhead 167 [.ref r0, .ref r1, .int x2, .int x3, .int x4, v5] [] h Q := by
  exact st_return rfl k
theorem B_Bo_keep_0 {d : Nat} {h : PH} {Q : PQ} {r0 : Nat} {x1 : Int32} {a0 : Nat} {n1 : Nat} (hs0 : h_sh h r0 = some (0, 0)) (hr1 : h_r h r0 2 = some a0) (hs2 : h_sh h a0 = some (1, n1)) (kt : (h_i h r0 3) < (Int32.ofNat n1) → wpx d P_Bo_keep 30 [.ref r0, .int x1] [] h Q) (kf : ¬ ((h_i h r0 3) < (Int32.ofNat n1)) → wpx d P_Bo_keep 12 [.ref r0, .int x1] [] h Q) : wpx d P_Bo_keep 0 [.ref r0, .int x1] [] h Q := by
  refine st_aload (pc' := 1) rfl rfl rfl ?_
  refine st_getfi (Or.inl rfl) rfl hs0 rfl (pc' := 4) rfl ?_
  refine st_aload (pc' := 5) rfl rfl rfl ?_
  refine st_getfr (x := some a0) (Or.inl rfl) rfl hs0 rfl hr1 (pc' := 8) rfl ?_
  refine st_alen rfl hs2 (by decide) (pc' := 9) rfl ?_
  exact st_icmp_lt (pc' := 12) rfl rfl kt kf
theorem B_Bo_keep_12 {d : Nat} {h : PH} {Q : PQ} {r0 : Nat} {x1 : Int32} {a0 : Nat} {n1 : Nat} (hs0 : h_sh h r0 = some (0, 0)) (hr1 : h_r h r0 2 = some a0) (hs2 : h_sh h a0 = some (1, n1)) (k : wpm d 285 [.ref a0, .int ((2 : Int32) * (Int32.ofNat n1))] h (fun r h' => wpx d P_Bo_keep 27 [.ref r0, .int x1] (r.toList ++ [.ref r0]) h' Q)) : wpx d P_Bo_keep 12 [.ref r0, .int x1] [] h Q := by
  refine st_aload (pc' := 13) rfl rfl rfl ?_
  refine st_aload (pc' := 14) rfl rfl rfl ?_
  refine st_getfr (x := some a0) (Or.inl rfl) rfl hs0 rfl hr1 (pc' := 17) rfl ?_
  refine st_ipush (pc' := 18) (v := 2) rfl rfl (by decide) ?_
  refine st_aload (pc' := 19) rfl rfl rfl ?_
  refine st_getfr (x := some a0) (Or.inl rfl) rfl hs0 rfl hr1 (pc' := 22) rfl ?_
  refine st_alen rfl hs2 (by decide) (pc' := 23) rfl ?_
  refine st_imul (pc' := 24) rfl rfl ?_
  exact st_call (pc' := 27) (as := [.ref a0, .int ((2 : Int32) * (Int32.ofNat n1))]) (rest := [.ref r0]) rfl rfl (Nat.le_of_ble_eq_true rfl) rfl rfl (Nat.le_of_ble_eq_true rfl) (kd := 0) (o := 16) rfl rfl rfl k
theorem B_Bo_keep_27 {d : Nat} {h : PH} {Q : PQ} {r0 : Nat} {x1 : Int32} {q0 : Nat} {q1 : Nat} (hs0 : h_sh h q0 = some (0, 0)) (k : wpx d P_Bo_keep 30 [.ref r0, .int x1] [] (w_r h q0 2 (some q1)) Q) : wpx d P_Bo_keep 27 [.ref r0, .int x1] [.ref q1, .ref q0] h Q := by
  refine st_putf (h' := w_r h q0 2 (some q1)) (Or.inl rfl) rfl hs0 rfl rfl rfl (pc' := 30) rfl ?_
  exact k
theorem B_Bo_keep_30 {d : Nat} {h : PH} {Q : PQ} {r0 : Nat} {x1 : Int32} {a0 : Nat} {n1 : Nat} (hs0 : h_sh h r0 = some (0, 0)) (hr1 : h_r h r0 2 = some a0) (hs2 : h_sh h a0 = some (1, n1)) (hb3 : vp_in (h_i h r0 3) n1) (k : Q none (w_i (w_i h a0 ((h_i h r0 3).toNatClampNeg) x1) r0 3 ((h_i (w_i h a0 ((h_i h r0 3).toNatClampNeg) x1) r0 3) + (1 : Int32)))) : wpx d P_Bo_keep 30 [.ref r0, .int x1] [] h Q := by
  refine st_aload (pc' := 31) rfl rfl rfl ?_
  refine st_getfr (x := some a0) (Or.inl rfl) rfl hs0 rfl hr1 (pc' := 34) rfl ?_
  refine st_aload (pc' := 35) rfl rfl rfl ?_
  refine st_getfi (Or.inl rfl) rfl hs0 rfl (pc' := 38) rfl ?_
  refine st_iload (pc' := 39) rfl rfl rfl ?_
  refine st_iastore rfl hs2 hb3 (j := (h_i h r0 3).toNatClampNeg) rfl (pc' := 40) rfl ?_
  refine st_aload (pc' := 41) rfl rfl rfl ?_
  refine st_dup (pc' := 42) rfl rfl rfl ?_
  refine st_getfi (Or.inl rfl) rfl hs0 rfl (pc' := 45) rfl ?_
  refine st_ipush (pc' := 46) (v := 1) rfl rfl (by decide) ?_
  refine st_iadd (pc' := 47) rfl rfl ?_
  refine st_putf (h' := w_i (w_i h a0 ((h_i h r0 3).toNatClampNeg) x1) r0 3 ((h_i (w_i h a0 ((h_i h r0 3).toNatClampNeg) x1) r0 3) + (1 : Int32))) (Or.inl rfl) rfl hs0 rfl rfl rfl (pc' := 50) rfl ?_
  exact st_return rfl k
theorem B_Bo_sort_0 {d : Nat} {h : PH} {Q : PQ} {r0 : Nat} {v1 : Value} {v2 : Value} {v3 : Value} {v4 : Value} (hs0 : h_sh h r0 = some (0, 0)) (k : wpx d P_Bo_sort 7 [.ref r0, .int ((h_i h r0 3) / (2 : Int32)), v2, v3, v4] [] h Q) : wpx d P_Bo_sort 0 [.ref r0, v1, v2, v3, v4] [] h Q := by
  refine st_aload (pc' := 1) rfl rfl rfl ?_
  refine st_getfi (Or.inl rfl) rfl hs0 rfl (pc' := 4) rfl ?_
  refine st_ipush (pc' := 5) (v := 2) rfl rfl (by decide) ?_
  refine st_idiv rfl (by decide) (pc' := 6) rfl ?_
  refine st_istore (pc' := 7) (ls' := [.ref r0, .int ((h_i h r0 3) / (2 : Int32)), v2, v3, v4]) rfl rfl (Nat.le_of_ble_eq_true rfl) rfl ?_
  exact k
theorem B_Bo_sort_7 {d : Nat} {h : PH} {Q : PQ} {r0 : Nat} {x1 : Int32} {v2 : Value} {v3 : Value} {v4 : Value}  (kt : x1 ≤ 0 → wpx d P_Bo_sort 97 [.ref r0, .int x1, v2, v3, v4] [] h Q) (kf : ¬ (x1 ≤ 0) → wpx d P_Bo_sort 11 [.ref r0, .int x1, v2, v3, v4] [] h Q) : wpx d P_Bo_sort 7 [.ref r0, .int x1, v2, v3, v4] [] h Q := by
  refine st_iload (pc' := 8) rfl rfl rfl ?_
  exact st_if_le (pc' := 11) rfl rfl kt kf
theorem B_Bo_sort_11 {d : Nat} {h : PH} {Q : PQ} {r0 : Nat} {x1 : Int32} {v2 : Value} {v3 : Value} {v4 : Value}  (k : wpx d P_Bo_sort 13 [.ref r0, .int x1, .int x1, v3, v4] [] h Q) : wpx d P_Bo_sort 11 [.ref r0, .int x1, v2, v3, v4] [] h Q := by
  refine st_iload (pc' := 12) rfl rfl rfl ?_
  refine st_istore (pc' := 13) (ls' := [.ref r0, .int x1, .int x1, v3, v4]) rfl rfl (Nat.le_of_ble_eq_true rfl) rfl ?_
  exact k
theorem B_Bo_sort_13 {d : Nat} {h : PH} {Q : PQ} {r0 : Nat} {x1 : Int32} {x2 : Int32} {v3 : Value} {v4 : Value} (hs0 : h_sh h r0 = some (0, 0)) (kt : (h_i h r0 3) ≤ x2 → wpx d P_Bo_sort 90 [.ref r0, .int x1, .int x2, v3, v4] [] h Q) (kf : ¬ ((h_i h r0 3) ≤ x2) → wpx d P_Bo_sort 21 [.ref r0, .int x1, .int x2, v3, v4] [] h Q) : wpx d P_Bo_sort 13 [.ref r0, .int x1, .int x2, v3, v4] [] h Q := by
  refine st_iload (pc' := 14) rfl rfl rfl ?_
  refine st_aload (pc' := 15) rfl rfl rfl ?_
  refine st_getfi (Or.inl rfl) rfl hs0 rfl (pc' := 18) rfl ?_
  exact st_icmp_ge (pc' := 21) rfl rfl kt kf
theorem B_Bo_sort_21 {d : Nat} {h : PH} {Q : PQ} {r0 : Nat} {x1 : Int32} {x2 : Int32} {v3 : Value} {v4 : Value} {a0 : Nat} {n1 : Nat} (hs0 : h_sh h r0 = some (0, 0)) (hr1 : h_r h r0 2 = some a0) (hs2 : h_sh h a0 = some (1, n1)) (hb3 : vp_in x2 n1) (k : wpx d P_Bo_sort 33 [.ref r0, .int x1, .int x2, .int (h_i h a0 x2.toNatClampNeg), .int (x2 - x1)] [] h Q) : wpx d P_Bo_sort 21 [.ref r0, .int x1, .int x2, v3, v4] [] h Q := by
  refine st_aload (pc' := 22) rfl rfl rfl ?_
  refine st_getfr (x := some a0) (Or.inl rfl) rfl hs0 rfl hr1 (pc' := 25) rfl ?_
  refine st_iload (pc' := 26) rfl rfl rfl ?_
  refine st_iaload rfl hs2 hb3 (j := x2.toNatClampNeg) rfl (pc' := 27) rfl ?_
  refine st_istore (pc' := 28) (ls' := [.ref r0, .int x1, .int x2, .int (h_i h a0 x2.toNatClampNeg), v4]) rfl rfl (Nat.le_of_ble_eq_true rfl) rfl ?_
  refine st_iload (pc' := 29) rfl rfl rfl ?_
  refine st_iload (pc' := 30) rfl rfl rfl ?_
  refine st_isub (pc' := 31) rfl rfl ?_
  refine st_istore (pc' := 33) (ls' := [.ref r0, .int x1, .int x2, .int (h_i h a0 x2.toNatClampNeg), .int (x2 - x1)]) rfl rfl (Nat.le_of_ble_eq_true rfl) rfl ?_
  exact k
theorem B_Bo_sort_33 {d : Nat} {h : PH} {Q : PQ} {r0 : Nat} {x1 : Int32} {x2 : Int32} {x3 : Int32} {x4 : Int32}  (kt : x4 < 0 → wpx d P_Bo_sort 74 [.ref r0, .int x1, .int x2, .int x3, .int x4] [] h Q) (kf : ¬ (x4 < 0) → wpx d P_Bo_sort 38 [.ref r0, .int x1, .int x2, .int x3, .int x4] [] h Q) : wpx d P_Bo_sort 33 [.ref r0, .int x1, .int x2, .int x3, .int x4] [] h Q := by
  refine st_iload (pc' := 35) rfl rfl rfl ?_
  exact st_if_lt (pc' := 38) rfl rfl kt kf
theorem B_Bo_sort_38 {d : Nat} {h : PH} {Q : PQ} {r0 : Nat} {x1 : Int32} {x2 : Int32} {x3 : Int32} {x4 : Int32} {a0 : Nat} {n1 : Nat} (hs0 : h_sh h r0 = some (0, 0)) (hr1 : h_r h r0 2 = some a0) (hs2 : h_sh h a0 = some (1, n1)) (hb3 : vp_in x4 n1) (kt : (h_i h a0 x4.toNatClampNeg) ≤ x3 → wpx d P_Bo_sort 74 [.ref r0, .int x1, .int x2, .int x3, .int x4] [] h Q) (kf : ¬ ((h_i h a0 x4.toNatClampNeg) ≤ x3) → wpx d P_Bo_sort 49 [.ref r0, .int x1, .int x2, .int x3, .int x4] [] h Q) : wpx d P_Bo_sort 38 [.ref r0, .int x1, .int x2, .int x3, .int x4] [] h Q := by
  refine st_aload (pc' := 39) rfl rfl rfl ?_
  refine st_getfr (x := some a0) (Or.inl rfl) rfl hs0 rfl hr1 (pc' := 42) rfl ?_
  refine st_iload (pc' := 44) rfl rfl rfl ?_
  refine st_iaload rfl hs2 hb3 (j := x4.toNatClampNeg) rfl (pc' := 45) rfl ?_
  refine st_iload (pc' := 46) rfl rfl rfl ?_
  exact st_icmp_le (pc' := 49) rfl rfl kt kf
theorem B_Bo_sort_49 {d : Nat} {h : PH} {Q : PQ} {r0 : Nat} {x1 : Int32} {x2 : Int32} {x3 : Int32} {x4 : Int32} {a0 : Nat} {n1 : Nat} (hs0 : h_sh h r0 = some (0, 0)) (hr1 : h_r h r0 2 = some a0) (hs2 : h_sh h a0 = some (1, n1)) (hb3 : vp_in x4 n1) (hb4 : vp_in (x4 + x1) n1) (k : wpx d P_Bo_sort 33 [.ref r0, .int x1, .int x2, .int x3, .int (x4 - x1)] [] (w_i h a0 ((x4 + x1).toNatClampNeg) (h_i h a0 x4.toNatClampNeg)) Q) : wpx d P_Bo_sort 49 [.ref r0, .int x1, .int x2, .int x3, .int x4] [] h Q := by
  refine st_aload (pc' := 50) rfl rfl rfl ?_
  refine st_getfr (x := some a0) (Or.inl rfl) rfl hs0 rfl hr1 (pc' := 53) rfl ?_
  refine st_iload (pc' := 55) rfl rfl rfl ?_
  refine st_iload (pc' := 56) rfl rfl rfl ?_
  refine st_iadd (pc' := 57) rfl rfl ?_
  refine st_aload (pc' := 58) rfl rfl rfl ?_
  refine st_getfr (x := some a0) (Or.inl rfl) rfl hs0 rfl hr1 (pc' := 61) rfl ?_
  refine st_iload (pc' := 63) rfl rfl rfl ?_
  refine st_iaload rfl hs2 hb3 (j := x4.toNatClampNeg) rfl (pc' := 64) rfl ?_
  refine st_iastore rfl hs2 hb4 (j := (x4 + x1).toNatClampNeg) rfl (pc' := 65) rfl ?_
  refine st_iload (pc' := 67) rfl rfl rfl ?_
  refine st_iload (pc' := 68) rfl rfl rfl ?_
  refine st_isub (pc' := 69) rfl rfl ?_
  refine st_istore (pc' := 71) (ls' := [.ref r0, .int x1, .int x2, .int x3, .int (x4 - x1)]) rfl rfl (Nat.le_of_ble_eq_true rfl) rfl ?_
  exact st_goto rfl k
theorem B_Bo_sort_74 {d : Nat} {h : PH} {Q : PQ} {r0 : Nat} {x1 : Int32} {x2 : Int32} {x3 : Int32} {x4 : Int32} {a0 : Nat} {n1 : Nat} (hs0 : h_sh h r0 = some (0, 0)) (hr1 : h_r h r0 2 = some a0) (hs2 : h_sh h a0 = some (1, n1)) (hb3 : vp_in (x4 + x1) n1) (k : wpx d P_Bo_sort 13 [.ref r0, .int x1, .int (x2 + 1), .int x3, .int x4] [] (w_i h a0 ((x4 + x1).toNatClampNeg) x3) Q) : wpx d P_Bo_sort 74 [.ref r0, .int x1, .int x2, .int x3, .int x4] [] h Q := by
  refine st_aload (pc' := 75) rfl rfl rfl ?_
  refine st_getfr (x := some a0) (Or.inl rfl) rfl hs0 rfl hr1 (pc' := 78) rfl ?_
  refine st_iload (pc' := 80) rfl rfl rfl ?_
  refine st_iload (pc' := 81) rfl rfl rfl ?_
  refine st_iadd (pc' := 82) rfl rfl ?_
  refine st_iload (pc' := 83) rfl rfl rfl ?_
  refine st_iastore rfl hs2 hb3 (j := (x4 + x1).toNatClampNeg) rfl (pc' := 84) rfl ?_
  refine st_iinc (pc' := 87) (v := 1) (ls' := [.ref r0, .int x1, .int (x2 + 1), .int x3, .int x4]) rfl rfl rfl (by decide) rfl ?_
  exact st_goto rfl k
theorem B_Bo_sort_90 {d : Nat} {h : PH} {Q : PQ} {r0 : Nat} {x1 : Int32} {x2 : Int32} {v3 : Value} {v4 : Value}  (k : wpx d P_Bo_sort 7 [.ref r0, .int (x1 / (2 : Int32)), .int x2, v3, v4] [] h Q) : wpx d P_Bo_sort 90 [.ref r0, .int x1, .int x2, v3, v4] [] h Q := by
  refine st_iload (pc' := 91) rfl rfl rfl ?_
  refine st_ipush (pc' := 92) (v := 2) rfl rfl (by decide) ?_
  refine st_idiv rfl (by decide) (pc' := 93) rfl ?_
  refine st_istore (pc' := 94) (ls' := [.ref r0, .int (x1 / (2 : Int32)), .int x2, v3, v4]) rfl rfl (Nat.le_of_ble_eq_true rfl) rfl ?_
  exact st_goto rfl k
theorem B_Bo_sort_97 {d : Nat} {h : PH} {Q : PQ} {r0 : Nat} {x1 : Int32} {v2 : Value} {v3 : Value} {v4 : Value}  (k : Q none h) : wpx d P_Bo_sort 97 [.ref r0, .int x1, v2, v3, v4] [] h Q := by
  exact st_return rfl k
theorem B_Bo_findStarts_0 {d : Nat} {h : PH} {Q : PQ} {r0 : Nat} {v1 : Value} {v2 : Value}  (k : wpx d P_Bo_findStarts 4 [.ref r0, .int 0, .int 1] [] h Q) : wpx d P_Bo_findStarts 0 [.ref r0, v1, v2] [] h Q := by
  refine st_ipush (pc' := 1) (v := 0) rfl rfl (by decide) ?_
  refine st_istore (pc' := 2) (ls' := [.ref r0, .int 0, v2]) rfl rfl (Nat.le_of_ble_eq_true rfl) rfl ?_
  refine st_ipush (pc' := 3) (v := 1) rfl rfl (by decide) ?_
  refine st_istore (pc' := 4) (ls' := [.ref r0, .int 0, .int 1]) rfl rfl (Nat.le_of_ble_eq_true rfl) rfl ?_
  exact k
theorem B_Bo_findStarts_4 {d : Nat} {h : PH} {Q : PQ} {r0 : Nat} {x1 : Int32} {x2 : Int32}  (kt : (4 : Int32) < x2 → wpx d P_Bo_findStarts 49 [.ref r0, .int x1, .int x2] [] h Q) (kf : ¬ ((4 : Int32) < x2) → wpx d P_Bo_findStarts 9 [.ref r0, .int x1, .int x2] [] h Q) : wpx d P_Bo_findStarts 4 [.ref r0, .int x1, .int x2] [] h Q := by
  refine st_iload (pc' := 5) rfl rfl rfl ?_
  refine st_ipush (pc' := 6) (v := 4) rfl rfl (by decide) ?_
  exact st_icmp_gt (pc' := 9) rfl rfl kt kf
theorem B_Bo_findStarts_9 {d : Nat} {h : PH} {Q : PQ} {r0 : Nat} {x1 : Int32} {x2 : Int32} {a0 : Nat} {n1 : Nat} (hs0 : h_sh h r0 = some (0, 0)) (hr1 : h_r h r0 4 = some a0) (hs2 : h_sh h a0 = some (1, n1)) (hb3 : vp_in x2 n1) (k : wpx d P_Bo_findStarts 16 [.ref r0, .int x1, .int x2] [] (w_i h a0 x2.toNatClampNeg x1) Q) : wpx d P_Bo_findStarts 9 [.ref r0, .int x1, .int x2] [] h Q := by
  refine st_aload (pc' := 10) rfl rfl rfl ?_
  refine st_getfr (x := some a0) (Or.inl rfl) rfl hs0 rfl hr1 (pc' := 13) rfl ?_
  refine st_iload (pc' := 14) rfl rfl rfl ?_
  refine st_iload (pc' := 15) rfl rfl rfl ?_
  refine st_iastore rfl hs2 hb3 (j := x2.toNatClampNeg) rfl (pc' := 16) rfl ?_
  exact k
theorem B_Bo_findStarts_16 {d : Nat} {h : PH} {Q : PQ} {r0 : Nat} {x1 : Int32} {x2 : Int32} (hs0 : h_sh h r0 = some (0, 0)) (kt : (h_i h r0 3) ≤ x1 → wpx d P_Bo_findStarts 43 [.ref r0, .int x1, .int x2] [] h Q) (kf : ¬ ((h_i h r0 3) ≤ x1) → wpx d P_Bo_findStarts 24 [.ref r0, .int x1, .int x2] [] h Q) : wpx d P_Bo_findStarts 16 [.ref r0, .int x1, .int x2] [] h Q := by
  refine st_iload (pc' := 17) rfl rfl rfl ?_
  refine st_aload (pc' := 18) rfl rfl rfl ?_
  refine st_getfi (Or.inl rfl) rfl hs0 rfl (pc' := 21) rfl ?_
  exact st_icmp_ge (pc' := 24) rfl rfl kt kf
theorem B_Bo_findStarts_24 {d : Nat} {h : PH} {Q : PQ} {r0 : Nat} {x1 : Int32} {x2 : Int32} {a0 : Nat} {n1 : Nat} (hs0 : h_sh h r0 = some (0, 0)) (hr1 : h_r h r0 2 = some a0) (hs2 : h_sh h a0 = some (1, n1)) (hb3 : vp_in x1 n1) (kt : ¬ ((((h_i h a0 x1.toNatClampNeg).toUInt32 >>> ((20 : Int32).toUInt32 &&& Int32.toUInt32 31)).toInt32) = x2) → wpx d P_Bo_findStarts 43 [.ref r0, .int x1, .int x2] [] h Q) (kf : (((h_i h a0 x1.toNatClampNeg).toUInt32 >>> ((20 : Int32).toUInt32 &&& Int32.toUInt32 31)).toInt32) = x2 → wpx d P_Bo_findStarts 37 [.ref r0, .int x1, .int x2] [] h Q) : wpx d P_Bo_findStarts 24 [.ref r0, .int x1, .int x2] [] h Q := by
  refine st_aload (pc' := 25) rfl rfl rfl ?_
  refine st_getfr (x := some a0) (Or.inl rfl) rfl hs0 rfl hr1 (pc' := 28) rfl ?_
  refine st_iload (pc' := 29) rfl rfl rfl ?_
  refine st_iaload rfl hs2 hb3 (j := x1.toNatClampNeg) rfl (pc' := 30) rfl ?_
  refine st_ipush (pc' := 32) (v := 20) rfl rfl (by decide) ?_
  refine st_iushr (pc' := 33) rfl rfl ?_
  refine st_iload (pc' := 34) rfl rfl rfl ?_
  exact st_icmp_ne (pc' := 37) rfl rfl kt kf
theorem B_Bo_findStarts_37 {d : Nat} {h : PH} {Q : PQ} {r0 : Nat} {x1 : Int32} {x2 : Int32}  (k : wpx d P_Bo_findStarts 16 [.ref r0, .int (x1 + 1), .int x2] [] h Q) : wpx d P_Bo_findStarts 37 [.ref r0, .int x1, .int x2] [] h Q := by
  refine st_iinc (pc' := 40) (v := 1) (ls' := [.ref r0, .int (x1 + 1), .int x2]) rfl rfl rfl (by decide) rfl ?_
  exact st_goto rfl k
theorem B_Bo_findStarts_43 {d : Nat} {h : PH} {Q : PQ} {r0 : Nat} {x1 : Int32} {x2 : Int32}  (k : wpx d P_Bo_findStarts 4 [.ref r0, .int x1, .int (x2 + 1)] [] h Q) : wpx d P_Bo_findStarts 43 [.ref r0, .int x1, .int x2] [] h Q := by
  refine st_iinc (pc' := 46) (v := 1) (ls' := [.ref r0, .int x1, .int (x2 + 1)]) rfl rfl rfl (by decide) rfl ?_
  exact st_goto rfl k
theorem B_Bo_findStarts_49 {d : Nat} {h : PH} {Q : PQ} {r0 : Nat} {x1 : Int32} {x2 : Int32} {a0 : Nat} {n1 : Nat} (hs0 : h_sh h r0 = some (0, 0)) (hr1 : h_r h r0 4 = some a0) (hs2 : h_sh h a0 = some (1, n1)) (hb3 : vp_in 5 n1) (k : Q none (w_i h a0 5 x1)) : wpx d P_Bo_findStarts 49 [.ref r0, .int x1, .int x2] [] h Q := by
  refine st_aload (pc' := 50) rfl rfl rfl ?_
  refine st_getfr (x := some a0) (Or.inl rfl) rfl hs0 rfl hr1 (pc' := 53) rfl ?_
  refine st_ipush (pc' := 54) (v := 5) rfl rfl (by decide) ?_
  refine st_iload (pc' := 55) rfl rfl rfl ?_
  refine st_iastore rfl hs2 hb3 (j := 5) (by decide) (pc' := 56) rfl ?_
  exact st_return rfl k
theorem B_Bo_sizeOf_0 {d : Nat} {h : PH} {Q : PQ} {r0 : Nat} {x1 : Int32}  (kt : x1 < (1 : Int32) → wpx d P_Bo_sizeOf 10 [.ref r0, .int x1] [] h Q) (kf : ¬ (x1 < (1 : Int32)) → wpx d P_Bo_sizeOf 5 [.ref r0, .int x1] [] h Q) : wpx d P_Bo_sizeOf 0 [.ref r0, .int x1] [] h Q := by
  refine st_iload (pc' := 1) rfl rfl rfl ?_
  refine st_ipush (pc' := 2) (v := 1) rfl rfl (by decide) ?_
  exact st_icmp_lt (pc' := 5) rfl rfl kt kf
theorem B_Bo_sizeOf_5 {d : Nat} {h : PH} {Q : PQ} {r0 : Nat} {x1 : Int32}  (kt : x1 ≤ (4 : Int32) → wpx d P_Bo_sizeOf 14 [.ref r0, .int x1] [] h Q) (kf : ¬ (x1 ≤ (4 : Int32)) → wpx d P_Bo_sizeOf 10 [.ref r0, .int x1] [] h Q) : wpx d P_Bo_sizeOf 5 [.ref r0, .int x1] [] h Q := by
  refine st_iload (pc' := 6) rfl rfl rfl ?_
  refine st_ipush (pc' := 7) (v := 4) rfl rfl (by decide) ?_
  exact st_icmp_le (pc' := 10) rfl rfl kt kf
theorem B_Bo_sizeOf_10 {d : Nat} {h : PH} {Q : PQ} {r0 : Nat} {x1 : Int32}  (k : wpx d P_Bo_sizeOf 29 [.ref r0, .int x1] [.int 0] h Q) : wpx d P_Bo_sizeOf 10 [.ref r0, .int x1] [] h Q := by
  refine st_ipush (pc' := 11) (v := 0) rfl rfl (by decide) ?_
  exact st_goto rfl k
theorem B_Bo_sizeOf_14 {d : Nat} {h : PH} {Q : PQ} {r0 : Nat} {x1 : Int32} {a0 : Nat} {n1 : Nat} (hs0 : h_sh h r0 = some (0, 0)) (hr1 : h_r h r0 4 = some a0) (hs2 : h_sh h a0 = some (1, n1)) (hb3 : vp_in (x1 + (1 : Int32)) n1) (hb4 : vp_in x1 n1) (k : wpx d P_Bo_sizeOf 29 [.ref r0, .int x1] [.int ((h_i h a0 (x1 + (1 : Int32)).toNatClampNeg) - (h_i h a0 x1.toNatClampNeg))] h Q) : wpx d P_Bo_sizeOf 14 [.ref r0, .int x1] [] h Q := by
  refine st_aload (pc' := 15) rfl rfl rfl ?_
  refine st_getfr (x := some a0) (Or.inl rfl) rfl hs0 rfl hr1 (pc' := 18) rfl ?_
  refine st_iload (pc' := 19) rfl rfl rfl ?_
  refine st_ipush (pc' := 20) (v := 1) rfl rfl (by decide) ?_
  refine st_iadd (pc' := 21) rfl rfl ?_
  refine st_iaload rfl hs2 hb3 (j := (x1 + (1 : Int32)).toNatClampNeg) rfl (pc' := 22) rfl ?_
  refine st_aload (pc' := 23) rfl rfl rfl ?_
  refine st_getfr (x := some a0) (Or.inl rfl) rfl hs0 rfl hr1 (pc' := 26) rfl ?_
  refine st_iload (pc' := 27) rfl rfl rfl ?_
  refine st_iaload rfl hs2 hb4 (j := x1.toNatClampNeg) rfl (pc' := 28) rfl ?_
  refine st_isub (pc' := 29) rfl rfl ?_
  exact k
theorem B_Bo_sizeOf_29 {d : Nat} {h : PH} {Q : PQ} {r0 : Nat} {x1 : Int32} {s0 : Int32}  (k : Q (some (.int s0)) h) : wpx d P_Bo_sizeOf 29 [.ref r0, .int x1] [.int s0] h Q := by
  exact st_ireturn (ty := .int) rfl rfl rfl k
theorem B_Bo_indexOf_0 {d : Nat} {h : PH} {Q : PQ} {r0 : Nat} {x1 : Int32} {x2 : Int32}  (kt : x2 < 0 → wpx d P_Bo_indexOf 13 [.ref r0, .int x1, .int x2] [] h Q) (kf : ¬ (x2 < 0) → wpx d P_Bo_indexOf 4 [.ref r0, .int x1, .int x2] [] h Q) : wpx d P_Bo_indexOf 0 [.ref r0, .int x1, .int x2] [] h Q := by
  refine st_iload (pc' := 1) rfl rfl rfl ?_
  exact st_if_lt (pc' := 4) rfl rfl kt kf
theorem B_Bo_indexOf_4 {d : Nat} {h : PH} {Q : PQ} {r0 : Nat} {x1 : Int32} {x2 : Int32} (hs0 : h_sh h r0 = some (0, 0)) (k : wpm d 11 [.ref r0, .int x1] h (fun r h' => wpx d P_Bo_indexOf 10 [.ref r0, .int x1, .int x2] (r.toList ++ [.int x2]) h' Q)) : wpx d P_Bo_indexOf 4 [.ref r0, .int x1, .int x2] [] h Q := by
  refine st_iload (pc' := 5) rfl rfl rfl ?_
  refine st_aload (pc' := 6) rfl rfl rfl ?_
  refine st_iload (pc' := 7) rfl rfl rfl ?_
  exact st_call (pc' := 10) (as := [.ref r0, .int x1]) (rest := [.int x2]) rfl rfl (Nat.le_of_ble_eq_true rfl) rfl rfl (Nat.le_of_ble_eq_true rfl) (kd := 1) (o := 0) rfl rfl (beq_iff_eq.mpr hs0) k
theorem B_Bo_indexOf_10 {d : Nat} {h : PH} {Q : PQ} {r0 : Nat} {x1 : Int32} {x2 : Int32} {s0 : Int32} {s1 : Int32}  (kt : s0 < s1 → wpx d P_Bo_indexOf 17 [.ref r0, .int x1, .int x2] [] h Q) (kf : ¬ (s0 < s1) → wpx d P_Bo_indexOf 13 [.ref r0, .int x1, .int x2] [] h Q) : wpx d P_Bo_indexOf 10 [.ref r0, .int x1, .int x2] [.int s1, .int s0] h Q := by
  exact st_icmp_lt (pc' := 13) rfl rfl kt kf
theorem B_Bo_indexOf_13 {d : Nat} {h : PH} {Q : PQ} {r0 : Nat} {x1 : Int32} {x2 : Int32}  (k : wpx d P_Bo_indexOf 25 [.ref r0, .int x1, .int x2] [.int (-1)] h Q) : wpx d P_Bo_indexOf 13 [.ref r0, .int x1, .int x2] [] h Q := by
  refine st_ipush (pc' := 14) (v := (-1)) rfl rfl (by decide) ?_
  exact st_goto rfl k
theorem B_Bo_indexOf_17 {d : Nat} {h : PH} {Q : PQ} {r0 : Nat} {x1 : Int32} {x2 : Int32} {a0 : Nat} {n1 : Nat} (hs0 : h_sh h r0 = some (0, 0)) (hr1 : h_r h r0 4 = some a0) (hs2 : h_sh h a0 = some (1, n1)) (hb3 : vp_in x1 n1) (k : wpx d P_Bo_indexOf 25 [.ref r0, .int x1, .int x2] [.int ((h_i h a0 x1.toNatClampNeg) + x2)] h Q) : wpx d P_Bo_indexOf 17 [.ref r0, .int x1, .int x2] [] h Q := by
  refine st_aload (pc' := 18) rfl rfl rfl ?_
  refine st_getfr (x := some a0) (Or.inl rfl) rfl hs0 rfl hr1 (pc' := 21) rfl ?_
  refine st_iload (pc' := 22) rfl rfl rfl ?_
  refine st_iaload rfl hs2 hb3 (j := x1.toNatClampNeg) rfl (pc' := 23) rfl ?_
  refine st_iload (pc' := 24) rfl rfl rfl ?_
  refine st_iadd (pc' := 25) rfl rfl ?_
  exact k
theorem B_Bo_indexOf_25 {d : Nat} {h : PH} {Q : PQ} {r0 : Nat} {x1 : Int32} {x2 : Int32} {s0 : Int32}  (k : Q (some (.int s0)) h) : wpx d P_Bo_indexOf 25 [.ref r0, .int x1, .int x2] [.int s0] h Q := by
  exact st_ireturn (ty := .int) rfl rfl rfl k
theorem B_Bo_codeAt_0 {d : Nat} {h : PH} {Q : PQ} {r0 : Nat} {x1 : Int32}  (kt : x1 < 0 → wpx d P_Bo_codeAt 12 [.ref r0, .int x1] [] h Q) (kf : ¬ (x1 < 0) → wpx d P_Bo_codeAt 4 [.ref r0, .int x1] [] h Q) : wpx d P_Bo_codeAt 0 [.ref r0, .int x1] [] h Q := by
  refine st_iload (pc' := 1) rfl rfl rfl ?_
  exact st_if_lt (pc' := 4) rfl rfl kt kf
theorem B_Bo_codeAt_4 {d : Nat} {h : PH} {Q : PQ} {r0 : Nat} {x1 : Int32} (hs0 : h_sh h r0 = some (0, 0)) (kt : x1 < (h_i h r0 3) → wpx d P_Bo_codeAt 16 [.ref r0, .int x1] [] h Q) (kf : ¬ (x1 < (h_i h r0 3)) → wpx d P_Bo_codeAt 12 [.ref r0, .int x1] [] h Q) : wpx d P_Bo_codeAt 4 [.ref r0, .int x1] [] h Q := by
  refine st_iload (pc' := 5) rfl rfl rfl ?_
  refine st_aload (pc' := 6) rfl rfl rfl ?_
  refine st_getfi (Or.inl rfl) rfl hs0 rfl (pc' := 9) rfl ?_
  exact st_icmp_lt (pc' := 12) rfl rfl kt kf
theorem B_Bo_codeAt_12 {d : Nat} {h : PH} {Q : PQ} {r0 : Nat} {x1 : Int32}  (k : wpx d P_Bo_codeAt 26 [.ref r0, .int x1] [.long 0] h Q) : wpx d P_Bo_codeAt 12 [.ref r0, .int x1] [] h Q := by
  refine st_lpush (pc' := 13) (v := 0) rfl rfl (by decide) ?_
  exact st_goto rfl k
theorem B_Bo_codeAt_16 {d : Nat} {h : PH} {Q : PQ} {r0 : Nat} {x1 : Int32} {a0 : Nat} {n1 : Nat} (hs0 : h_sh h r0 = some (0, 0)) (hr1 : h_r h r0 2 = some a0) (hs2 : h_sh h a0 = some (1, n1)) (hb3 : vp_in x1 n1) (k : wpx d P_Bo_codeAt 26 [.ref r0, .int x1] [.long (((h_i h a0 x1.toNatClampNeg) &&& (1048575 : Int32)).toInt64)] h Q) : wpx d P_Bo_codeAt 16 [.ref r0, .int x1] [] h Q := by
  refine st_aload (pc' := 17) rfl rfl rfl ?_
  refine st_getfr (x := some a0) (Or.inl rfl) rfl hs0 rfl hr1 (pc' := 20) rfl ?_
  refine st_iload (pc' := 21) rfl rfl rfl ?_
  refine st_iaload rfl hs2 hb3 (j := x1.toNatClampNeg) rfl (pc' := 22) rfl ?_
  refine st_ldc (pc' := 24) (v := 1048575) rfl rfl (by decide) ?_
  refine st_iand (pc' := 25) rfl rfl ?_
  refine st_i2l (pc' := 26) rfl rfl ?_
  exact k
theorem B_Bo_codeAt_26 {d : Nat} {h : PH} {Q : PQ} {r0 : Nat} {x1 : Int32} {t0 : Int64}  (k : Q (some (.long t0)) h) : wpx d P_Bo_codeAt 26 [.ref r0, .int x1] [.long t0] h Q := by
  exact st_lreturn rfl k
theorem B_Sp_init_0 {d : Nat} {h : PH} {Q : PQ} {r0 : Nat} (hs0 : h_sh (h_new h (1, 4) 4) r0 = some (0, 5)) (hs1 : h_sh (h_new (w_r (h_new h (1, 4) 4) r0 0 (some (h_ct h))) (1, 5) 5) r0 = some (0, 5)) (hs2 : h_sh (h_new (w_r (h_new (w_r (h_new h (1, 4) 4) r0 0 (some (h_ct h))) (1, 5) 5) r0 2 (some (h_ct (w_r (h_new h (1, 4) 4) r0 0 (some (h_ct h)))))) (1, 4) 4) r0 = some (0, 5)) (k : wpx d P_Sp_init 25 [.ref r0] [] (w_r (h_new (w_r (h_new (w_r (h_new h (1, 4) 4) r0 0 (some (h_ct h))) (1, 5) 5) r0 2 (some (h_ct (w_r (h_new h (1, 4) 4) r0 0 (some (h_ct h)))))) (1, 4) 4) r0 3 (some (h_ct (w_r (h_new (w_r (h_new h (1, 4) 4) r0 0 (some (h_ct h))) (1, 5) 5) r0 2 (some (h_ct (w_r (h_new h (1, 4) 4) r0 0 (some (h_ct h))))))))) Q) : wpx d P_Sp_init 0 [.ref r0] [] h Q := by
  refine st_aload (pc' := 1) rfl rfl rfl ?_
  refine st_oinit (pc' := 4) rfl rfl (Nat.le_of_ble_eq_true rfl) ?_
  refine st_aload (pc' := 5) rfl rfl rfl ?_
  refine st_ipush (pc' := 6) (v := 4) rfl rfl (by decide) ?_
  refine st_newI rfl (by decide) (j := 4) (by decide) (pc' := 8) rfl ?_
  refine st_putf (h' := w_r (h_new h (1, 4) 4) r0 0 (some (h_ct h))) (Or.inr (Or.inr rfl)) rfl hs0 rfl rfl rfl (pc' := 11) rfl ?_
  refine st_aload (pc' := 12) rfl rfl rfl ?_
  refine st_ipush (pc' := 13) (v := 5) rfl rfl (by decide) ?_
  refine st_newI rfl (by decide) (j := 5) (by decide) (pc' := 15) rfl ?_
  refine st_putf (h' := w_r (h_new (w_r (h_new h (1, 4) 4) r0 0 (some (h_ct h))) (1, 5) 5) r0 2 (some (h_ct (w_r (h_new h (1, 4) 4) r0 0 (some (h_ct h)))))) (Or.inr (Or.inr rfl)) rfl hs1 rfl rfl rfl (pc' := 18) rfl ?_
  refine st_aload (pc' := 19) rfl rfl rfl ?_
  refine st_ipush (pc' := 20) (v := 4) rfl rfl (by decide) ?_
  refine st_newI rfl (by decide) (j := 4) (by decide) (pc' := 22) rfl ?_
  refine st_putf (h' := w_r (h_new (w_r (h_new (w_r (h_new h (1, 4) 4) r0 0 (some (h_ct h))) (1, 5) 5) r0 2 (some (h_ct (w_r (h_new h (1, 4) 4) r0 0 (some (h_ct h)))))) (1, 4) 4) r0 3 (some (h_ct (w_r (h_new (w_r (h_new h (1, 4) 4) r0 0 (some (h_ct h))) (1, 5) 5) r0 2 (some (h_ct (w_r (h_new h (1, 4) 4) r0 0 (some (h_ct h))))))))) (Or.inr (Or.inr rfl)) rfl hs2 rfl rfl rfl (pc' := 25) rfl ?_
  exact k
theorem B_Sp_init_25 {d : Nat} {h : PH} {Q : PQ} {r0 : Nat} (hs0 : h_sh (h_new h (1, 4) 4) r0 = some (0, 5)) (hs1 : h_sh (h_new (w_r (h_new h (1, 4) 4) r0 4 (some (h_ct h))) (1, 29) 29) r0 = some (0, 5)) (k : Q none (w_r (h_new (w_r (h_new h (1, 4) 4) r0 4 (some (h_ct h))) (1, 29) 29) r0 6 (some (h_ct (w_r (h_new h (1, 4) 4) r0 4 (some (h_ct h))))))) : wpx d P_Sp_init 25 [.ref r0] [] h Q := by
  refine st_aload (pc' := 26) rfl rfl rfl ?_
  refine st_ipush (pc' := 27) (v := 4) rfl rfl (by decide) ?_
  refine st_newI rfl (by decide) (j := 4) (by decide) (pc' := 29) rfl ?_
  refine st_putf (h' := w_r (h_new h (1, 4) 4) r0 4 (some (h_ct h))) (Or.inr (Or.inr rfl)) rfl hs0 rfl rfl rfl (pc' := 32) rfl ?_
  refine st_aload (pc' := 33) rfl rfl rfl ?_
  refine st_ipush (pc' := 35) (v := 29) rfl rfl (by decide) ?_
  refine st_newI rfl (by decide) (j := 29) (by decide) (pc' := 37) rfl ?_
  refine st_putf (h' := w_r (h_new (w_r (h_new h (1, 4) 4) r0 4 (some (h_ct h))) (1, 29) 29) r0 6 (some (h_ct (w_r (h_new h (1, 4) 4) r0 4 (some (h_ct h)))))) (Or.inr (Or.inr rfl)) rfl hs1 rfl rfl rfl (pc' := 40) rfl ?_
  exact st_return rfl k
theorem B_Sp_ask_0 {d : Nat} {h : PH} {Q : PQ} {r0 : Nat} {r1 : Nat} {x2 : Int32} {x3 : Int32} {x4 : Int32} {x5 : Int32} {v6 : Value} {a0 : Nat} {n1 : Nat} (hs0 : h_sh h r0 = some (0, 5)) (hr1 : h_r h r0 0 = some a0) (hs2 : h_sh h a0 = some (1, n1)) (hb3 : vp_in 0 n1) (hb4 : vp_in 1 n1) (hb5 : vp_in 2 n1) (hb6 : vp_in 3 n1) (k : wpx d P_Sp_ask 38 [.ref r0, .ref r1, .int x2, .int x3, .int x4, .int x5, .int 0] [] (w_i (w_i (w_i (w_i (w_i h a0 0 x2) a0 1 x3) a0 2 x4) a0 3 x5) r0 1 0) Q) : wpx d P_Sp_ask 0 [.ref r0, .ref r1, .int x2, .int x3, .int x4, .int x5, v6] [] h Q := by
  refine st_aload (pc' := 1) rfl rfl rfl ?_
  refine st_getfr (x := some a0) (Or.inl rfl) rfl hs0 rfl hr1 (pc' := 4) rfl ?_
  refine st_ipush (pc' := 5) (v := 0) rfl rfl (by decide) ?_
  refine st_iload (pc' := 6) rfl rfl rfl ?_
  refine st_iastore rfl hs2 hb3 (j := 0) (by decide) (pc' := 7) rfl ?_
  refine st_aload (pc' := 8) rfl rfl rfl ?_
  refine st_getfr (x := some a0) (Or.inl rfl) rfl hs0 rfl hr1 (pc' := 11) rfl ?_
  refine st_ipush (pc' := 12) (v := 1) rfl rfl (by decide) ?_
  refine st_iload (pc' := 13) rfl rfl rfl ?_
  refine st_iastore rfl hs2 hb4 (j := 1) (by decide) (pc' := 14) rfl ?_
  refine st_aload (pc' := 15) rfl rfl rfl ?_
  refine st_getfr (x := some a0) (Or.inl rfl) rfl hs0 rfl hr1 (pc' := 18) rfl ?_
  refine st_ipush (pc' := 19) (v := 2) rfl rfl (by decide) ?_
  refine st_iload (pc' := 21) rfl rfl rfl ?_
  refine st_iastore rfl hs2 hb5 (j := 2) (by decide) (pc' := 22) rfl ?_
  refine st_aload (pc' := 23) rfl rfl rfl ?_
  refine st_getfr (x := some a0) (Or.inl rfl) rfl hs0 rfl hr1 (pc' := 26) rfl ?_
  refine st_ipush (pc' := 27) (v := 3) rfl rfl (by decide) ?_
  refine st_iload (pc' := 29) rfl rfl rfl ?_
  refine st_iastore rfl hs2 hb6 (j := 3) (by decide) (pc' := 30) rfl ?_
  refine st_aload (pc' := 31) rfl rfl rfl ?_
  refine st_ipush (pc' := 32) (v := 0) rfl rfl (by decide) ?_
  refine st_putf (h' := w_i (w_i (w_i (w_i (w_i h a0 0 x2) a0 1 x3) a0 2 x4) a0 3 x5) r0 1 0) (Or.inl rfl) rfl hs0 rfl rfl rfl (pc' := 35) rfl ?_
  refine st_ipush (pc' := 36) (v := 0) rfl rfl (by decide) ?_
  refine st_istore (pc' := 38) (ls' := [.ref r0, .ref r1, .int x2, .int x3, .int x4, .int x5, .int 0]) rfl rfl (Nat.le_of_ble_eq_true rfl) rfl ?_
  exact k
theorem B_Sp_ask_38 {d : Nat} {h : PH} {Q : PQ} {r0 : Nat} {r1 : Nat} {x2 : Int32} {x3 : Int32} {x4 : Int32} {x5 : Int32} {x6 : Int32}  (kt : (4 : Int32) ≤ x6 → wpx d P_Sp_ask 106 [.ref r0, .ref r1, .int x2, .int x3, .int x4, .int x5, .int x6] [] h Q) (kf : ¬ ((4 : Int32) ≤ x6) → wpx d P_Sp_ask 44 [.ref r0, .ref r1, .int x2, .int x3, .int x4, .int x5, .int x6] [] h Q) : wpx d P_Sp_ask 38 [.ref r0, .ref r1, .int x2, .int x3, .int x4, .int x5, .int x6] [] h Q := by
  refine st_iload (pc' := 40) rfl rfl rfl ?_
  refine st_ipush (pc' := 41) (v := 4) rfl rfl (by decide) ?_
  exact st_icmp_ge (pc' := 44) rfl rfl kt kf
theorem B_Sp_ask_44 {d : Nat} {h : PH} {Q : PQ} {r0 : Nat} {r1 : Nat} {x2 : Int32} {x3 : Int32} {x4 : Int32} {x5 : Int32} {x6 : Int32} {a0 : Nat} {n1 : Nat} (hs0 : h_sh h r0 = some (0, 5)) (hr1 : h_r h r0 0 = some a0) (hs2 : h_sh h a0 = some (1, n1)) (hb3 : vp_in x6 n1) (kt : (h_i h a0 x6.toNatClampNeg) = ((-1) : Int32) → wpx d P_Sp_ask 100 [.ref r0, .ref r1, .int x2, .int x3, .int x4, .int x5, .int x6] [] h Q) (kf : ¬ ((h_i h a0 x6.toNatClampNeg) = ((-1) : Int32)) → wpx d P_Sp_ask 55 [.ref r0, .ref r1, .int x2, .int x3, .int x4, .int x5, .int x6] [] h Q) : wpx d P_Sp_ask 44 [.ref r0, .ref r1, .int x2, .int x3, .int x4, .int x5, .int x6] [] h Q := by
  refine st_aload (pc' := 45) rfl rfl rfl ?_
  refine st_getfr (x := some a0) (Or.inl rfl) rfl hs0 rfl hr1 (pc' := 48) rfl ?_
  refine st_iload (pc' := 50) rfl rfl rfl ?_
  refine st_iaload rfl hs2 hb3 (j := x6.toNatClampNeg) rfl (pc' := 51) rfl ?_
  refine st_ipush (pc' := 52) (v := (-1)) rfl rfl (by decide) ?_
  exact st_icmp_eq (pc' := 55) rfl rfl kt kf
theorem B_Sp_ask_55 {d : Nat} {h : PH} {Q : PQ} {r0 : Nat} {r1 : Nat} {x2 : Int32} {x3 : Int32} {x4 : Int32} {x5 : Int32} {x6 : Int32} (hs0 : h_sh h r0 = some (0, 5)) (kt : (h_i h r0 1) < x6 → wpx d P_Sp_ask 88 [.ref r0, .ref r1, .int x2, .int x3, .int x4, .int x5, .int x6] [] h Q) (kf : ¬ ((h_i h r0 1) < x6) → wpx d P_Sp_ask 64 [.ref r0, .ref r1, .int x2, .int x3, .int x4, .int x5, .int x6] [] h Q) : wpx d P_Sp_ask 55 [.ref r0, .ref r1, .int x2, .int x3, .int x4, .int x5, .int x6] [] h Q := by
  refine st_iload (pc' := 57) rfl rfl rfl ?_
  refine st_aload (pc' := 58) rfl rfl rfl ?_
  refine st_getfi (Or.inl rfl) rfl hs0 rfl (pc' := 61) rfl ?_
  exact st_icmp_gt (pc' := 64) rfl rfl kt kf
theorem B_Sp_ask_64 {d : Nat} {h : PH} {Q : PQ} {r0 : Nat} {r1 : Nat} {x2 : Int32} {x3 : Int32} {x4 : Int32} {x5 : Int32} {x6 : Int32} {a0 : Nat} {n1 : Nat} (hs0 : h_sh h r0 = some (0, 5)) (hr1 : h_r h r0 0 = some a0) (hs2 : h_sh h a0 = some (1, n1)) (hb3 : vp_in x6 n1) (kt : (h_i h a0 x6.toNatClampNeg) < 0 → wpx d P_Sp_ask 88 [.ref r0, .ref r1, .int x2, .int x3, .int x4, .int x5, .int x6] [] h Q) (kf : ¬ ((h_i h a0 x6.toNatClampNeg) < 0) → wpx d P_Sp_ask 74 [.ref r0, .ref r1, .int x2, .int x3, .int x4, .int x5, .int x6] [] h Q) : wpx d P_Sp_ask 64 [.ref r0, .ref r1, .int x2, .int x3, .int x4, .int x5, .int x6] [] h Q := by
  refine st_aload (pc' := 65) rfl rfl rfl ?_
  refine st_getfr (x := some a0) (Or.inl rfl) rfl hs0 rfl hr1 (pc' := 68) rfl ?_
  refine st_iload (pc' := 70) rfl rfl rfl ?_
  refine st_iaload rfl hs2 hb3 (j := x6.toNatClampNeg) rfl (pc' := 71) rfl ?_
  exact st_if_lt (pc' := 74) rfl rfl kt kf
theorem B_Sp_ask_74 {d : Nat} {h : PH} {Q : PQ} {r0 : Nat} {r1 : Nat} {x2 : Int32} {x3 : Int32} {x4 : Int32} {x5 : Int32} {x6 : Int32} {a0 : Nat} {n1 : Nat} (hs0 : h_sh h r0 = some (0, 5)) (hr1 : h_r h r0 0 = some a0) (hs2 : h_sh h a0 = some (1, n1)) (hb3 : vp_in x6 n1) (hs4 : h_sh h r1 = some (0, 3)) (kt : (h_i h a0 x6.toNatClampNeg) < (h_i h r1 4) → wpx d P_Sp_ask 90 [.ref r0, .ref r1, .int x2, .int x3, .int x4, .int x5, .int x6] [] h Q) (kf : ¬ ((h_i h a0 x6.toNatClampNeg) < (h_i h r1 4)) → wpx d P_Sp_ask 88 [.ref r0, .ref r1, .int x2, .int x3, .int x4, .int x5, .int x6] [] h Q) : wpx d P_Sp_ask 74 [.ref r0, .ref r1, .int x2, .int x3, .int x4, .int x5, .int x6] [] h Q := by
  refine st_aload (pc' := 75) rfl rfl rfl ?_
  refine st_getfr (x := some a0) (Or.inl rfl) rfl hs0 rfl hr1 (pc' := 78) rfl ?_
  refine st_iload (pc' := 80) rfl rfl rfl ?_
  refine st_iaload rfl hs2 hb3 (j := x6.toNatClampNeg) rfl (pc' := 81) rfl ?_
  refine st_aload (pc' := 82) rfl rfl rfl ?_
  refine st_getfi (Or.inr rfl) rfl hs4 rfl (pc' := 85) rfl ?_
  exact st_icmp_lt (pc' := 88) rfl rfl kt kf
theorem B_Sp_ask_88 {d : Nat} {h : PH} {Q : PQ} {r0 : Nat} {r1 : Nat} {x2 : Int32} {x3 : Int32} {x4 : Int32} {x5 : Int32} {x6 : Int32}  (k : Q (some (.int 0)) h) : wpx d P_Sp_ask 88 [.ref r0, .ref r1, .int x2, .int x3, .int x4, .int x5, .int x6] [] h Q := by
  refine st_ipush (pc' := 89) (v := 0) rfl rfl (by decide) ?_
  exact st_ireturn (ty := .boolean) rfl rfl (by decide) k
theorem B_Sp_ask_90 {d : Nat} {h : PH} {Q : PQ} {r0 : Nat} {r1 : Nat} {x2 : Int32} {x3 : Int32} {x4 : Int32} {x5 : Int32} {x6 : Int32} (hs0 : h_sh h r0 = some (0, 5)) (k : wpx d P_Sp_ask 100 [.ref r0, .ref r1, .int x2, .int x3, .int x4, .int x5, .int x6] [] (w_i h r0 1 ((h_i h r0 1) + (1 : Int32))) Q) : wpx d P_Sp_ask 90 [.ref r0, .ref r1, .int x2, .int x3, .int x4, .int x5, .int x6] [] h Q := by
  refine st_aload (pc' := 91) rfl rfl rfl ?_
  refine st_dup (pc' := 92) rfl rfl rfl ?_
  refine st_getfi (Or.inl rfl) rfl hs0 rfl (pc' := 95) rfl ?_
  refine st_ipush (pc' := 96) (v := 1) rfl rfl (by decide) ?_
  refine st_iadd (pc' := 97) rfl rfl ?_
  refine st_putf (h' := w_i h r0 1 ((h_i h r0 1) + (1 : Int32))) (Or.inl rfl) rfl hs0 rfl rfl rfl (pc' := 100) rfl ?_
  exact k
theorem B_Sp_ask_100 {d : Nat} {h : PH} {Q : PQ} {r0 : Nat} {r1 : Nat} {x2 : Int32} {x3 : Int32} {x4 : Int32} {x5 : Int32} {x6 : Int32}  (k : wpx d P_Sp_ask 38 [.ref r0, .ref r1, .int x2, .int x3, .int x4, .int x5, .int (x6 + 1)] [] h Q) : wpx d P_Sp_ask 100 [.ref r0, .ref r1, .int x2, .int x3, .int x4, .int x5, .int x6] [] h Q := by
  refine st_iinc (pc' := 103) (v := 1) (ls' := [.ref r0, .ref r1, .int x2, .int x3, .int x4, .int x5, .int (x6 + 1)]) rfl rfl rfl (by decide) rfl ?_
  exact st_goto rfl k
theorem B_Sp_ask_106 {d : Nat} {h : PH} {Q : PQ} {r0 : Nat} {r1 : Nat} {x2 : Int32} {x3 : Int32} {x4 : Int32} {x5 : Int32} {x6 : Int32} (hs0 : h_sh h r0 = some (0, 5)) (kt : (h_i h r0 1) ≤ 0 → wpx d P_Sp_ask 117 [.ref r0, .ref r1, .int x2, .int x3, .int x4, .int x5, .int x6] [] h Q) (kf : ¬ ((h_i h r0 1) ≤ 0) → wpx d P_Sp_ask 113 [.ref r0, .ref r1, .int x2, .int x3, .int x4, .int x5, .int x6] [] h Q) : wpx d P_Sp_ask 106 [.ref r0, .ref r1, .int x2, .int x3, .int x4, .int x5, .int x6] [] h Q := by
  refine st_aload (pc' := 107) rfl rfl rfl ?_
  refine st_getfi (Or.inl rfl) rfl hs0 rfl (pc' := 110) rfl ?_
  exact st_if_le (pc' := 113) rfl rfl kt kf
theorem B_Sp_ask_113 {d : Nat} {h : PH} {Q : PQ} {r0 : Nat} {r1 : Nat} {x2 : Int32} {x3 : Int32} {x4 : Int32} {x5 : Int32} {x6 : Int32}  (k : wpx d P_Sp_ask 118 [.ref r0, .ref r1, .int x2, .int x3, .int x4, .int x5, .int x6] [.int 1] h Q) : wpx d P_Sp_ask 113 [.ref r0, .ref r1, .int x2, .int x3, .int x4, .int x5, .int x6] [] h Q := by
  refine st_ipush (pc' := 114) (v := 1) rfl rfl (by decide) ?_
  exact st_goto rfl k
theorem B_Sp_ask_117 {d : Nat} {h : PH} {Q : PQ} {r0 : Nat} {r1 : Nat} {x2 : Int32} {x3 : Int32} {x4 : Int32} {x5 : Int32} {x6 : Int32}  (k : wpx d P_Sp_ask 118 [.ref r0, .ref r1, .int x2, .int x3, .int x4, .int x5, .int x6] [.int 0] h Q) : wpx d P_Sp_ask 117 [.ref r0, .ref r1, .int x2, .int x3, .int x4, .int x5, .int x6] [] h Q := by
  refine st_ipush (pc' := 118) (v := 0) rfl rfl (by decide) ?_
  exact k
theorem B_Sp_ask_118 {d : Nat} {h : PH} {Q : PQ} {r0 : Nat} {r1 : Nat} {x2 : Int32} {x3 : Int32} {x4 : Int32} {x5 : Int32} {x6 : Int32} {s0 : Int32} (hz0 : narrow .boolean (.int s0) = .int s0) (k : Q (some (.int s0)) h) : wpx d P_Sp_ask 118 [.ref r0, .ref r1, .int x2, .int x3, .int x4, .int x5, .int x6] [.int s0] h Q := by
  exact st_ireturn (ty := .boolean) rfl rfl hz0 k
theorem B_Sp_search_0 {d : Nat} {h : PH} {Q : PQ} {r0 : Nat} {r1 : Nat} {v2 : Value} {v3 : Value} {a0 : Nat} {n1 : Nat} (hs0 : h_sh h r0 = some (0, 5)) (hr1 : h_r h r0 2 = some a0) (hs2 : h_sh h a0 = some (1, n1)) (hb3 : vp_in (h_i h r0 1) n1) (k : wpx d P_Sp_search 17 [.ref r0, .ref r1, .int ((h_i (w_i h a0 ((h_i h r0 1).toNatClampNeg) 0) r0 1) - (1 : Int32)), v3] [] (w_i h a0 ((h_i h r0 1).toNatClampNeg) 0) Q) : wpx d P_Sp_search 0 [.ref r0, .ref r1, v2, v3] [] h Q := by
  refine st_aload (pc' := 1) rfl rfl rfl ?_
  refine st_getfr (x := some a0) (Or.inl rfl) rfl hs0 rfl hr1 (pc' := 4) rfl ?_
  refine st_aload (pc' := 5) rfl rfl rfl ?_
  refine st_getfi (Or.inl rfl) rfl hs0 rfl (pc' := 8) rfl ?_
  refine st_ipush (pc' := 9) (v := 0) rfl rfl (by decide) ?_
  refine st_iastore rfl hs2 hb3 (j := (h_i h r0 1).toNatClampNeg) rfl (pc' := 10) rfl ?_
  refine st_aload (pc' := 11) rfl rfl rfl ?_
  refine st_getfi (Or.inl rfl) rfl hs0 rfl (pc' := 14) rfl ?_
  refine st_ipush (pc' := 15) (v := 1) rfl rfl (by decide) ?_
  refine st_isub (pc' := 16) rfl rfl ?_
  refine st_istore (pc' := 17) (ls' := [.ref r0, .ref r1, .int ((h_i (w_i h a0 ((h_i h r0 1).toNatClampNeg) 0) r0 1) - (1 : Int32)), v3]) rfl rfl (Nat.le_of_ble_eq_true rfl) rfl ?_
  exact k
theorem B_Sp_search_17 {d : Nat} {h : PH} {Q : PQ} {r0 : Nat} {r1 : Nat} {x2 : Int32} {v3 : Value}  (kt : x2 < 0 → wpx d P_Sp_search 61 [.ref r0, .ref r1, .int x2, v3] [] h Q) (kf : ¬ (x2 < 0) → wpx d P_Sp_search 21 [.ref r0, .ref r1, .int x2, v3] [] h Q) : wpx d P_Sp_search 17 [.ref r0, .ref r1, .int x2, v3] [] h Q := by
  refine st_iload (pc' := 18) rfl rfl rfl ?_
  exact st_if_lt (pc' := 21) rfl rfl kt kf
theorem B_Sp_search_21 {d : Nat} {h : PH} {Q : PQ} {r0 : Nat} {r1 : Nat} {x2 : Int32} {v3 : Value} {a0 : Nat} {n1 : Nat} (hs0 : h_sh h r0 = some (0, 5)) (hr1 : h_r h r0 0 = some a0) (hs2 : h_sh h a0 = some (1, n1)) (hb3 : vp_in x2 n1) (k : wpm d 64 [.ref r1, .int (h_i h a0 x2.toNatClampNeg)] h (fun r h' => wpx d P_Sp_search 31 [.ref r0, .ref r1, .int x2, v3] (r.toList ++ []) h' Q)) : wpx d P_Sp_search 21 [.ref r0, .ref r1, .int x2, v3] [] h Q := by
  refine st_aload (pc' := 22) rfl rfl rfl ?_
  refine st_aload (pc' := 23) rfl rfl rfl ?_
  refine st_getfr (x := some a0) (Or.inl rfl) rfl hs0 rfl hr1 (pc' := 26) rfl ?_
  refine st_iload (pc' := 27) rfl rfl rfl ?_
  refine st_iaload rfl hs2 hb3 (j := x2.toNatClampNeg) rfl (pc' := 28) rfl ?_
  exact st_call (pc' := 31) (as := [.ref r1, .int (h_i h a0 x2.toNatClampNeg)]) (rest := []) rfl rfl (Nat.le_of_ble_eq_true rfl) rfl rfl (Nat.le_of_ble_eq_true rfl) (kd := 0) (o := 5) rfl rfl rfl k
theorem B_Sp_search_31 {d : Nat} {h : PH} {Q : PQ} {r0 : Nat} {r1 : Nat} {x2 : Int32} {v3 : Value} {s0 : Int32}  (kt : ¬ (s0 = ((-1) : Int32)) → wpx d P_Sp_search 39 [.ref r0, .ref r1, .int x2, .int s0] [] h Q) (kf : s0 = ((-1) : Int32) → wpx d P_Sp_search 37 [.ref r0, .ref r1, .int x2, .int s0] [] h Q) : wpx d P_Sp_search 31 [.ref r0, .ref r1, .int x2, v3] [.int s0] h Q := by
  refine st_istore (pc' := 32) (ls' := [.ref r0, .ref r1, .int x2, .int s0]) rfl rfl (Nat.le_of_ble_eq_true rfl) rfl ?_
  refine st_iload (pc' := 33) rfl rfl rfl ?_
  refine st_ipush (pc' := 34) (v := (-1)) rfl rfl (by decide) ?_
  exact st_icmp_ne (pc' := 37) rfl rfl kt kf
theorem B_Sp_search_37 {d : Nat} {h : PH} {Q : PQ} {r0 : Nat} {r1 : Nat} {x2 : Int32} {x3 : Int32}  (k : Q (some (.int 0)) h) : wpx d P_Sp_search 37 [.ref r0, .ref r1, .int x2, .int x3] [] h Q := by
  refine st_ipush (pc' := 38) (v := 0) rfl rfl (by decide) ?_
  exact st_ireturn (ty := .boolean) rfl rfl (by decide) k
theorem B_Sp_search_39 {d : Nat} {h : PH} {Q : PQ} {r0 : Nat} {r1 : Nat} {x2 : Int32} {x3 : Int32} {a0 : Nat} {n1 : Nat} (hs0 : h_sh h r0 = some (0, 5)) (hr1 : h_r h r0 2 = some a0) (hs2 : h_sh h a0 = some (1, n1)) (hb3 : vp_in (x2 + (1 : Int32)) n1) (hb4 : vp_in x2 n1) (k : wpx d P_Sp_search 17 [.ref r0, .ref r1, .int (x2 + (-1)), .int x3] [] (w_i h a0 x2.toNatClampNeg ((h_i h a0 (x2 + (1 : Int32)).toNatClampNeg) + x3)) Q) : wpx d P_Sp_search 39 [.ref r0, .ref r1, .int x2, .int x3] [] h Q := by
  refine st_aload (pc' := 40) rfl rfl rfl ?_
  refine st_getfr (x := some a0) (Or.inl rfl) rfl hs0 rfl hr1 (pc' := 43) rfl ?_
  refine st_iload (pc' := 44) rfl rfl rfl ?_
  refine st_aload (pc' := 45) rfl rfl rfl ?_
  refine st_getfr (x := some a0) (Or.inl rfl) rfl hs0 rfl hr1 (pc' := 48) rfl ?_
  refine st_iload (pc' := 49) rfl rfl rfl ?_
  refine st_ipush (pc' := 50) (v := 1) rfl rfl (by decide) ?_
  refine st_iadd (pc' := 51) rfl rfl ?_
  refine st_iaload rfl hs2 hb3 (j := (x2 + (1 : Int32)).toNatClampNeg) rfl (pc' := 52) rfl ?_
  refine st_iload (pc' := 53) rfl rfl rfl ?_
  refine st_iadd (pc' := 54) rfl rfl ?_
  refine st_iastore rfl hs2 hb4 (j := x2.toNatClampNeg) rfl (pc' := 55) rfl ?_
  refine st_iinc (pc' := 58) (v := (-1)) (ls' := [.ref r0, .ref r1, .int (x2 + (-1)), .int x3]) rfl rfl rfl (by decide) rfl ?_
  exact st_goto rfl k
theorem B_Sp_search_61 {d : Nat} {h : PH} {Q : PQ} {r0 : Nat} {r1 : Nat} {x2 : Int32} {v3 : Value} {a0 : Nat} {n1 : Nat} (hs0 : h_sh h r0 = some (0, 5)) (hr1 : h_r h r0 6 = some a0) (hs2 : h_sh h a0 = some (1, n1)) (hb3 : vp_in 0 n1) (k : wpm d 65 [.ref r0, .ref r1, .int 0, .int 0, .long 0] (w_i (w_i h r0 5 29) a0 0 1) (fun r h' => wpx d P_Sp_search 82 [.ref r0, .ref r1, .int x2, v3] (r.toList ++ []) h' Q)) : wpx d P_Sp_search 61 [.ref r0, .ref r1, .int x2, v3] [] h Q := by
  refine st_aload (pc' := 62) rfl rfl rfl ?_
  refine st_ipush (pc' := 64) (v := 29) rfl rfl (by decide) ?_
  refine st_putf (h' := w_i h r0 5 29) (Or.inl rfl) rfl hs0 rfl rfl rfl (pc' := 67) rfl ?_
  refine st_aload (pc' := 68) rfl rfl rfl ?_
  refine st_getfr (x := some a0) (Or.inl rfl) rfl hs0 rfl hr1 (pc' := 71) rfl ?_
  refine st_ipush (pc' := 72) (v := 0) rfl rfl (by decide) ?_
  refine st_ipush (pc' := 73) (v := 1) rfl rfl (by decide) ?_
  refine st_iastore rfl hs2 hb3 (j := 0) (by decide) (pc' := 74) rfl ?_
  refine st_aload (pc' := 75) rfl rfl rfl ?_
  refine st_aload (pc' := 76) rfl rfl rfl ?_
  refine st_ipush (pc' := 77) (v := 0) rfl rfl (by decide) ?_
  refine st_ipush (pc' := 78) (v := 0) rfl rfl (by decide) ?_
  refine st_lpush (pc' := 79) (v := 0) rfl rfl (by decide) ?_
  exact st_call (pc' := 82) (as := [.ref r0, .ref r1, .int 0, .int 0, .long 0]) (rest := []) rfl rfl (Nat.le_of_ble_eq_true rfl) rfl rfl (Nat.le_of_ble_eq_true rfl) (kd := 1) (o := 5) rfl rfl (beq_iff_eq.mpr hs0) k
theorem B_Sp_search_82 {d : Nat} {h : PH} {Q : PQ} {r0 : Nat} {r1 : Nat} {x2 : Int32} {v3 : Value} (hs0 : h_sh h r0 = some (0, 5)) (kt : (28 : Int32) < (h_i h r0 5) → wpx d P_Sp_search 95 [.ref r0, .ref r1, .int x2, v3] [] h Q) (kf : ¬ ((28 : Int32) < (h_i h r0 5)) → wpx d P_Sp_search 91 [.ref r0, .ref r1, .int x2, v3] [] h Q) : wpx d P_Sp_search 82 [.ref r0, .ref r1, .int x2, v3] [] h Q := by
  refine st_aload (pc' := 83) rfl rfl rfl ?_
  refine st_getfi (Or.inl rfl) rfl hs0 rfl (pc' := 86) rfl ?_
  refine st_ipush (pc' := 88) (v := 28) rfl rfl (by decide) ?_
  exact st_icmp_gt (pc' := 91) rfl rfl kt kf
theorem B_Sp_search_91 {d : Nat} {h : PH} {Q : PQ} {r0 : Nat} {r1 : Nat} {x2 : Int32} {v3 : Value}  (k : wpx d P_Sp_search 96 [.ref r0, .ref r1, .int x2, v3] [.int 1] h Q) : wpx d P_Sp_search 91 [.ref r0, .ref r1, .int x2, v3] [] h Q := by
  refine st_ipush (pc' := 92) (v := 1) rfl rfl (by decide) ?_
  exact st_goto rfl k
theorem B_Sp_search_95 {d : Nat} {h : PH} {Q : PQ} {r0 : Nat} {r1 : Nat} {x2 : Int32} {v3 : Value}  (k : wpx d P_Sp_search 96 [.ref r0, .ref r1, .int x2, v3] [.int 0] h Q) : wpx d P_Sp_search 95 [.ref r0, .ref r1, .int x2, v3] [] h Q := by
  refine st_ipush (pc' := 96) (v := 0) rfl rfl (by decide) ?_
  exact k
theorem B_Sp_search_96 {d : Nat} {h : PH} {Q : PQ} {r0 : Nat} {r1 : Nat} {x2 : Int32} {v3 : Value} {s0 : Int32} (hz0 : narrow .boolean (.int s0) = .int s0) (k : Q (some (.int s0)) h) : wpx d P_Sp_search 96 [.ref r0, .ref r1, .int x2, v3] [.int s0] h Q := by
  exact st_ireturn (ty := .boolean) rfl rfl hz0 k
theorem B_Sp_shortestOf_0 {d : Nat} {h : PH} {Q : PQ} {r0 : Nat} {x1 : Int32} {v2 : Value} {v3 : Value}  (k : wpx d P_Sp_shortestOf 4 [.ref r0, .int x1, .int (-1), .int 0] [] h Q) : wpx d P_Sp_shortestOf 0 [.ref r0, .int x1, v2, v3] [] h Q := by
  refine st_ipush (pc' := 1) (v := (-1)) rfl rfl (by decide) ?_
  refine st_istore (pc' := 2) (ls' := [.ref r0, .int x1, .int (-1), v3]) rfl rfl (Nat.le_of_ble_eq_true rfl) rfl ?_
  refine st_ipush (pc' := 3) (v := 0) rfl rfl (by decide) ?_
  refine st_istore (pc' := 4) (ls' := [.ref r0, .int x1, .int (-1), .int 0]) rfl rfl (Nat.le_of_ble_eq_true rfl) rfl ?_
  exact k
theorem B_Sp_shortestOf_4 {d : Nat} {h : PH} {Q : PQ} {r0 : Nat} {x1 : Int32} {x2 : Int32} {x3 : Int32} (hs0 : h_sh h r0 = some (0, 3)) (kt : (h_i h r0 3) ≤ x3 → wpx d P_Sp_shortestOf 58 [.ref r0, .int x1, .int x2, .int x3] [] h Q) (kf : ¬ ((h_i h r0 3) ≤ x3) → wpx d P_Sp_shortestOf 12 [.ref r0, .int x1, .int x2, .int x3] [] h Q) : wpx d P_Sp_shortestOf 4 [.ref r0, .int x1, .int x2, .int x3] [] h Q := by
  refine st_iload (pc' := 5) rfl rfl rfl ?_
  refine st_aload (pc' := 6) rfl rfl rfl ?_
  refine st_getfi (Or.inr rfl) rfl hs0 rfl (pc' := 9) rfl ?_
  exact st_icmp_ge (pc' := 12) rfl rfl kt kf
theorem B_Sp_shortestOf_12 {d : Nat} {h : PH} {Q : PQ} {r0 : Nat} {x1 : Int32} {x2 : Int32} {x3 : Int32} (hs0 : h_sh h r0 = some (0, 3)) (k : wpm d 35 [.ref r0, .int x3] h (fun r h' => wpx d P_Sp_shortestOf 17 [.ref r0, .int x1, .int x2, .int x3] (r.toList ++ []) h' Q)) : wpx d P_Sp_shortestOf 12 [.ref r0, .int x1, .int x2, .int x3] [] h Q := by
  refine st_aload (pc' := 13) rfl rfl rfl ?_
  refine st_iload (pc' := 14) rfl rfl rfl ?_
  exact st_call (pc' := 17) (as := [.ref r0, .int x3]) (rest := []) rfl rfl (Nat.le_of_ble_eq_true rfl) rfl rfl (Nat.le_of_ble_eq_true rfl) (kd := 1) (o := 3) rfl rfl (beq_iff_eq.mpr hs0) k
theorem B_Sp_shortestOf_17 {d : Nat} {h : PH} {Q : PQ} {r0 : Nat} {x1 : Int32} {x2 : Int32} {x3 : Int32} {s0 : Int32}  (kt : s0 = 0 → wpx d P_Sp_shortestOf 52 [.ref r0, .int x1, .int x2, .int x3] [] h Q) (kf : ¬ (s0 = 0) → wpx d P_Sp_shortestOf 20 [.ref r0, .int x1, .int x2, .int x3] [] h Q) : wpx d P_Sp_shortestOf 17 [.ref r0, .int x1, .int x2, .int x3] [.int s0] h Q := by
  exact st_if_eq (pc' := 20) rfl rfl kt kf
theorem B_Sp_shortestOf_20 {d : Nat} {h : PH} {Q : PQ} {r0 : Nat} {x1 : Int32} {x2 : Int32} {x3 : Int32} {a0 : Nat} {n1 : Nat} (hs0 : h_sh h r0 = some (0, 3)) (hr1 : h_r h r0 2 = some a0) (hs2 : h_sh h a0 = some (1, n1)) (hb3 : vp_in x3 n1) (kt : ¬ ((h_i h a0 x3.toNatClampNeg) = x1) → wpx d P_Sp_shortestOf 52 [.ref r0, .int x1, .int x2, .int x3] [] h Q) (kf : (h_i h a0 x3.toNatClampNeg) = x1 → wpx d P_Sp_shortestOf 30 [.ref r0, .int x1, .int x2, .int x3] [] h Q) : wpx d P_Sp_shortestOf 20 [.ref r0, .int x1, .int x2, .int x3] [] h Q := by
  refine st_aload (pc' := 21) rfl rfl rfl ?_
  refine st_getfr (x := some a0) (Or.inr rfl) rfl hs0 rfl hr1 (pc' := 24) rfl ?_
  refine st_iload (pc' := 25) rfl rfl rfl ?_
  refine st_iaload rfl hs2 hb3 (j := x3.toNatClampNeg) rfl (pc' := 26) rfl ?_
  refine st_iload (pc' := 27) rfl rfl rfl ?_
  exact st_icmp_ne (pc' := 30) rfl rfl kt kf
theorem B_Sp_shortestOf_30 {d : Nat} {h : PH} {Q : PQ} {r0 : Nat} {x1 : Int32} {x2 : Int32} {x3 : Int32}  (kt : x2 = ((-1) : Int32) → wpx d P_Sp_shortestOf 45 [.ref r0, .int x1, .int x2, .int x3] [] h Q) (kf : ¬ (x2 = ((-1) : Int32)) → wpx d P_Sp_shortestOf 35 [.ref r0, .int x1, .int x2, .int x3] [] h Q) : wpx d P_Sp_shortestOf 30 [.ref r0, .int x1, .int x2, .int x3] [] h Q := by
  refine st_iload (pc' := 31) rfl rfl rfl ?_
  refine st_ipush (pc' := 32) (v := (-1)) rfl rfl (by decide) ?_
  exact st_icmp_eq (pc' := 35) rfl rfl kt kf
theorem B_Sp_shortestOf_35 {d : Nat} {h : PH} {Q : PQ} {r0 : Nat} {x1 : Int32} {x2 : Int32} {x3 : Int32} {a0 : Nat} {n1 : Nat} (hs0 : h_sh h r0 = some (0, 3)) (hr1 : h_r h r0 1 = some a0) (hs2 : h_sh h a0 = some (1, n1)) (hb3 : vp_in x3 n1) (kt : x2 ≤ (h_i h a0 x3.toNatClampNeg) → wpx d P_Sp_shortestOf 52 [.ref r0, .int x1, .int x2, .int x3] [] h Q) (kf : ¬ (x2 ≤ (h_i h a0 x3.toNatClampNeg)) → wpx d P_Sp_shortestOf 45 [.ref r0, .int x1, .int x2, .int x3] [] h Q) : wpx d P_Sp_shortestOf 35 [.ref r0, .int x1, .int x2, .int x3] [] h Q := by
  refine st_aload (pc' := 36) rfl rfl rfl ?_
  refine st_getfr (x := some a0) (Or.inr rfl) rfl hs0 rfl hr1 (pc' := 39) rfl ?_
  refine st_iload (pc' := 40) rfl rfl rfl ?_
  refine st_iaload rfl hs2 hb3 (j := x3.toNatClampNeg) rfl (pc' := 41) rfl ?_
  refine st_iload (pc' := 42) rfl rfl rfl ?_
  exact st_icmp_ge (pc' := 45) rfl rfl kt kf
theorem B_Sp_shortestOf_45 {d : Nat} {h : PH} {Q : PQ} {r0 : Nat} {x1 : Int32} {x2 : Int32} {x3 : Int32} {a0 : Nat} {n1 : Nat} (hs0 : h_sh h r0 = some (0, 3)) (hr1 : h_r h r0 1 = some a0) (hs2 : h_sh h a0 = some (1, n1)) (hb3 : vp_in x3 n1) (k : wpx d P_Sp_shortestOf 52 [.ref r0, .int x1, .int (h_i h a0 x3.toNatClampNeg), .int x3] [] h Q) : wpx d P_Sp_shortestOf 45 [.ref r0, .int x1, .int x2, .int x3] [] h Q := by
  refine st_aload (pc' := 46) rfl rfl rfl ?_
  refine st_getfr (x := some a0) (Or.inr rfl) rfl hs0 rfl hr1 (pc' := 49) rfl ?_
  refine st_iload (pc' := 50) rfl rfl rfl ?_
  refine st_iaload rfl hs2 hb3 (j := x3.toNatClampNeg) rfl (pc' := 51) rfl ?_
  refine st_istore (pc' := 52) (ls' := [.ref r0, .int x1, .int (h_i h a0 x3.toNatClampNeg), .int x3]) rfl rfl (Nat.le_of_ble_eq_true rfl) rfl ?_
  exact k
theorem B_Sp_shortestOf_52 {d : Nat} {h : PH} {Q : PQ} {r0 : Nat} {x1 : Int32} {x2 : Int32} {x3 : Int32}  (k : wpx d P_Sp_shortestOf 4 [.ref r0, .int x1, .int x2, .int (x3 + 1)] [] h Q) : wpx d P_Sp_shortestOf 52 [.ref r0, .int x1, .int x2, .int x3] [] h Q := by
  refine st_iinc (pc' := 55) (v := 1) (ls' := [.ref r0, .int x1, .int x2, .int (x3 + 1)]) rfl rfl rfl (by decide) rfl ?_
  exact st_goto rfl k
theorem B_Sp_shortestOf_58 {d : Nat} {h : PH} {Q : PQ} {r0 : Nat} {x1 : Int32} {x2 : Int32} {x3 : Int32}  (k : Q (some (.int x2)) h) : wpx d P_Sp_shortestOf 58 [.ref r0, .int x1, .int x2, .int x3] [] h Q := by
  refine st_iload (pc' := 59) rfl rfl rfl ?_
  exact st_ireturn (ty := .int) rfl rfl rfl k
theorem B_Sp_goOn_0 {d : Nat} {h : PH} {Q : PQ} {r0 : Nat} {r1 : Nat} {x2 : Int32} {x3 : Int32} {l4 : Int64} {v6 : Value} {v7 : Value} {v8 : Value} {v9 : Value} (hs0 : h_sh h r0 = some (0, 5)) (kt : (h_i h r0 1) ≤ x2 → wpx d P_Sp_goOn 13 [.ref r0, .ref r1, .int x2, .int x3, .long l4, .retAddr 2, v6, v7, v8, v9] [] h Q) (kf : ¬ ((h_i h r0 1) ≤ x2) → wpx d P_Sp_goOn 8 [.ref r0, .ref r1, .int x2, .int x3, .long l4, .retAddr 2, v6, v7, v8, v9] [] h Q) : wpx d P_Sp_goOn 0 [.ref r0, .ref r1, .int x2, .int x3, .long l4, .retAddr 2, v6, v7, v8, v9] [] h Q := by
  refine st_iload (pc' := 1) rfl rfl rfl ?_
  refine st_aload (pc' := 2) rfl rfl rfl ?_
  refine st_getfi (Or.inl rfl) rfl hs0 rfl (pc' := 5) rfl ?_
  exact st_icmp_ge (pc' := 8) rfl rfl kt kf
theorem B_Sp_goOn_8 {d : Nat} {h : PH} {Q : PQ} {r0 : Nat} {r1 : Nat} {x2 : Int32} {x3 : Int32} {l4 : Int64} {v6 : Value} {v7 : Value} {v8 : Value} {v9 : Value}  (kt : x2 < (4 : Int32) → wpx d P_Sp_goOn 36 [.ref r0, .ref r1, .int x2, .int x3, .long l4, .retAddr 2, v6, v7, v8, v9] [] h Q) (kf : ¬ (x2 < (4 : Int32)) → wpx d P_Sp_goOn 13 [.ref r0, .ref r1, .int x2, .int x3, .long l4, .retAddr 2, v6, v7, v8, v9] [] h Q) : wpx d P_Sp_goOn 8 [.ref r0, .ref r1, .int x2, .int x3, .long l4, .retAddr 2, v6, v7, v8, v9] [] h Q := by
  refine st_iload (pc' := 9) rfl rfl rfl ?_
  refine st_ipush (pc' := 10) (v := 4) rfl rfl (by decide) ?_
  exact st_icmp_lt (pc' := 13) rfl rfl kt kf
theorem B_Sp_goOn_13 {d : Nat} {h : PH} {Q : PQ} {r0 : Nat} {r1 : Nat} {x2 : Int32} {x3 : Int32} {l4 : Int64} {v6 : Value} {v7 : Value} {v8 : Value} {v9 : Value} {a0 : Nat} {a1 : Nat} {n2 : Nat} {n3 : Nat} (hs0 : h_sh h r0 = some (0, 5)) (hr1 : h_r h r0 3 = some a0) (hr2 : h_r h r0 4 = some a1) (hs3 : h_sh h a0 = some (1, n2)) (hs4 : h_sh h a1 = some (1, n3)) (hc5 : (¬ (0 : Int32) < 0) ∧ (¬ (0 : Int32) < 0) ∧ (¬ (h_i (w_i h r0 5 x3) r0 1) < 0) ∧ (0 : Int32).toNatClampNeg + (h_i (w_i h r0 5 x3) r0 1).toNatClampNeg ≤ n2 ∧ (0 : Int32).toNatClampNeg + (h_i (w_i h r0 5 x3) r0 1).toNatClampNeg ≤ n3) (k : Q none (w_ri (w_i h r0 5 x3) a1 (va_cpy (h_i (w_i h r0 5 x3) a0) (h_i (w_i h r0 5 x3) a1) 0 0 ((h_i (w_i h r0 5 x3) r0 1).toNatClampNeg)))) : wpx d P_Sp_goOn 13 [.ref r0, .ref r1, .int x2, .int x3, .long l4, .retAddr 2, v6, v7, v8, v9] [] h Q := by
  refine st_aload (pc' := 14) rfl rfl rfl ?_
  refine st_iload (pc' := 15) rfl rfl rfl ?_
  refine st_putf (h' := w_i h r0 5 x3) (Or.inl rfl) rfl hs0 rfl rfl rfl (pc' := 18) rfl ?_
  refine st_aload (pc' := 19) rfl rfl rfl ?_
  refine st_getfr (x := some a0) (Or.inl rfl) rfl hs0 rfl hr1 (pc' := 22) rfl ?_
  refine st_ipush (pc' := 23) (v := 0) rfl rfl (by decide) ?_
  refine st_aload (pc' := 24) rfl rfl rfl ?_
  refine st_getfr (x := some a1) (Or.inl rfl) rfl hs0 rfl hr2 (pc' := 27) rfl ?_
  refine st_ipush (pc' := 28) (v := 0) rfl rfl (by decide) ?_
  refine st_aload (pc' := 29) rfl rfl rfl ?_
  refine st_getfi (Or.inl rfl) rfl hs0 rfl (pc' := 32) rfl ?_
  refine st_copyI (pc' := 35) rfl rfl (Nat.le_of_ble_eq_true rfl) hs3 hs4 hc5 (js := 0) (jd := 0) (jn := (h_i (w_i h r0 5 x3) r0 1).toNatClampNeg) (by decide) (by decide) rfl ?_
  exact st_return rfl k
theorem B_Sp_goOn_36 {d : Nat} {h : PH} {Q : PQ} {r0 : Nat} {r1 : Nat} {x2 : Int32} {x3 : Int32} {l4 : Int64} {v6 : Value} {v7 : Value} {v8 : Value} {v9 : Value}  (k : wpx d P_Sp_goOn 39 [.ref r0, .ref r1, .int x2, .int x3, .long l4, .retAddr 2, .int 0, v7, v8, v9] [] h Q) : wpx d P_Sp_goOn 36 [.ref r0, .ref r1, .int x2, .int x3, .long l4, .retAddr 2, v6, v7, v8, v9] [] h Q := by
  refine st_ipush (pc' := 37) (v := 0) rfl rfl (by decide) ?_
  refine st_istore (pc' := 39) (ls' := [.ref r0, .ref r1, .int x2, .int x3, .long l4, .retAddr 2, .int 0, v7, v8, v9]) rfl rfl (Nat.le_of_ble_eq_true rfl) rfl ?_
  exact k
theorem B_Sp_goOn_39 {d : Nat} {h : PH} {Q : PQ} {r0 : Nat} {r1 : Nat} {x2 : Int32} {x3 : Int32} {l4 : Int64} {x6 : Int32} {v7 : Value} {v8 : Value} {v9 : Value} (hs0 : h_sh h r1 = some (0, 3)) (kt : (h_i h r1 3) ≤ x6 → wpx d P_Sp_goOn 151 [.ref r0, .ref r1, .int x2, .int x3, .long l4, .retAddr 2, .int x6, v7, v8, v9] [] h Q) (kf : ¬ ((h_i h r1 3) ≤ x6) → wpx d P_Sp_goOn 48 [.ref r0, .ref r1, .int x2, .int x3, .long l4, .retAddr 2, .int x6, v7, v8, v9] [] h Q) : wpx d P_Sp_goOn 39 [.ref r0, .ref r1, .int x2, .int x3, .long l4, .retAddr 2, .int x6, v7, v8, v9] [] h Q := by
  refine st_iload (pc' := 41) rfl rfl rfl ?_
  refine st_aload (pc' := 42) rfl rfl rfl ?_
  refine st_getfi (Or.inr rfl) rfl hs0 rfl (pc' := 45) rfl ?_
  exact st_icmp_ge (pc' := 48) rfl rfl kt kf
theorem B_Sp_goOn_48 {d : Nat} {h : PH} {Q : PQ} {r0 : Nat} {r1 : Nat} {x2 : Int32} {x3 : Int32} {l4 : Int64} {x6 : Int32} {v7 : Value} {v8 : Value} {v9 : Value} {a0 : Nat} {n1 : Nat} (hs0 : h_sh h r1 = some (0, 3)) (hr1 : h_r h r1 1 = some a0) (hs2 : h_sh h a0 = some (1, n1)) (hb3 : vp_in x6 n1) (k : wpm d 35 [.ref r1, .int x6] h (fun r h' => wpx d P_Sp_goOn 65 [.ref r0, .ref r1, .int x2, .int x3, .long l4, .retAddr 2, .int x6, .int (x3 + (h_i h a0 x6.toNatClampNeg)), v8, v9] (r.toList ++ []) h' Q)) : wpx d P_Sp_goOn 48 [.ref r0, .ref r1, .int x2, .int x3, .long l4, .retAddr 2, .int x6, v7, v8, v9] [] h Q := by
  refine st_iload (pc' := 49) rfl rfl rfl ?_
  refine st_aload (pc' := 50) rfl rfl rfl ?_
  refine st_getfr (x := some a0) (Or.inr rfl) rfl hs0 rfl hr1 (pc' := 53) rfl ?_
  refine st_iload (pc' := 55) rfl rfl rfl ?_
  refine st_iaload rfl hs2 hb3 (j := x6.toNatClampNeg) rfl (pc' := 56) rfl ?_
  refine st_iadd (pc' := 57) rfl rfl ?_
  refine st_istore (pc' := 59) (ls' := [.ref r0, .ref r1, .int x2, .int x3, .long l4, .retAddr 2, .int x6, .int (x3 + (h_i h a0 x6.toNatClampNeg)), v8, v9]) rfl rfl (Nat.le_of_ble_eq_true rfl) rfl ?_
  refine st_aload (pc' := 60) rfl rfl rfl ?_
  refine st_iload (pc' := 62) rfl rfl rfl ?_
  exact st_call (pc' := 65) (as := [.ref r1, .int x6]) (rest := []) rfl rfl (Nat.le_of_ble_eq_true rfl) rfl rfl (Nat.le_of_ble_eq_true rfl) (kd := 1) (o := 3) rfl rfl (beq_iff_eq.mpr hs0) k
theorem B_Sp_goOn_65 {d : Nat} {h : PH} {Q : PQ} {r0 : Nat} {r1 : Nat} {x2 : Int32} {x3 : Int32} {l4 : Int64} {x6 : Int32} {x7 : Int32} {v8 : Value} {v9 : Value} {s0 : Int32}  (kt : s0 = 0 → wpx d P_Sp_goOn 145 [.ref r0, .ref r1, .int x2, .int x3, .long l4, .retAddr 2, .int x6, .int x7, v8, v9] [] h Q) (kf : ¬ (s0 = 0) → wpx d P_Sp_goOn 68 [.ref r0, .ref r1, .int x2, .int x3, .long l4, .retAddr 2, .int x6, .int x7, v8, v9] [] h Q) : wpx d P_Sp_goOn 65 [.ref r0, .ref r1, .int x2, .int x3, .long l4, .retAddr 2, .int x6, .int x7, v8, v9] [.int s0] h Q := by
  exact st_if_eq (pc' := 68) rfl rfl kt kf
theorem B_Sp_goOn_68 {d : Nat} {h : PH} {Q : PQ} {r0 : Nat} {r1 : Nat} {x2 : Int32} {x3 : Int32} {l4 : Int64} {x6 : Int32} {x7 : Int32} {v8 : Value} {v9 : Value} {a0 : Nat} {n1 : Nat} {a2 : Nat} {n3 : Nat} (hs0 : h_sh h r1 = some (0, 3)) (hr1 : h_r h r1 2 = some a0) (hs2 : h_sh h a0 = some (1, n1)) (hb3 : vp_in x6 n1) (hs4 : h_sh h r0 = some (0, 5)) (hr5 : h_r h r0 0 = some a2) (hs6 : h_sh h a2 = some (1, n3)) (hb7 : vp_in x2 n3) (kt : ¬ ((h_i h a0 x6.toNatClampNeg) = (h_i h a2 x2.toNatClampNeg)) → wpx d P_Sp_goOn 145 [.ref r0, .ref r1, .int x2, .int x3, .long l4, .retAddr 2, .int x6, .int x7, v8, v9] [] h Q) (kf : (h_i h a0 x6.toNatClampNeg) = (h_i h a2 x2.toNatClampNeg) → wpx d P_Sp_goOn 84 [.ref r0, .ref r1, .int x2, .int x3, .long l4, .retAddr 2, .int x6, .int x7, v8, v9] [] h Q) : wpx d P_Sp_goOn 68 [.ref r0, .ref r1, .int x2, .int x3, .long l4, .retAddr 2, .int x6, .int x7, v8, v9] [] h Q := by
  refine st_aload (pc' := 69) rfl rfl rfl ?_
  refine st_getfr (x := some a0) (Or.inr rfl) rfl hs0 rfl hr1 (pc' := 72) rfl ?_
  refine st_iload (pc' := 74) rfl rfl rfl ?_
  refine st_iaload rfl hs2 hb3 (j := x6.toNatClampNeg) rfl (pc' := 75) rfl ?_
  refine st_aload (pc' := 76) rfl rfl rfl ?_
  refine st_getfr (x := some a2) (Or.inl rfl) rfl hs4 rfl hr5 (pc' := 79) rfl ?_
  refine st_iload (pc' := 80) rfl rfl rfl ?_
  refine st_iaload rfl hs6 hb7 (j := x2.toNatClampNeg) rfl (pc' := 81) rfl ?_
  exact st_icmp_ne (pc' := 84) rfl rfl kt kf
theorem B_Sp_goOn_84 {d : Nat} {h : PH} {Q : PQ} {r0 : Nat} {r1 : Nat} {x2 : Int32} {x3 : Int32} {l4 : Int64} {x6 : Int32} {x7 : Int32} {v8 : Value} {v9 : Value} {a0 : Nat} {n1 : Nat} (hs0 : h_sh h r0 = some (0, 5)) (hr1 : h_r h r0 2 = some a0) (hs2 : h_sh h a0 = some (1, n1)) (hb3 : vp_in (x2 + (1 : Int32)) n1) (kt : (h_i h r0 5) ≤ (x7 + (h_i h a0 (x2 + (1 : Int32)).toNatClampNeg)) → wpx d P_Sp_goOn 145 [.ref r0, .ref r1, .int x2, .int x3, .long l4, .retAddr 2, .int x6, .int x7, v8, v9] [] h Q) (kf : ¬ ((h_i h r0 5) ≤ (x7 + (h_i h a0 (x2 + (1 : Int32)).toNatClampNeg))) → wpx d P_Sp_goOn 102 [.ref r0, .ref r1, .int x2, .int x3, .long l4, .retAddr 2, .int x6, .int x7, v8, v9] [] h Q) : wpx d P_Sp_goOn 84 [.ref r0, .ref r1, .int x2, .int x3, .long l4, .retAddr 2, .int x6, .int x7, v8, v9] [] h Q := by
  refine st_iload (pc' := 86) rfl rfl rfl ?_
  refine st_aload (pc' := 87) rfl rfl rfl ?_
  refine st_getfr (x := some a0) (Or.inl rfl) rfl hs0 rfl hr1 (pc' := 90) rfl ?_
  refine st_iload (pc' := 91) rfl rfl rfl ?_
  refine st_ipush (pc' := 92) (v := 1) rfl rfl (by decide) ?_
  refine st_iadd (pc' := 93) rfl rfl ?_
  refine st_iaload rfl hs2 hb3 (j := (x2 + (1 : Int32)).toNatClampNeg) rfl (pc' := 94) rfl ?_
  refine st_iadd (pc' := 95) rfl rfl ?_
  refine st_aload (pc' := 96) rfl rfl rfl ?_
  refine st_getfi (Or.inl rfl) rfl hs0 rfl (pc' := 99) rfl ?_
  exact st_icmp_ge (pc' := 102) rfl rfl kt kf
theorem B_Sp_goOn_102 {d : Nat} {h : PH} {Q : PQ} {r0 : Nat} {r1 : Nat} {x2 : Int32} {x3 : Int32} {l4 : Int64} {x6 : Int32} {x7 : Int32} {v8 : Value} {v9 : Value} (hs0 : h_sh h r0 = some (0, 5)) (k : wpm d 66 [.ref r0, .ref r1, .int x6, .int x3, .long l4] h (fun r h' => wpx d P_Sp_goOn 112 [.ref r0, .ref r1, .int x2, .int x3, .long l4, .retAddr 2, .int x6, .int x7, v8, v9] (r.toList ++ []) h' Q)) : wpx d P_Sp_goOn 102 [.ref r0, .ref r1, .int x2, .int x3, .long l4, .retAddr 2, .int x6, .int x7, v8, v9] [] h Q := by
  refine st_aload (pc' := 103) rfl rfl rfl ?_
  refine st_aload (pc' := 104) rfl rfl rfl ?_
  refine st_iload (pc' := 106) rfl rfl rfl ?_
  refine st_iload (pc' := 107) rfl rfl rfl ?_
  refine st_lload (pc' := 109) rfl rfl rfl rfl ?_
  exact st_call (pc' := 112) (as := [.ref r0, .ref r1, .int x6, .int x3, .long l4]) (rest := []) rfl rfl (Nat.le_of_ble_eq_true rfl) rfl rfl (Nat.le_of_ble_eq_true rfl) (kd := 1) (o := 5) rfl rfl (beq_iff_eq.mpr hs0) k
theorem B_Sp_goOn_112 {d : Nat} {h : PH} {Q : PQ} {r0 : Nat} {r1 : Nat} {x2 : Int32} {x3 : Int32} {l4 : Int64} {x6 : Int32} {x7 : Int32} {v8 : Value} {v9 : Value} {t0 : Int64} {a0 : Nat} {n1 : Nat} (hs0 : h_sh h r0 = some (0, 5)) (hr1 : h_r h r0 6 = some a0) (hs2 : h_sh h a0 = some (1, n1)) (hb3 : vp_in x7 n1) (kt : ¬ ((h_i h a0 x7.toNatClampNeg) = (1 : Int32)) → wpx d P_Sp_goOn 145 [.ref r0, .ref r1, .int x2, .int x3, .long l4, .retAddr 2, .int x6, .int x7, .long t0, .retAddr 2] [] h Q) (kf : (h_i h a0 x7.toNatClampNeg) = (1 : Int32) → wpx d P_Sp_goOn 125 [.ref r0, .ref r1, .int x2, .int x3, .long l4, .retAddr 2, .int x6, .int x7, .long t0, .retAddr 2] [] h Q) : wpx d P_Sp_goOn 112 [.ref r0, .ref r1, .int x2, .int x3, .long l4, .retAddr 2, .int x6, .int x7, v8, v9] [.long t0] h Q := by
  refine st_lstore (pc' := 114) (ls' := [.ref r0, .ref r1, .int x2, .int x3, .long l4, .retAddr 2, .int x6, .int x7, .long t0, .retAddr 2]) rfl rfl (Nat.le_of_ble_eq_true rfl) rfl ?_
  refine st_aload (pc' := 115) rfl rfl rfl ?_
  refine st_getfr (x := some a0) (Or.inl rfl) rfl hs0 rfl hr1 (pc' := 118) rfl ?_
  refine st_iload (pc' := 120) rfl rfl rfl ?_
  refine st_iaload rfl hs2 hb3 (j := x7.toNatClampNeg) rfl (pc' := 121) rfl ?_
  refine st_ipush (pc' := 122) (v := 1) rfl rfl (by decide) ?_
  exact st_icmp_ne (pc' := 125) rfl rfl kt kf
theorem B_Sp_goOn_125 {d : Nat} {h : PH} {Q : PQ} {r0 : Nat} {r1 : Nat} {x2 : Int32} {x3 : Int32} {l4 : Int64} {x6 : Int32} {x7 : Int32} {l8 : Int64} {a0 : Nat} {n1 : Nat} (hs0 : h_sh h r0 = some (0, 5)) (hr1 : h_r h r0 3 = some a0) (hs2 : h_sh h a0 = some (1, n1)) (hb3 : vp_in x2 n1) (k : wpm d 65 [.ref r0, .ref r1, .int (x2 + (1 : Int32)), .int x7, .long l8] (w_i h a0 x2.toNatClampNeg x6) (fun r h' => wpx d P_Sp_goOn 145 [.ref r0, .ref r1, .int x2, .int x3, .long l4, .retAddr 2, .int x6, .int x7, .long l8, .retAddr 2] (r.toList ++ []) h' Q)) : wpx d P_Sp_goOn 125 [.ref r0, .ref r1, .int x2, .int x3, .long l4, .retAddr 2, .int x6, .int x7, .long l8, .retAddr 2] [] h Q := by
  refine st_aload (pc' := 126) rfl rfl rfl ?_
  refine st_getfr (x := some a0) (Or.inl rfl) rfl hs0 rfl hr1 (pc' := 129) rfl ?_
  refine st_iload (pc' := 130) rfl rfl rfl ?_
  refine st_iload (pc' := 132) rfl rfl rfl ?_
  refine st_iastore rfl hs2 hb3 (j := x2.toNatClampNeg) rfl (pc' := 133) rfl ?_
  refine st_aload (pc' := 134) rfl rfl rfl ?_
  refine st_aload (pc' := 135) rfl rfl rfl ?_
  refine st_iload (pc' := 136) rfl rfl rfl ?_
  refine st_ipush (pc' := 137) (v := 1) rfl rfl (by decide) ?_
  refine st_iadd (pc' := 138) rfl rfl ?_
  refine st_iload (pc' := 140) rfl rfl rfl ?_
  refine st_lload (pc' := 142) rfl rfl rfl rfl ?_
  exact st_call (pc' := 145) (as := [.ref r0, .ref r1, .int (x2 + (1 : Int32)), .int x7, .long l8]) (rest := []) rfl rfl (Nat.le_of_ble_eq_true rfl) rfl rfl (Nat.le_of_ble_eq_true rfl) (kd := 1) (o := 5) rfl rfl (beq_iff_eq.mpr hs0) k
theorem B_Sp_goOn_145 {d : Nat} {h : PH} {Q : PQ} {r0 : Nat} {r1 : Nat} {x2 : Int32} {x3 : Int32} {l4 : Int64} {x6 : Int32} {x7 : Int32} {v8 : Value} {v9 : Value}  (k : wpx d P_Sp_goOn 39 [.ref r0, .ref r1, .int x2, .int x3, .long l4, .retAddr 2, .int (x6 + 1), .int x7, v8, v9] [] h Q) : wpx d P_Sp_goOn 145 [.ref r0, .ref r1, .int x2, .int x3, .long l4, .retAddr 2, .int x6, .int x7, v8, v9] [] h Q := by
  refine st_iinc (pc' := 148) (v := 1) (ls' := [.ref r0, .ref r1, .int x2, .int x3, .long l4, .retAddr 2, .int (x6 + 1), .int x7, v8, v9]) rfl rfl rfl (by decide) rfl ?_
  exact st_goto rfl k
theorem B_Sp_goOn_151 {d : Nat} {h : PH} {Q : PQ} {r0 : Nat} {r1 : Nat} {x2 : Int32} {x3 : Int32} {l4 : Int64} {x6 : Int32} {v7 : Value} {v8 : Value} {v9 : Value}  (k : Q none h) : wpx d P_Sp_goOn 151 [.ref r0, .ref r1, .int x2, .int x3, .long l4, .retAddr 2, .int x6, v7, v8, v9] [] h Q := by
  exact st_return rfl k
theorem B_Sp_countNew_0 {d : Nat} {h : PH} {Q : PQ} {r0 : Nat} {r1 : Nat} {x2 : Int32} {x3 : Int32} {l4 : Int64} {v6 : Value} {v7 : Value} {v8 : Value} {v9 : Value} {v10 : Value} {v11 : Value} {v12 : Value} {a0 : Nat} {n1 : Nat} (hs0 : h_sh h r1 = some (0, 3)) (hr1 : h_r h r1 1 = some a0) (hs2 : h_sh h a0 = some (1, n1)) (hb3 : vp_in x2 n1) (k : wpx d P_Sp_countNew 15 [.ref r0, .ref r1, .int x2, .int x3, .long l4, .retAddr 2, .int (h_i h a0 x2.toNatClampNeg), .long l4, .retAddr 2, .int 0, v10, v11, v12] [] h Q) : wpx d P_Sp_countNew 0 [.ref r0, .ref r1, .int x2, .int x3, .long l4, .retAddr 2, v6, v7, v8, v9, v10, v11, v12] [] h Q := by
  refine st_aload (pc' := 1) rfl rfl rfl ?_
  refine st_getfr (x := some a0) (Or.inr rfl) rfl hs0 rfl hr1 (pc' := 4) rfl ?_
  refine st_iload (pc' := 5) rfl rfl rfl ?_
  refine st_iaload rfl hs2 hb3 (j := x2.toNatClampNeg) rfl (pc' := 6) rfl ?_
  refine st_istore (pc' := 8) (ls' := [.ref r0, .ref r1, .int x2, .int x3, .long l4, .retAddr 2, .int (h_i h a0 x2.toNatClampNeg), v7, v8, v9, v10, v11, v12]) rfl rfl (Nat.le_of_ble_eq_true rfl) rfl ?_
  refine st_lload (pc' := 10) rfl rfl rfl rfl ?_
  refine st_lstore (pc' := 12) (ls' := [.ref r0, .ref r1, .int x2, .int x3, .long l4, .retAddr 2, .int (h_i h a0 x2.toNatClampNeg), .long l4, .retAddr 2, v9, v10, v11, v12]) rfl rfl (Nat.le_of_ble_eq_true rfl) rfl ?_
  refine st_ipush (pc' := 13) (v := 0) rfl rfl (by decide) ?_
  refine st_istore (pc' := 15) (ls' := [.ref r0, .ref r1, .int x2, .int x3, .long l4, .retAddr 2, .int (h_i h a0 x2.toNatClampNeg), .long l4, .retAddr 2, .int 0, v10, v11, v12]) rfl rfl (Nat.le_of_ble_eq_true rfl) rfl ?_
  exact k
theorem B_Sp_countNew_15 {d : Nat} {h : PH} {Q : PQ} {r0 : Nat} {r1 : Nat} {x2 : Int32} {x3 : Int32} {l4 : Int64} {x6 : Int32} {l7 : Int64} {x9 : Int32} {v10 : Value} {v11 : Value} {v12 : Value}  (kt : x6 ≤ x9 → wpx d P_Sp_countNew 169 [.ref r0, .ref r1, .int x2, .int x3, .long l4, .retAddr 2, .int x6, .long l7, .retAddr 2, .int x9, v10, v11, v12] [] h Q) (kf : ¬ (x6 ≤ x9) → wpx d P_Sp_countNew 22 [.ref r0, .ref r1, .int x2, .int x3, .long l4, .retAddr 2, .int x6, .long l7, .retAddr 2, .int x9, v10, v11, v12] [] h Q) : wpx d P_Sp_countNew 15 [.ref r0, .ref r1, .int x2, .int x3, .long l4, .retAddr 2, .int x6, .long l7, .retAddr 2, .int x9, v10, v11, v12] [] h Q := by
  refine st_iload (pc' := 17) rfl rfl rfl ?_
  refine st_iload (pc' := 19) rfl rfl rfl ?_
  exact st_icmp_ge (pc' := 22) rfl rfl kt kf
theorem B_Sp_countNew_22 {d : Nat} {h : PH} {Q : PQ} {r0 : Nat} {r1 : Nat} {x2 : Int32} {x3 : Int32} {l4 : Int64} {x6 : Int32} {l7 : Int64} {x9 : Int32} {v10 : Value} {v11 : Value} {v12 : Value}  (kt : (28 : Int32) ≤ (x3 + x9) → wpx d P_Sp_countNew 169 [.ref r0, .ref r1, .int x2, .int x3, .long l4, .retAddr 2, .int x6, .long l7, .retAddr 2, .int x9, v10, v11, v12] [] h Q) (kf : ¬ ((28 : Int32) ≤ (x3 + x9)) → wpx d P_Sp_countNew 31 [.ref r0, .ref r1, .int x2, .int x3, .long l4, .retAddr 2, .int x6, .long l7, .retAddr 2, .int x9, v10, v11, v12] [] h Q) : wpx d P_Sp_countNew 22 [.ref r0, .ref r1, .int x2, .int x3, .long l4, .retAddr 2, .int x6, .long l7, .retAddr 2, .int x9, v10, v11, v12] [] h Q := by
  refine st_iload (pc' := 23) rfl rfl rfl ?_
  refine st_iload (pc' := 25) rfl rfl rfl ?_
  refine st_iadd (pc' := 26) rfl rfl ?_
  refine st_ipush (pc' := 28) (v := 28) rfl rfl (by decide) ?_
  exact st_icmp_ge (pc' := 31) rfl rfl kt kf
theorem B_Sp_countNew_31 {d : Nat} {h : PH} {Q : PQ} {r0 : Nat} {r1 : Nat} {x2 : Int32} {x3 : Int32} {l4 : Int64} {x6 : Int32} {l7 : Int64} {x9 : Int32} {v10 : Value} {v11 : Value} {v12 : Value} {a0 : Nat} {n1 : Nat} (hs0 : h_sh h r1 = some (0, 3)) (hr1 : h_r h r1 0 = some a0) (hs2 : h_sh h a0 = some (4, n1)) (hb3 : vp_in x2 n1) (k : wpm d 165 [.long (h_l h a0 x2.toNatClampNeg), .int x6, .int x9] h (fun r h' => wpx d P_Sp_countNew 56 [.ref r0, .ref r1, .int x2, .int x3, .long l4, .retAddr 2, .int x6, .long l7, .retAddr 2, .int x9, .int ((x3 + x9) + (1 : Int32)), v11, v12] (r.toList ++ [.long (l7 <<< ((5 : Int32).toInt64 &&& 63))]) h' Q)) : wpx d P_Sp_countNew 31 [.ref r0, .ref r1, .int x2, .int x3, .long l4, .retAddr 2, .int x6, .long l7, .retAddr 2, .int x9, v10, v11, v12] [] h Q := by
  refine st_iload (pc' := 32) rfl rfl rfl ?_
  refine st_iload (pc' := 34) rfl rfl rfl ?_
  refine st_iadd (pc' := 35) rfl rfl ?_
  refine st_ipush (pc' := 36) (v := 1) rfl rfl (by decide) ?_
  refine st_iadd (pc' := 37) rfl rfl ?_
  refine st_istore (pc' := 39) (ls' := [.ref r0, .ref r1, .int x2, .int x3, .long l4, .retAddr 2, .int x6, .long l7, .retAddr 2, .int x9, .int ((x3 + x9) + (1 : Int32)), v11, v12]) rfl rfl (Nat.le_of_ble_eq_true rfl) rfl ?_
  refine st_lload (pc' := 41) rfl rfl rfl rfl ?_
  refine st_ipush (pc' := 42) (v := 5) rfl rfl (by decide) ?_
  refine st_lshl (pc' := 43) rfl rfl ?_
  refine st_aload (pc' := 44) rfl rfl rfl ?_
  refine st_getfr (x := some a0) (Or.inr rfl) rfl hs0 rfl hr1 (pc' := 47) rfl ?_
  refine st_iload (pc' := 48) rfl rfl rfl ?_
  refine st_laload rfl hs2 hb3 (j := x2.toNatClampNeg) rfl (pc' := 49) rfl ?_
  refine st_iload (pc' := 51) rfl rfl rfl ?_
  refine st_iload (pc' := 53) rfl rfl rfl ?_
  exact st_call (pc' := 56) (as := [.long (h_l h a0 x2.toNatClampNeg), .int x6, .int x9]) (rest := [.long (l7 <<< ((5 : Int32).toInt64 &&& 63))]) rfl rfl (Nat.le_of_ble_eq_true rfl) rfl rfl (Nat.le_of_ble_eq_true rfl) (kd := 0) (o := 11) rfl rfl rfl k
theorem B_Sp_countNew_56 {d : Nat} {h : PH} {Q : PQ} {r0 : Nat} {r1 : Nat} {x2 : Int32} {x3 : Int32} {l4 : Int64} {x6 : Int32} {l7 : Int64} {x9 : Int32} {x10 : Int32} {v11 : Value} {v12 : Value} {t0 : Int64} {s1 : Int32}  (k : wpm d 164 [.long (t0 ||| s1.toInt64), .int 7] h (fun r h' => wpx d P_Sp_countNew 63 [.ref r0, .ref r1, .int x2, .int x3, .long l4, .retAddr 2, .int x6, .long l7, .retAddr 2, .int x9, .int x10, v11, v12] (r.toList ++ []) h' Q)) : wpx d P_Sp_countNew 56 [.ref r0, .ref r1, .int x2, .int x3, .long l4, .retAddr 2, .int x6, .long l7, .retAddr 2, .int x9, .int x10, v11, v12] [.int s1, .long t0] h Q := by
  refine st_i2l (pc' := 57) rfl rfl ?_
  refine st_lor (pc' := 58) rfl rfl ?_
  refine st_ipush (pc' := 60) (v := 7) rfl rfl (by decide) ?_
  exact st_call (pc' := 63) (as := [.long (t0 ||| s1.toInt64), .int 7]) (rest := []) rfl rfl (Nat.le_of_ble_eq_true rfl) rfl rfl (Nat.le_of_ble_eq_true rfl) (kd := 0) (o := 11) rfl rfl rfl k
theorem B_Sp_countNew_63 {d : Nat} {h : PH} {Q : PQ} {r0 : Nat} {r1 : Nat} {x2 : Int32} {x3 : Int32} {l4 : Int64} {x6 : Int32} {l7 : Int64} {x9 : Int32} {x10 : Int32} {v11 : Value} {v12 : Value} {t0 : Int64}  (k : wpx d P_Sp_countNew 71 [.ref r0, .ref r1, .int x2, .int x3, .long l4, .retAddr 2, .int x6, .long t0, .retAddr 2, .int x9, .int x10, .int 0, .int 0] [] h Q) : wpx d P_Sp_countNew 63 [.ref r0, .ref r1, .int x2, .int x3, .long l4, .retAddr 2, .int x6, .long l7, .retAddr 2, .int x9, .int x10, v11, v12] [.long t0] h Q := by
  refine st_lstore (pc' := 65) (ls' := [.ref r0, .ref r1, .int x2, .int x3, .long l4, .retAddr 2, .int x6, .long t0, .retAddr 2, .int x9, .int x10, v11, v12]) rfl rfl (Nat.le_of_ble_eq_true rfl) rfl ?_
  refine st_ipush (pc' := 66) (v := 0) rfl rfl (by decide) ?_
  refine st_istore (pc' := 68) (ls' := [.ref r0, .ref r1, .int x2, .int x3, .long l4, .retAddr 2, .int x6, .long t0, .retAddr 2, .int x9, .int x10, .int 0, v12]) rfl rfl (Nat.le_of_ble_eq_true rfl) rfl ?_
  refine st_ipush (pc' := 69) (v := 0) rfl rfl (by decide) ?_
  refine st_istore (pc' := 71) (ls' := [.ref r0, .ref r1, .int x2, .int x3, .long l4, .retAddr 2, .int x6, .long t0, .retAddr 2, .int x9, .int x10, .int 0, .int 0]) rfl rfl (Nat.le_of_ble_eq_true rfl) rfl ?_
  exact k
theorem B_Sp_countNew_71 {d : Nat} {h : PH} {Q : PQ} {r0 : Nat} {r1 : Nat} {x2 : Int32} {x3 : Int32} {l4 : Int64} {x6 : Int32} {l7 : Int64} {x9 : Int32} {x10 : Int32} {x11 : Int32} {x12 : Int32} (hs0 : h_sh h r1 = some (0, 3)) (kt : (h_i h r1 3) ≤ x12 → wpx d P_Sp_countNew 150 [.ref r0, .ref r1, .int x2, .int x3, .long l4, .retAddr 2, .int x6, .long l7, .retAddr 2, .int x9, .int x10, .int x11, .int x12] [] h Q) (kf : ¬ ((h_i h r1 3) ≤ x12) → wpx d P_Sp_countNew 80 [.ref r0, .ref r1, .int x2, .int x3, .long l4, .retAddr 2, .int x6, .long l7, .retAddr 2, .int x9, .int x10, .int x11, .int x12] [] h Q) : wpx d P_Sp_countNew 71 [.ref r0, .ref r1, .int x2, .int x3, .long l4, .retAddr 2, .int x6, .long l7, .retAddr 2, .int x9, .int x10, .int x11, .int x12] [] h Q := by
  refine st_iload (pc' := 73) rfl rfl rfl ?_
  refine st_aload (pc' := 74) rfl rfl rfl ?_
  refine st_getfi (Or.inr rfl) rfl hs0 rfl (pc' := 77) rfl ?_
  exact st_icmp_ge (pc' := 80) rfl rfl kt kf
theorem B_Sp_countNew_80 {d : Nat} {h : PH} {Q : PQ} {r0 : Nat} {r1 : Nat} {x2 : Int32} {x3 : Int32} {l4 : Int64} {x6 : Int32} {l7 : Int64} {x9 : Int32} {x10 : Int32} {x11 : Int32} {x12 : Int32} (hs0 : h_sh h r1 = some (0, 3)) (k : wpm d 35 [.ref r1, .int x12] h (fun r h' => wpx d P_Sp_countNew 86 [.ref r0, .ref r1, .int x2, .int x3, .long l4, .retAddr 2, .int x6, .long l7, .retAddr 2, .int x9, .int x10, .int x11, .int x12] (r.toList ++ []) h' Q)) : wpx d P_Sp_countNew 80 [.ref r0, .ref r1, .int x2, .int x3, .long l4, .retAddr 2, .int x6, .long l7, .retAddr 2, .int x9, .int x10, .int x11, .int x12] [] h Q := by
  refine st_aload (pc' := 81) rfl rfl rfl ?_
  refine st_iload (pc' := 83) rfl rfl rfl ?_
  exact st_call (pc' := 86) (as := [.ref r1, .int x12]) (rest := []) rfl rfl (Nat.le_of_ble_eq_true rfl) rfl rfl (Nat.le_of_ble_eq_true rfl) (kd := 1) (o := 3) rfl rfl (beq_iff_eq.mpr hs0) k
theorem B_Sp_countNew_86 {d : Nat} {h : PH} {Q : PQ} {r0 : Nat} {r1 : Nat} {x2 : Int32} {x3 : Int32} {l4 : Int64} {x6 : Int32} {l7 : Int64} {x9 : Int32} {x10 : Int32} {x11 : Int32} {x12 : Int32} {s0 : Int32}  (kt : s0 = 0 → wpx d P_Sp_countNew 144 [.ref r0, .ref r1, .int x2, .int x3, .long l4, .retAddr 2, .int x6, .long l7, .retAddr 2, .int x9, .int x10, .int x11, .int x12] [] h Q) (kf : ¬ (s0 = 0) → wpx d P_Sp_countNew 89 [.ref r0, .ref r1, .int x2, .int x3, .long l4, .retAddr 2, .int x6, .long l7, .retAddr 2, .int x9, .int x10, .int x11, .int x12] [] h Q) : wpx d P_Sp_countNew 86 [.ref r0, .ref r1, .int x2, .int x3, .long l4, .retAddr 2, .int x6, .long l7, .retAddr 2, .int x9, .int x10, .int x11, .int x12] [.int s0] h Q := by
  exact st_if_eq (pc' := 89) rfl rfl kt kf
theorem B_Sp_countNew_89 {d : Nat} {h : PH} {Q : PQ} {r0 : Nat} {r1 : Nat} {x2 : Int32} {x3 : Int32} {l4 : Int64} {x6 : Int32} {l7 : Int64} {x9 : Int32} {x10 : Int32} {x11 : Int32} {x12 : Int32} {a0 : Nat} {n1 : Nat} (hs0 : h_sh h r1 = some (0, 3)) (hr1 : h_r h r1 1 = some a0) (hs2 : h_sh h a0 = some (1, n1)) (hb3 : vp_in x12 n1) (kt : x10 < (h_i h a0 x12.toNatClampNeg) → wpx d P_Sp_countNew 144 [.ref r0, .ref r1, .int x2, .int x3, .long l4, .retAddr 2, .int x6, .long l7, .retAddr 2, .int x9, .int x10, .int x11, .int x12] [] h Q) (kf : ¬ (x10 < (h_i h a0 x12.toNatClampNeg)) → wpx d P_Sp_countNew 101 [.ref r0, .ref r1, .int x2, .int x3, .long l4, .retAddr 2, .int x6, .long l7, .retAddr 2, .int x9, .int x10, .int x11, .int x12] [] h Q) : wpx d P_Sp_countNew 89 [.ref r0, .ref r1, .int x2, .int x3, .long l4, .retAddr 2, .int x6, .long l7, .retAddr 2, .int x9, .int x10, .int x11, .int x12] [] h Q := by
  refine st_aload (pc' := 90) rfl rfl rfl ?_
  refine st_getfr (x := some a0) (Or.inr rfl) rfl hs0 rfl hr1 (pc' := 93) rfl ?_
  refine st_iload (pc' := 95) rfl rfl rfl ?_
  refine st_iaload rfl hs2 hb3 (j := x12.toNatClampNeg) rfl (pc' := 96) rfl ?_
  refine st_iload (pc' := 98) rfl rfl rfl ?_
  exact st_icmp_gt (pc' := 101) rfl rfl kt kf
theorem B_Sp_countNew_101 {d : Nat} {h : PH} {Q : PQ} {r0 : Nat} {r1 : Nat} {x2 : Int32} {x3 : Int32} {l4 : Int64} {x6 : Int32} {l7 : Int64} {x9 : Int32} {x10 : Int32} {x11 : Int32} {x12 : Int32} {a0 : Nat} {n1 : Nat} (hs0 : h_sh h r1 = some (0, 3)) (hr1 : h_r h r1 1 = some a0) (hs2 : h_sh h a0 = some (1, n1)) (hb3 : vp_in x12 n1) (k : wpm d 164 [.long l7, .int (h_i h a0 x12.toNatClampNeg)] h (fun r h' => wpx d P_Sp_countNew 113 [.ref r0, .ref r1, .int x2, .int x3, .long l4, .retAddr 2, .int x6, .long l7, .retAddr 2, .int x9, .int x10, .int x11, .int x12] (r.toList ++ []) h' Q)) : wpx d P_Sp_countNew 101 [.ref r0, .ref r1, .int x2, .int x3, .long l4, .retAddr 2, .int x6, .long l7, .retAddr 2, .int x9, .int x10, .int x11, .int x12] [] h Q := by
  refine st_lload (pc' := 103) rfl rfl rfl rfl ?_
  refine st_aload (pc' := 104) rfl rfl rfl ?_
  refine st_getfr (x := some a0) (Or.inr rfl) rfl hs0 rfl hr1 (pc' := 107) rfl ?_
  refine st_iload (pc' := 109) rfl rfl rfl ?_
  refine st_iaload rfl hs2 hb3 (j := x12.toNatClampNeg) rfl (pc' := 110) rfl ?_
  exact st_call (pc' := 113) (as := [.long l7, .int (h_i h a0 x12.toNatClampNeg)]) (rest := []) rfl rfl (Nat.le_of_ble_eq_true rfl) rfl rfl (Nat.le_of_ble_eq_true rfl) (kd := 0) (o := 11) rfl rfl rfl k
theorem B_Sp_countNew_113 {d : Nat} {h : PH} {Q : PQ} {r0 : Nat} {r1 : Nat} {x2 : Int32} {x3 : Int32} {l4 : Int64} {x6 : Int32} {l7 : Int64} {x9 : Int32} {x10 : Int32} {x11 : Int32} {x12 : Int32} {t0 : Int64} {a0 : Nat} {n1 : Nat} (hs0 : h_sh h r1 = some (0, 3)) (hr1 : h_r h r1 0 = some a0) (hs2 : h_sh h a0 = some (4, n1)) (hb3 : vp_in x12 n1) (kt : ¬ ((lg_cmp t0 (h_l h a0 x12.toNatClampNeg)) = 0) → wpx d P_Sp_countNew 144 [.ref r0, .ref r1, .int x2, .int x3, .long l4, .retAddr 2, .int x6, .long l7, .retAddr 2, .int x9, .int x10, .int x11, .int x12] [] h Q) (kf : (lg_cmp t0 (h_l h a0 x12.toNatClampNeg)) = 0 → wpx d P_Sp_countNew 124 [.ref r0, .ref r1, .int x2, .int x3, .long l4, .retAddr 2, .int x6, .long l7, .retAddr 2, .int x9, .int x10, .int x11, .int x12] [] h Q) : wpx d P_Sp_countNew 113 [.ref r0, .ref r1, .int x2, .int x3, .long l4, .retAddr 2, .int x6, .long l7, .retAddr 2, .int x9, .int x10, .int x11, .int x12] [.long t0] h Q := by
  refine st_aload (pc' := 114) rfl rfl rfl ?_
  refine st_getfr (x := some a0) (Or.inr rfl) rfl hs0 rfl hr1 (pc' := 117) rfl ?_
  refine st_iload (pc' := 119) rfl rfl rfl ?_
  refine st_laload rfl hs2 hb3 (j := x12.toNatClampNeg) rfl (pc' := 120) rfl ?_
  refine st_lcmp (pc' := 121) rfl rfl ?_
  exact st_if_ne (pc' := 124) rfl rfl kt kf
theorem B_Sp_countNew_124 {d : Nat} {h : PH} {Q : PQ} {r0 : Nat} {r1 : Nat} {x2 : Int32} {x3 : Int32} {l4 : Int64} {x6 : Int32} {l7 : Int64} {x9 : Int32} {x10 : Int32} {x11 : Int32} {x12 : Int32} {a0 : Nat} {a1 : Nat} {n2 : Nat} {n3 : Nat} (hs0 : h_sh h r0 = some (0, 5)) (hr1 : h_r h r0 6 = some a0) (hs2 : h_sh h r1 = some (0, 3)) (hr3 : h_r h r1 1 = some a1) (hs4 : h_sh h a1 = some (1, n2)) (hb5 : vp_in x12 n2) (hs6 : h_sh h a0 = some (1, n3)) (hb7 : vp_in (x10 - (h_i h a1 x12.toNatClampNeg)) n3) (k : wpx d P_Sp_countNew 144 [.ref r0, .ref r1, .int x2, .int x3, .long l4, .retAddr 2, .int x6, .long l7, .retAddr 2, .int x9, .int x10, .int (x11 + (h_i h a0 (x10 - (h_i h a1 x12.toNatClampNeg)).toNatClampNeg)), .int x12] [] h Q) : wpx d P_Sp_countNew 124 [.ref r0, .ref r1, .int x2, .int x3, .long l4, .retAddr 2, .int x6, .long l7, .retAddr 2, .int x9, .int x10, .int x11, .int x12] [] h Q := by
  refine st_iload (pc' := 126) rfl rfl rfl ?_
  refine st_aload (pc' := 127) rfl rfl rfl ?_
  refine st_getfr (x := some a0) (Or.inl rfl) rfl hs0 rfl hr1 (pc' := 130) rfl ?_
  refine st_iload (pc' := 132) rfl rfl rfl ?_
  refine st_aload (pc' := 133) rfl rfl rfl ?_
  refine st_getfr (x := some a1) (Or.inr rfl) rfl hs2 rfl hr3 (pc' := 136) rfl ?_
  refine st_iload (pc' := 138) rfl rfl rfl ?_
  refine st_iaload rfl hs4 hb5 (j := x12.toNatClampNeg) rfl (pc' := 139) rfl ?_
  refine st_isub (pc' := 140) rfl rfl ?_
  refine st_iaload rfl hs6 hb7 (j := (x10 - (h_i h a1 x12.toNatClampNeg)).toNatClampNeg) rfl (pc' := 141) rfl ?_
  refine st_iadd (pc' := 142) rfl rfl ?_
  refine st_istore (pc' := 144) (ls' := [.ref r0, .ref r1, .int x2, .int x3, .long l4, .retAddr 2, .int x6, .long l7, .retAddr 2, .int x9, .int x10, .int (x11 + (h_i h a0 (x10 - (h_i h a1 x12.toNatClampNeg)).toNatClampNeg)), .int x12]) rfl rfl (Nat.le_of_ble_eq_true rfl) rfl ?_
  exact k
theorem B_Sp_countNew_144 {d : Nat} {h : PH} {Q : PQ} {r0 : Nat} {r1 : Nat} {x2 : Int32} {x3 : Int32} {l4 : Int64} {x6 : Int32} {l7 : Int64} {x9 : Int32} {x10 : Int32} {x11 : Int32} {x12 : Int32}  (k : wpx d P_Sp_countNew 71 [.ref r0, .ref r1, .int x2, .int x3, .long l4, .retAddr 2, .int x6, .long l7, .retAddr 2, .int x9, .int x10, .int x11, .int (x12 + 1)] [] h Q) : wpx d P_Sp_countNew 144 [.ref r0, .ref r1, .int x2, .int x3, .long l4, .retAddr 2, .int x6, .long l7, .retAddr 2, .int x9, .int x10, .int x11, .int x12] [] h Q := by
  refine st_iinc (pc' := 147) (v := 1) (ls' := [.ref r0, .ref r1, .int x2, .int x3, .long l4, .retAddr 2, .int x6, .long l7, .retAddr 2, .int x9, .int x10, .int x11, .int (x12 + 1)]) rfl rfl rfl (by decide) rfl ?_
  exact st_goto rfl k
theorem B_Sp_countNew_150 {d : Nat} {h : PH} {Q : PQ} {r0 : Nat} {r1 : Nat} {x2 : Int32} {x3 : Int32} {l4 : Int64} {x6 : Int32} {l7 : Int64} {x9 : Int32} {x10 : Int32} {x11 : Int32} {x12 : Int32} {a0 : Nat} {n1 : Nat} (hs0 : h_sh h r0 = some (0, 5)) (hr1 : h_r h r0 6 = some a0) (hs2 : h_sh h a0 = some (1, n1)) (hb3 : vp_in x10 n1) (k : wpx d P_Sp_countNew 15 [.ref r0, .ref r1, .int x2, .int x3, .long l4, .retAddr 2, .int x6, .long l7, .retAddr 2, .int (x9 + 1), .int x10, .int x11, .int x12] [] (w_i h a0 x10.toNatClampNeg (if x11 < (2 : Int32) then x11 else (2 : Int32))) Q) : wpx d P_Sp_countNew 150 [.ref r0, .ref r1, .int x2, .int x3, .long l4, .retAddr 2, .int x6, .long l7, .retAddr 2, .int x9, .int x10, .int x11, .int x12] [] h Q := by
  refine st_aload (pc' := 151) rfl rfl rfl ?_
  refine st_getfr (x := some a0) (Or.inl rfl) rfl hs0 rfl hr1 (pc' := 154) rfl ?_
  refine st_iload (pc' := 156) rfl rfl rfl ?_
  refine st_ipush (pc' := 157) (v := 2) rfl rfl (by decide) ?_
  refine st_iload (pc' := 159) rfl rfl rfl ?_
  refine st_mmin (pc' := 162) rfl rfl (Nat.le_of_ble_eq_true rfl) ?_
  refine st_iastore rfl hs2 hb3 (j := x10.toNatClampNeg) rfl (pc' := 163) rfl ?_
  refine st_iinc (pc' := 166) (v := 1) (ls' := [.ref r0, .ref r1, .int x2, .int x3, .long l4, .retAddr 2, .int x6, .long l7, .retAddr 2, .int (x9 + 1), .int x10, .int x11, .int x12]) rfl rfl rfl (by decide) rfl ?_
  exact st_goto rfl k
theorem B_Sp_countNew_169 {d : Nat} {h : PH} {Q : PQ} {r0 : Nat} {r1 : Nat} {x2 : Int32} {x3 : Int32} {l4 : Int64} {x6 : Int32} {l7 : Int64} {x9 : Int32} {v10 : Value} {v11 : Value} {v12 : Value}  (k : Q (some (.long l7)) h) : wpx d P_Sp_countNew 169 [.ref r0, .ref r1, .int x2, .int x3, .long l4, .retAddr 2, .int x6, .long l7, .retAddr 2, .int x9, v10, v11, v12] [] h Q := by
  refine st_lload (pc' := 171) rfl rfl rfl rfl ?_
  exact st_lreturn rfl k
theorem B_Sp_copyTo_0 {d : Nat} {h : PH} {Q : PQ} {r0 : Nat} {r1 : Nat} {r2 : Nat} {v3 : Value} (hs0 : h_sh h r2 = some (0, 10)) (k : wpm d 106 [.ref r2] h (fun r h' => wpx d P_Sp_copyTo 4 [.ref r0, .ref r1, .ref r2, v3] (r.toList ++ []) h' Q)) : wpx d P_Sp_copyTo 0 [.ref r0, .ref r1, .ref r2, v3] [] h Q := by
  refine st_aload (pc' := 1) rfl rfl rfl ?_
  exact st_call (pc' := 4) (as := [.ref r2]) (rest := []) rfl rfl (Nat.le_of_ble_eq_true rfl) rfl rfl (Nat.le_of_ble_eq_true rfl) (kd := 1) (o := 10) rfl rfl (beq_iff_eq.mpr hs0) k
theorem B_Sp_copyTo_4 {d : Nat} {h : PH} {Q : PQ} {r0 : Nat} {r1 : Nat} {r2 : Nat} {v3 : Value}  (k : wpx d P_Sp_copyTo 6 [.ref r0, .ref r1, .ref r2, .int 0] [] h Q) : wpx d P_Sp_copyTo 4 [.ref r0, .ref r1, .ref r2, v3] [] h Q := by
  refine st_ipush (pc' := 5) (v := 0) rfl rfl (by decide) ?_
  refine st_istore (pc' := 6) (ls' := [.ref r0, .ref r1, .ref r2, .int 0]) rfl rfl (Nat.le_of_ble_eq_true rfl) rfl ?_
  exact k
theorem B_Sp_copyTo_6 {d : Nat} {h : PH} {Q : PQ} {r0 : Nat} {r1 : Nat} {r2 : Nat} {x3 : Int32} (hs0 : h_sh h r0 = some (0, 5)) (kt : (h_i h r0 1) ≤ x3 → wpx d P_Sp_copyTo 46 [.ref r0, .ref r1, .ref r2, .int x3] [] h Q) (kf : ¬ ((h_i h r0 1) ≤ x3) → wpx d P_Sp_copyTo 14 [.ref r0, .ref r1, .ref r2, .int x3] [] h Q) : wpx d P_Sp_copyTo 6 [.ref r0, .ref r1, .ref r2, .int x3] [] h Q := by
  refine st_iload (pc' := 7) rfl rfl rfl ?_
  refine st_aload (pc' := 8) rfl rfl rfl ?_
  refine st_getfi (Or.inl rfl) rfl hs0 rfl (pc' := 11) rfl ?_
  exact st_icmp_ge (pc' := 14) rfl rfl kt kf
theorem B_Sp_copyTo_14 {d : Nat} {h : PH} {Q : PQ} {r0 : Nat} {r1 : Nat} {r2 : Nat} {x3 : Int32} {a0 : Nat} {a1 : Nat} {n2 : Nat} {n3 : Nat} {a4 : Nat} {n5 : Nat} (hs0 : h_sh h r1 = some (0, 3)) (hr1 : h_r h r1 0 = some a0) (hs2 : h_sh h r0 = some (0, 5)) (hr3 : h_r h r0 4 = some a1) (hs4 : h_sh h a1 = some (1, n2)) (hb5 : vp_in x3 n2) (hs6 : h_sh h a0 = some (4, n3)) (hb7 : vp_in (h_i h a1 x3.toNatClampNeg) n3) (hr8 : h_r h r1 1 = some a4) (hs9 : h_sh h a4 = some (1, n5)) (hb10 : vp_in (h_i h a1 x3.toNatClampNeg) n5) (hs11 : h_sh h r2 = some (0, 10)) (k : wpm d 108 [.ref r2, .long (h_l h a0 (h_i h a1 x3.toNatClampNeg).toNatClampNeg), .int (h_i h a4 (h_i h a1 x3.toNatClampNeg).toNatClampNeg)] h (fun r h' => wpx d P_Sp_copyTo 40 [.ref r0, .ref r1, .ref r2, .int x3] (r.toList ++ []) h' Q)) : wpx d P_Sp_copyTo 14 [.ref r0, .ref r1, .ref r2, .int x3] [] h Q := by
  refine st_aload (pc' := 15) rfl rfl rfl ?_
  refine st_aload (pc' := 16) rfl rfl rfl ?_
  refine st_getfr (x := some a0) (Or.inr rfl) rfl hs0 rfl hr1 (pc' := 19) rfl ?_
  refine st_aload (pc' := 20) rfl rfl rfl ?_
  refine st_getfr (x := some a1) (Or.inl rfl) rfl hs2 rfl hr3 (pc' := 23) rfl ?_
  refine st_iload (pc' := 24) rfl rfl rfl ?_
  refine st_iaload rfl hs4 hb5 (j := x3.toNatClampNeg) rfl (pc' := 25) rfl ?_
  refine st_laload rfl hs6 hb7 (j := (h_i h a1 x3.toNatClampNeg).toNatClampNeg) rfl (pc' := 26) rfl ?_
  refine st_aload (pc' := 27) rfl rfl rfl ?_
  refine st_getfr (x := some a4) (Or.inr rfl) rfl hs0 rfl hr8 (pc' := 30) rfl ?_
  refine st_aload (pc' := 31) rfl rfl rfl ?_
  refine st_getfr (x := some a1) (Or.inl rfl) rfl hs2 rfl hr3 (pc' := 34) rfl ?_
  refine st_iload (pc' := 35) rfl rfl rfl ?_
  refine st_iaload rfl hs4 hb5 (j := x3.toNatClampNeg) rfl (pc' := 36) rfl ?_
  refine st_iaload rfl hs9 hb10 (j := (h_i h a1 x3.toNatClampNeg).toNatClampNeg) rfl (pc' := 37) rfl ?_
  exact st_call (pc' := 40) (as := [.ref r2, .long (h_l h a0 (h_i h a1 x3.toNatClampNeg).toNatClampNeg), .int (h_i h a4 (h_i h a1 x3.toNatClampNeg).toNatClampNeg)]) (rest := []) rfl rfl (Nat.le_of_ble_eq_true rfl) rfl rfl (Nat.le_of_ble_eq_true rfl) (kd := 1) (o := 10) rfl rfl (beq_iff_eq.mpr hs11) k
theorem B_Sp_copyTo_40 {d : Nat} {h : PH} {Q : PQ} {r0 : Nat} {r1 : Nat} {r2 : Nat} {x3 : Int32}  (k : wpx d P_Sp_copyTo 6 [.ref r0, .ref r1, .ref r2, .int (x3 + 1)] [] h Q) : wpx d P_Sp_copyTo 40 [.ref r0, .ref r1, .ref r2, .int x3] [] h Q := by
  refine st_iinc (pc' := 43) (v := 1) (ls' := [.ref r0, .ref r1, .ref r2, .int (x3 + 1)]) rfl rfl rfl (by decide) rfl ?_
  exact st_goto rfl k
theorem B_Sp_copyTo_46 {d : Nat} {h : PH} {Q : PQ} {r0 : Nat} {r1 : Nat} {r2 : Nat} {x3 : Int32}  (k : Q none h) : wpx d P_Sp_copyTo 46 [.ref r0, .ref r1, .ref r2, .int x3] [] h Q := by
  exact st_return rfl k
theorem B_Tr_init_0 {d : Nat} {h : PH} {Q : PQ} {r0 : Nat} (hs0 : h_sh (h_new h (1, 2772) 2772) r0 = some (0, 8)) (hs1 : h_sh (h_new (w_r (h_new h (1, 2772) 2772) r0 0 (some (h_ct h))) (1, 792) 792) r0 = some (0, 8)) (hs2 : h_sh (h_new (w_r (h_new (w_r (h_new h (1, 2772) 2772) r0 0 (some (h_ct h))) (1, 792) 792) r0 1 (some (h_ct (w_r (h_new h (1, 2772) 2772) r0 0 (some (h_ct h)))))) (1, 99) 99) r0 = some (0, 8)) (k : wpx d P_Tr_init 30 [.ref r0] [] (w_r (h_new (w_r (h_new (w_r (h_new h (1, 2772) 2772) r0 0 (some (h_ct h))) (1, 792) 792) r0 1 (some (h_ct (w_r (h_new h (1, 2772) 2772) r0 0 (some (h_ct h)))))) (1, 99) 99) r0 2 (some (h_ct (w_r (h_new (w_r (h_new h (1, 2772) 2772) r0 0 (some (h_ct h))) (1, 792) 792) r0 1 (some (h_ct (w_r (h_new h (1, 2772) 2772) r0 0 (some (h_ct h))))))))) Q) : wpx d P_Tr_init 0 [.ref r0] [] h Q := by
  refine st_aload (pc' := 1) rfl rfl rfl ?_
  refine st_oinit (pc' := 4) rfl rfl (Nat.le_of_ble_eq_true rfl) ?_
  refine st_aload (pc' := 5) rfl rfl rfl ?_
  refine st_ipush (pc' := 8) (v := 2772) rfl rfl (by decide) ?_
  refine st_newI rfl (by decide) (j := 2772) (by decide) (pc' := 10) rfl ?_
  refine st_putf (h' := w_r (h_new h (1, 2772) 2772) r0 0 (some (h_ct h))) (Or.inr (Or.inr rfl)) rfl hs0 rfl rfl rfl (pc' := 13) rfl ?_
  refine st_aload (pc' := 14) rfl rfl rfl ?_
  refine st_ipush (pc' := 17) (v := 792) rfl rfl (by decide) ?_
  refine st_newI rfl (by decide) (j := 792) (by decide) (pc' := 19) rfl ?_
  refine st_putf (h' := w_r (h_new (w_r (h_new h (1, 2772) 2772) r0 0 (some (h_ct h))) (1, 792) 792) r0 1 (some (h_ct (w_r (h_new h (1, 2772) 2772) r0 0 (some (h_ct h)))))) (Or.inr (Or.inr rfl)) rfl hs1 rfl rfl rfl (pc' := 22) rfl ?_
  refine st_aload (pc' := 23) rfl rfl rfl ?_
  refine st_ipush (pc' := 25) (v := 99) rfl rfl (by decide) ?_
  refine st_newI rfl (by decide) (j := 99) (by decide) (pc' := 27) rfl ?_
  refine st_putf (h' := w_r (h_new (w_r (h_new (w_r (h_new h (1, 2772) 2772) r0 0 (some (h_ct h))) (1, 792) 792) r0 1 (some (h_ct (w_r (h_new h (1, 2772) 2772) r0 0 (some (h_ct h)))))) (1, 99) 99) r0 2 (some (h_ct (w_r (h_new (w_r (h_new h (1, 2772) 2772) r0 0 (some (h_ct h))) (1, 792) 792) r0 1 (some (h_ct (w_r (h_new h (1, 2772) 2772) r0 0 (some (h_ct h))))))))) (Or.inr (Or.inr rfl)) rfl hs2 rfl rfl rfl (pc' := 30) rfl ?_
  exact k
theorem B_Tr_init_30 {d : Nat} {h : PH} {Q : PQ} {r0 : Nat} (hs0 : h_sh (h_new h (3, 99) 99) r0 = some (0, 8)) (hs1 : h_sh (h_new (w_r (h_new h (3, 99) 99) r0 3 (some (h_ct h))) (3, 99) 99) r0 = some (0, 8)) (hs2 : h_sh (h_new (w_r (h_new (w_r (h_new h (3, 99) 99) r0 3 (some (h_ct h))) (3, 99) 99) r0 4 (some (h_ct (w_r (h_new h (3, 99) 99) r0 3 (some (h_ct h)))))) (1, 99) 99) r0 = some (0, 8)) (k : wpx d P_Tr_init 54 [.ref r0] [] (w_r (h_new (w_r (h_new (w_r (h_new h (3, 99) 99) r0 3 (some (h_ct h))) (3, 99) 99) r0 4 (some (h_ct (w_r (h_new h (3, 99) 99) r0 3 (some (h_ct h)))))) (1, 99) 99) r0 5 (some (h_ct (w_r (h_new (w_r (h_new h (3, 99) 99) r0 3 (some (h_ct h))) (3, 99) 99) r0 4 (some (h_ct (w_r (h_new h (3, 99) 99) r0 3 (some (h_ct h))))))))) Q) : wpx d P_Tr_init 30 [.ref r0] [] h Q := by
  refine st_aload (pc' := 31) rfl rfl rfl ?_
  refine st_ipush (pc' := 33) (v := 99) rfl rfl (by decide) ?_
  refine st_newZ rfl (by decide) (j := 99) (by decide) (pc' := 35) rfl ?_
  refine st_putf (h' := w_r (h_new h (3, 99) 99) r0 3 (some (h_ct h))) (Or.inr (Or.inr rfl)) rfl hs0 rfl rfl rfl (pc' := 38) rfl ?_
  refine st_aload (pc' := 39) rfl rfl rfl ?_
  refine st_ipush (pc' := 41) (v := 99) rfl rfl (by decide) ?_
  refine st_newZ rfl (by decide) (j := 99) (by decide) (pc' := 43) rfl ?_
  refine st_putf (h' := w_r (h_new (w_r (h_new h (3, 99) 99) r0 3 (some (h_ct h))) (3, 99) 99) r0 4 (some (h_ct (w_r (h_new h (3, 99) 99) r0 3 (some (h_ct h)))))) (Or.inr (Or.inr rfl)) rfl hs1 rfl rfl rfl (pc' := 46) rfl ?_
  refine st_aload (pc' := 47) rfl rfl rfl ?_
  refine st_ipush (pc' := 49) (v := 99) rfl rfl (by decide) ?_
  refine st_newI rfl (by decide) (j := 99) (by decide) (pc' := 51) rfl ?_
  refine st_putf (h' := w_r (h_new (w_r (h_new (w_r (h_new h (3, 99) 99) r0 3 (some (h_ct h))) (3, 99) 99) r0 4 (some (h_ct (w_r (h_new h (3, 99) 99) r0 3 (some (h_ct h)))))) (1, 99) 99) r0 5 (some (h_ct (w_r (h_new (w_r (h_new h (3, 99) 99) r0 3 (some (h_ct h))) (3, 99) 99) r0 4 (some (h_ct (w_r (h_new h (3, 99) 99) r0 3 (some (h_ct h))))))))) (Or.inr (Or.inr rfl)) rfl hs2 rfl rfl rfl (pc' := 54) rfl ?_
  exact k
theorem B_Tr_init_54 {d : Nat} {h : PH} {Q : PQ} {r0 : Nat} (hs0 : h_sh (h_new h (1, 99) 99) r0 = some (0, 8)) (hs1 : h_sh (h_new (w_r (h_new h (1, 99) 99) r0 6 (some (h_ct h))) (1, 99) 99) r0 = some (0, 8)) (hs2 : h_sh (h_new (w_r (h_new (w_r (h_new h (1, 99) 99) r0 6 (some (h_ct h))) (1, 99) 99) r0 7 (some (h_ct (w_r (h_new h (1, 99) 99) r0 6 (some (h_ct h)))))) (1, 29) 29) r0 = some (0, 8)) (k : wpx d P_Tr_init 78 [.ref r0] [] (w_r (h_new (w_r (h_new (w_r (h_new h (1, 99) 99) r0 6 (some (h_ct h))) (1, 99) 99) r0 7 (some (h_ct (w_r (h_new h (1, 99) 99) r0 6 (some (h_ct h)))))) (1, 29) 29) r0 8 (some (h_ct (w_r (h_new (w_r (h_new h (1, 99) 99) r0 6 (some (h_ct h))) (1, 99) 99) r0 7 (some (h_ct (w_r (h_new h (1, 99) 99) r0 6 (some (h_ct h))))))))) Q) : wpx d P_Tr_init 54 [.ref r0] [] h Q := by
  refine st_aload (pc' := 55) rfl rfl rfl ?_
  refine st_ipush (pc' := 57) (v := 99) rfl rfl (by decide) ?_
  refine st_newI rfl (by decide) (j := 99) (by decide) (pc' := 59) rfl ?_
  refine st_putf (h' := w_r (h_new h (1, 99) 99) r0 6 (some (h_ct h))) (Or.inr (Or.inr rfl)) rfl hs0 rfl rfl rfl (pc' := 62) rfl ?_
  refine st_aload (pc' := 63) rfl rfl rfl ?_
  refine st_ipush (pc' := 65) (v := 99) rfl rfl (by decide) ?_
  refine st_newI rfl (by decide) (j := 99) (by decide) (pc' := 67) rfl ?_
  refine st_putf (h' := w_r (h_new (w_r (h_new h (1, 99) 99) r0 6 (some (h_ct h))) (1, 99) 99) r0 7 (some (h_ct (w_r (h_new h (1, 99) 99) r0 6 (some (h_ct h)))))) (Or.inr (Or.inr rfl)) rfl hs1 rfl rfl rfl (pc' := 70) rfl ?_
  refine st_aload (pc' := 71) rfl rfl rfl ?_
  refine st_ipush (pc' := 73) (v := 29) rfl rfl (by decide) ?_
  refine st_newI rfl (by decide) (j := 29) (by decide) (pc' := 75) rfl ?_
  refine st_putf (h' := w_r (h_new (w_r (h_new (w_r (h_new h (1, 99) 99) r0 6 (some (h_ct h))) (1, 99) 99) r0 7 (some (h_ct (w_r (h_new h (1, 99) 99) r0 6 (some (h_ct h)))))) (1, 29) 29) r0 8 (some (h_ct (w_r (h_new (w_r (h_new h (1, 99) 99) r0 6 (some (h_ct h))) (1, 99) 99) r0 7 (some (h_ct (w_r (h_new h (1, 99) 99) r0 6 (some (h_ct h))))))))) (Or.inr (Or.inr rfl)) rfl hs2 rfl rfl rfl (pc' := 78) rfl ?_
  exact k
theorem B_Tr_init_78 {d : Nat} {h : PH} {Q : PQ} {r0 : Nat} (hs0 : h_sh h r0 = some (0, 8)) (k : Q none (w_i h r0 10 (-1))) : wpx d P_Tr_init 78 [.ref r0] [] h Q := by
  refine st_aload (pc' := 79) rfl rfl rfl ?_
  refine st_ipush (pc' := 80) (v := (-1)) rfl rfl (by decide) ?_
  refine st_putf (h' := w_i h r0 10 (-1)) (Or.inl rfl) rfl hs0 rfl rfl rfl (pc' := 83) rfl ?_
  exact st_return rfl k
theorem B_Tr_build_0 {d : Nat} {h : PH} {Q : PQ} {r0 : Nat} {r1 : Nat} {v2 : Value} {a0 : Nat} (hs0 : h_sh h r1 = some (0, 3)) (hs1 : h_sh h r0 = some (0, 8)) (hr2 : h_r h r0 0 = some a0) (k : wpm d 283 [.ref a0, .int (-1)] (w_i h r0 10 (h_i h r1 6)) (fun r h' => wpx d P_Tr_build 16 [.ref r0, .ref r1, v2] (r.toList ++ []) h' Q)) : wpx d P_Tr_build 0 [.ref r0, .ref r1, v2] [] h Q := by
  refine st_aload (pc' := 1) rfl rfl rfl ?_
  refine st_aload (pc' := 2) rfl rfl rfl ?_
  refine st_getfi (Or.inr rfl) rfl hs0 rfl (pc' := 5) rfl ?_
  refine st_putf (h' := w_i h r0 10 (h_i h r1 6)) (Or.inl rfl) rfl hs1 rfl rfl rfl (pc' := 8) rfl ?_
  refine st_aload (pc' := 9) rfl rfl rfl ?_
  refine st_getfr (x := some a0) (Or.inl rfl) rfl hs1 rfl hr2 (pc' := 12) rfl ?_
  refine st_ipush (pc' := 13) (v := (-1)) rfl rfl (by decide) ?_
  exact st_call (pc' := 16) (as := [.ref a0, .int (-1)]) (rest := []) rfl rfl (Nat.le_of_ble_eq_true rfl) rfl rfl (Nat.le_of_ble_eq_true rfl) (kd := 0) (o := 16) rfl rfl rfl k
theorem B_Tr_build_16 {d : Nat} {h : PH} {Q : PQ} {r0 : Nat} {r1 : Nat} {v2 : Value} {a0 : Nat} (hs0 : h_sh h r0 = some (0, 8)) (hr1 : h_r h r0 1 = some a0) (k : wpm d 283 [.ref a0, .int (-1)] h (fun r h' => wpx d P_Tr_build 24 [.ref r0, .ref r1, v2] (r.toList ++ []) h' Q)) : wpx d P_Tr_build 16 [.ref r0, .ref r1, v2] [] h Q := by
  refine st_aload (pc' := 17) rfl rfl rfl ?_
  refine st_getfr (x := some a0) (Or.inl rfl) rfl hs0 rfl hr1 (pc' := 20) rfl ?_
  refine st_ipush (pc' := 21) (v := (-1)) rfl rfl (by decide) ?_
  exact st_call (pc' := 24) (as := [.ref a0, .int (-1)]) (rest := []) rfl rfl (Nat.le_of_ble_eq_true rfl) rfl rfl (Nat.le_of_ble_eq_true rfl) (kd := 0) (o := 16) rfl rfl rfl k
theorem B_Tr_build_24 {d : Nat} {h : PH} {Q : PQ} {r0 : Nat} {r1 : Nat} {v2 : Value} {a0 : Nat} (hs0 : h_sh h r0 = some (0, 8)) (hr1 : h_r h r0 3 = some a0) (k : wpm d 161 [.ref a0, .int 99] h (fun r h' => wpx d P_Tr_build 33 [.ref r0, .ref r1, v2] (r.toList ++ []) h' Q)) : wpx d P_Tr_build 24 [.ref r0, .ref r1, v2] [] h Q := by
  refine st_aload (pc' := 25) rfl rfl rfl ?_
  refine st_getfr (x := some a0) (Or.inl rfl) rfl hs0 rfl hr1 (pc' := 28) rfl ?_
  refine st_ipush (pc' := 30) (v := 99) rfl rfl (by decide) ?_
  exact st_call (pc' := 33) (as := [.ref a0, .int 99]) (rest := []) rfl rfl (Nat.le_of_ble_eq_true rfl) rfl rfl (Nat.le_of_ble_eq_true rfl) (kd := 0) (o := 11) rfl rfl rfl k
theorem B_Tr_build_33 {d : Nat} {h : PH} {Q : PQ} {r0 : Nat} {r1 : Nat} {v2 : Value} {a0 : Nat} (hs0 : h_sh h r0 = some (0, 8)) (hr1 : h_r h r0 4 = some a0) (k : wpm d 161 [.ref a0, .int 99] h (fun r h' => wpx d P_Tr_build 42 [.ref r0, .ref r1, v2] (r.toList ++ []) h' Q)) : wpx d P_Tr_build 33 [.ref r0, .ref r1, v2] [] h Q := by
  refine st_aload (pc' := 34) rfl rfl rfl ?_
  refine st_getfr (x := some a0) (Or.inl rfl) rfl hs0 rfl hr1 (pc' := 37) rfl ?_
  refine st_ipush (pc' := 39) (v := 99) rfl rfl (by decide) ?_
  exact st_call (pc' := 42) (as := [.ref a0, .int 99]) (rest := []) rfl rfl (Nat.le_of_ble_eq_true rfl) rfl rfl (Nat.le_of_ble_eq_true rfl) (kd := 0) (o := 11) rfl rfl rfl k
theorem B_Tr_build_42 {d : Nat} {h : PH} {Q : PQ} {r0 : Nat} {r1 : Nat} {v2 : Value} {a0 : Nat} {n1 : Nat} (hs0 : h_sh h r0 = some (0, 8)) (hr1 : h_r h r0 1 = some a0) (hs2 : h_sh h a0 = some (1, n1)) (hb3 : vp_in 0 n1) (k : wpx d P_Tr_build 56 [.ref r0, .ref r1, .int 0] [] (w_i (w_i h r0 9 1) a0 0 0) Q) : wpx d P_Tr_build 42 [.ref r0, .ref r1, v2] [] h Q := by
  refine st_aload (pc' := 43) rfl rfl rfl ?_
  refine st_ipush (pc' := 44) (v := 1) rfl rfl (by decide) ?_
  refine st_putf (h' := w_i h r0 9 1) (Or.inl rfl) rfl hs0 rfl rfl rfl (pc' := 47) rfl ?_
  refine st_aload (pc' := 48) rfl rfl rfl ?_
  refine st_getfr (x := some a0) (Or.inl rfl) rfl hs0 rfl hr1 (pc' := 51) rfl ?_
  refine st_ipush (pc' := 52) (v := 0) rfl rfl (by decide) ?_
  refine st_ipush (pc' := 53) (v := 0) rfl rfl (by decide) ?_
  refine st_iastore rfl hs2 hb3 (j := 0) (by decide) (pc' := 54) rfl ?_
  refine st_ipush (pc' := 55) (v := 0) rfl rfl (by decide) ?_
  refine st_istore (pc' := 56) (ls' := [.ref r0, .ref r1, .int 0]) rfl rfl (Nat.le_of_ble_eq_true rfl) rfl ?_
  exact k
theorem B_Tr_build_56 {d : Nat} {h : PH} {Q : PQ} {r0 : Nat} {r1 : Nat} {x2 : Int32} (hs0 : h_sh h r1 = some (0, 3)) (kt : (h_i h r1 3) ≤ x2 → wpx d P_Tr_build 94 [.ref r0, .ref r1, .int x2] [] h Q) (kf : ¬ ((h_i h r1 3) ≤ x2) → wpx d P_Tr_build 64 [.ref r0, .ref r1, .int x2] [] h Q) : wpx d P_Tr_build 56 [.ref r0, .ref r1, .int x2] [] h Q := by
  refine st_iload (pc' := 57) rfl rfl rfl ?_
  refine st_aload (pc' := 58) rfl rfl rfl ?_
  refine st_getfi (Or.inr rfl) rfl hs0 rfl (pc' := 61) rfl ?_
  exact st_icmp_ge (pc' := 64) rfl rfl kt kf
theorem B_Tr_build_64 {d : Nat} {h : PH} {Q : PQ} {r0 : Nat} {r1 : Nat} {x2 : Int32} (hs0 : h_sh h r1 = some (0, 3)) (k : wpm d 35 [.ref r1, .int x2] h (fun r h' => wpx d P_Tr_build 69 [.ref r0, .ref r1, .int x2] (r.toList ++ []) h' Q)) : wpx d P_Tr_build 64 [.ref r0, .ref r1, .int x2] [] h Q := by
  refine st_aload (pc' := 65) rfl rfl rfl ?_
  refine st_iload (pc' := 66) rfl rfl rfl ?_
  exact st_call (pc' := 69) (as := [.ref r1, .int x2]) (rest := []) rfl rfl (Nat.le_of_ble_eq_true rfl) rfl rfl (Nat.le_of_ble_eq_true rfl) (kd := 1) (o := 3) rfl rfl (beq_iff_eq.mpr hs0) k
theorem B_Tr_build_69 {d : Nat} {h : PH} {Q : PQ} {r0 : Nat} {r1 : Nat} {x2 : Int32} {s0 : Int32}  (kt : s0 = 0 → wpx d P_Tr_build 88 [.ref r0, .ref r1, .int x2] [] h Q) (kf : ¬ (s0 = 0) → wpx d P_Tr_build 72 [.ref r0, .ref r1, .int x2] [] h Q) : wpx d P_Tr_build 69 [.ref r0, .ref r1, .int x2] [.int s0] h Q := by
  exact st_if_eq (pc' := 72) rfl rfl kt kf
theorem B_Tr_build_72 {d : Nat} {h : PH} {Q : PQ} {r0 : Nat} {r1 : Nat} {x2 : Int32} {a0 : Nat} {n1 : Nat} {a2 : Nat} {n3 : Nat} (hs0 : h_sh h r1 = some (0, 3)) (hr1 : h_r h r1 0 = some a0) (hs2 : h_sh h a0 = some (4, n1)) (hb3 : vp_in x2 n1) (hr4 : h_r h r1 1 = some a2) (hs5 : h_sh h a2 = some (1, n3)) (hb6 : vp_in x2 n3) (hs7 : h_sh h r0 = some (0, 8)) (k : wpm d 93 [.ref r0, .long (h_l h a0 x2.toNatClampNeg), .int (h_i h a2 x2.toNatClampNeg)] h (fun r h' => wpx d P_Tr_build 88 [.ref r0, .ref r1, .int x2] (r.toList ++ []) h' Q)) : wpx d P_Tr_build 72 [.ref r0, .ref r1, .int x2] [] h Q := by
  refine st_aload (pc' := 73) rfl rfl rfl ?_
  refine st_aload (pc' := 74) rfl rfl rfl ?_
  refine st_getfr (x := some a0) (Or.inr rfl) rfl hs0 rfl hr1 (pc' := 77) rfl ?_
  refine st_iload (pc' := 78) rfl rfl rfl ?_
  refine st_laload rfl hs2 hb3 (j := x2.toNatClampNeg) rfl (pc' := 79) rfl ?_
  refine st_aload (pc' := 80) rfl rfl rfl ?_
  refine st_getfr (x := some a2) (Or.inr rfl) rfl hs0 rfl hr4 (pc' := 83) rfl ?_
  refine st_iload (pc' := 84) rfl rfl rfl ?_
  refine st_iaload rfl hs5 hb6 (j := x2.toNatClampNeg) rfl (pc' := 85) rfl ?_
  exact st_call (pc' := 88) (as := [.ref r0, .long (h_l h a0 x2.toNatClampNeg), .int (h_i h a2 x2.toNatClampNeg)]) (rest := []) rfl rfl (Nat.le_of_ble_eq_true rfl) rfl rfl (Nat.le_of_ble_eq_true rfl) (kd := 1) (o := 8) rfl rfl (beq_iff_eq.mpr hs7) k
theorem B_Tr_build_88 {d : Nat} {h : PH} {Q : PQ} {r0 : Nat} {r1 : Nat} {x2 : Int32}  (k : wpx d P_Tr_build 56 [.ref r0, .ref r1, .int (x2 + 1)] [] h Q) : wpx d P_Tr_build 88 [.ref r0, .ref r1, .int x2] [] h Q := by
  refine st_iinc (pc' := 91) (v := 1) (ls' := [.ref r0, .ref r1, .int (x2 + 1)]) rfl rfl rfl (by decide) rfl ?_
  exact st_goto rfl k
theorem B_Tr_build_94 {d : Nat} {h : PH} {Q : PQ} {r0 : Nat} {r1 : Nat} {x2 : Int32}  (k : wpx d P_Tr_build 96 [.ref r0, .ref r1, .int 1] [] h Q) : wpx d P_Tr_build 94 [.ref r0, .ref r1, .int x2] [] h Q := by
  refine st_ipush (pc' := 95) (v := 1) rfl rfl (by decide) ?_
  refine st_istore (pc' := 96) (ls' := [.ref r0, .ref r1, .int 1]) rfl rfl (Nat.le_of_ble_eq_true rfl) rfl ?_
  exact k
theorem B_Tr_build_96 {d : Nat} {h : PH} {Q : PQ} {r0 : Nat} {r1 : Nat} {x2 : Int32} (hs0 : h_sh h r0 = some (0, 8)) (kt : (h_i h r0 9) ≤ x2 → wpx d P_Tr_build 115 [.ref r0, .ref r1, .int x2] [] h Q) (kf : ¬ ((h_i h r0 9) ≤ x2) → wpx d P_Tr_build 104 [.ref r0, .ref r1, .int x2] [] h Q) : wpx d P_Tr_build 96 [.ref r0, .ref r1, .int x2] [] h Q := by
  refine st_iload (pc' := 97) rfl rfl rfl ?_
  refine st_aload (pc' := 98) rfl rfl rfl ?_
  refine st_getfi (Or.inl rfl) rfl hs0 rfl (pc' := 101) rfl ?_
  exact st_icmp_ge (pc' := 104) rfl rfl kt kf
theorem B_Tr_build_104 {d : Nat} {h : PH} {Q : PQ} {r0 : Nat} {r1 : Nat} {x2 : Int32} (hs0 : h_sh h r0 = some (0, 8)) (k : wpm d 94 [.ref r0, .int x2] h (fun r h' => wpx d P_Tr_build 109 [.ref r0, .ref r1, .int x2] (r.toList ++ []) h' Q)) : wpx d P_Tr_build 104 [.ref r0, .ref r1, .int x2] [] h Q := by
  refine st_aload (pc' := 105) rfl rfl rfl ?_
  refine st_iload (pc' := 106) rfl rfl rfl ?_
  exact st_call (pc' := 109) (as := [.ref r0, .int x2]) (rest := []) rfl rfl (Nat.le_of_ble_eq_true rfl) rfl rfl (Nat.le_of_ble_eq_true rfl) (kd := 1) (o := 8) rfl rfl (beq_iff_eq.mpr hs0) k
theorem B_Tr_build_109 {d : Nat} {h : PH} {Q : PQ} {r0 : Nat} {r1 : Nat} {x2 : Int32}  (k : wpx d P_Tr_build 96 [.ref r0, .ref r1, .int (x2 + 1)] [] h Q) : wpx d P_Tr_build 109 [.ref r0, .ref r1, .int x2] [] h Q := by
  refine st_iinc (pc' := 112) (v := 1) (ls' := [.ref r0, .ref r1, .int (x2 + 1)]) rfl rfl rfl (by decide) rfl ?_
  exact st_goto rfl k
theorem B_Tr_build_115 {d : Nat} {h : PH} {Q : PQ} {r0 : Nat} {r1 : Nat} {x2 : Int32} (hs0 : h_sh h r0 = some (0, 8)) (k : wpm d 95 [.ref r0] h (fun r h' => wpx d P_Tr_build 119 [.ref r0, .ref r1, .int x2] (r.toList ++ []) h' Q)) : wpx d P_Tr_build 115 [.ref r0, .ref r1, .int x2] [] h Q := by
  refine st_aload (pc' := 116) rfl rfl rfl ?_
  exact st_call (pc' := 119) (as := [.ref r0]) (rest := []) rfl rfl (Nat.le_of_ble_eq_true rfl) rfl rfl (Nat.le_of_ble_eq_true rfl) (kd := 1) (o := 8) rfl rfl (beq_iff_eq.mpr hs0) k
theorem B_Tr_build_119 {d : Nat} {h : PH} {Q : PQ} {r0 : Nat} {r1 : Nat} {x2 : Int32}  (k : Q none h) : wpx d P_Tr_build 119 [.ref r0, .ref r1, .int x2] [] h Q := by
  exact st_return rfl k
theorem B_Tr_plant_0 {d : Nat} {h : PH} {Q : PQ} {r0 : Nat} {l1 : Int64} {x3 : Int32} {v4 : Value} {v5 : Value} {v6 : Value} {v7 : Value}  (k : wpx d P_Tr_plant 6 [.ref r0, .long l1, .retAddr 2, .int x3, .int 0, .int 0, v6, v7] [] h Q) : wpx d P_Tr_plant 0 [.ref r0, .long l1, .retAddr 2, .int x3, v4, v5, v6, v7] [] h Q := by
  refine st_ipush (pc' := 1) (v := 0) rfl rfl (by decide) ?_
  refine st_istore (pc' := 3) (ls' := [.ref r0, .long l1, .retAddr 2, .int x3, .int 0, v5, v6, v7]) rfl rfl (Nat.le_of_ble_eq_true rfl) rfl ?_
  refine st_ipush (pc' := 4) (v := 0) rfl rfl (by decide) ?_
  refine st_istore (pc' := 6) (ls' := [.ref r0, .long l1, .retAddr 2, .int x3, .int 0, .int 0, v6, v7]) rfl rfl (Nat.le_of_ble_eq_true rfl) rfl ?_
  exact k
theorem B_Tr_plant_6 {d : Nat} {h : PH} {Q : PQ} {r0 : Nat} {l1 : Int64} {x3 : Int32} {x4 : Int32} {x5 : Int32} {v6 : Value} {v7 : Value}  (kt : x3 ≤ x5 → wpx d P_Tr_plant 141 [.ref r0, .long l1, .retAddr 2, .int x3, .int x4, .int x5, v6, v7] [] h Q) (kf : ¬ (x3 ≤ x5) → wpx d P_Tr_plant 12 [.ref r0, .long l1, .retAddr 2, .int x3, .int x4, .int x5, v6, v7] [] h Q) : wpx d P_Tr_plant 6 [.ref r0, .long l1, .retAddr 2, .int x3, .int x4, .int x5, v6, v7] [] h Q := by
  refine st_iload (pc' := 8) rfl rfl rfl ?_
  refine st_iload (pc' := 9) rfl rfl rfl ?_
  exact st_icmp_ge (pc' := 12) rfl rfl kt kf
theorem B_Tr_plant_12 {d : Nat} {h : PH} {Q : PQ} {r0 : Nat} {l1 : Int64} {x3 : Int32} {x4 : Int32} {x5 : Int32} {v6 : Value} {v7 : Value}  (k : wpm d 165 [.long l1, .int x3, .int x5] h (fun r h' => wpx d P_Tr_plant 19 [.ref r0, .long l1, .retAddr 2, .int x3, .int x4, .int x5, v6, v7] (r.toList ++ []) h' Q)) : wpx d P_Tr_plant 12 [.ref r0, .long l1, .retAddr 2, .int x3, .int x4, .int x5, v6, v7] [] h Q := by
  refine st_lload (pc' := 13) rfl rfl rfl rfl ?_
  refine st_iload (pc' := 14) rfl rfl rfl ?_
  refine st_iload (pc' := 16) rfl rfl rfl ?_
  exact st_call (pc' := 19) (as := [.long l1, .int x3, .int x5]) (rest := []) rfl rfl (Nat.le_of_ble_eq_true rfl) rfl rfl (Nat.le_of_ble_eq_true rfl) (kd := 0) (o := 11) rfl rfl rfl k
theorem B_Tr_plant_19 {d : Nat} {h : PH} {Q : PQ} {r0 : Nat} {l1 : Int64} {x3 : Int32} {x4 : Int32} {x5 : Int32} {v6 : Value} {v7 : Value} {s0 : Int32} {a0 : Nat} {n1 : Nat} {a2 : Nat} {n3 : Nat} (hs0 : h_sh h r0 = some (0, 8)) (hr1 : h_r h r0 4 = some a0) (hs2 : h_sh h a0 = some (3, n1)) (hb3 : vp_in x4 n1) (hr4 : h_r h r0 0 = some a2) (hs5 : h_sh h a2 = some (1, n3)) (hb6 : vp_in ((x4 * (28 : Int32)) + s0) n3) (kt : ¬ ((h_i (w_i h a0 x4.toNatClampNeg ((1 : Int32) &&& 1)) a2 ((x4 * (28 : Int32)) + s0).toNatClampNeg) = ((-1) : Int32)) → wpx d P_Tr_plant 124 [.ref r0, .long l1, .retAddr 2, .int x3, .int x4, .int x5, .int s0, .int (h_i (w_i h a0 x4.toNatClampNeg ((1 : Int32) &&& 1)) a2 ((x4 * (28 : Int32)) + s0).toNatClampNeg)] [] (w_i h a0 x4.toNatClampNeg ((1 : Int32) &&& 1)) Q) (kf : (h_i (w_i h a0 x4.toNatClampNeg ((1 : Int32) &&& 1)) a2 ((x4 * (28 : Int32)) + s0).toNatClampNeg) = ((-1) : Int32) → wpx d P_Tr_plant 50 [.ref r0, .long l1, .retAddr 2, .int x3, .int x4, .int x5, .int s0, .int (h_i (w_i h a0 x4.toNatClampNeg ((1 : Int32) &&& 1)) a2 ((x4 * (28 : Int32)) + s0).toNatClampNeg)] [] (w_i h a0 x4.toNatClampNeg ((1 : Int32) &&& 1)) Q) : wpx d P_Tr_plant 19 [.ref r0, .long l1, .retAddr 2, .int x3, .int x4, .int x5, v6, v7] [.int s0] h Q := by
  refine st_istore (pc' := 21) (ls' := [.ref r0, .long l1, .retAddr 2, .int x3, .int x4, .int x5, .int s0, v7]) rfl rfl (Nat.le_of_ble_eq_true rfl) rfl ?_
  refine st_aload (pc' := 22) rfl rfl rfl ?_
  refine st_getfr (x := some a0) (Or.inl rfl) rfl hs0 rfl hr1 (pc' := 25) rfl ?_
  refine st_iload (pc' := 27) rfl rfl rfl ?_
  refine st_ipush (pc' := 28) (v := 1) rfl rfl (by decide) ?_
  refine st_zastore rfl hs2 hb3 (j := x4.toNatClampNeg) rfl (pc' := 29) rfl ?_
  refine st_aload (pc' := 30) rfl rfl rfl ?_
  refine st_getfr (x := some a2) (Or.inl rfl) rfl hs0 rfl hr4 (pc' := 33) rfl ?_
  refine st_iload (pc' := 35) rfl rfl rfl ?_
  refine st_ipush (pc' := 37) (v := 28) rfl rfl (by decide) ?_
  refine st_imul (pc' := 38) rfl rfl ?_
  refine st_iload (pc' := 40) rfl rfl rfl ?_
  refine st_iadd (pc' := 41) rfl rfl ?_
  refine st_iaload rfl hs5 hb6 (j := ((x4 * (28 : Int32)) + s0).toNatClampNeg) rfl (pc' := 42) rfl ?_
  refine st_istore (pc' := 44) (ls' := [.ref r0, .long l1, .retAddr 2, .int x3, .int x4, .int x5, .int s0, .int (h_i (w_i h a0 x4.toNatClampNeg ((1 : Int32) &&& 1)) a2 ((x4 * (28 : Int32)) + s0).toNatClampNeg)]) rfl rfl (Nat.le_of_ble_eq_true rfl) rfl ?_
  refine st_iload (pc' := 46) rfl rfl rfl ?_
  refine st_ipush (pc' := 47) (v := (-1)) rfl rfl (by decide) ?_
  exact st_icmp_ne (pc' := 50) rfl rfl kt kf
theorem B_Tr_plant_50 {d : Nat} {h : PH} {Q : PQ} {r0 : Nat} {l1 : Int64} {x3 : Int32} {x4 : Int32} {x5 : Int32} {x6 : Int32} {x7 : Int32} (hs0 : h_sh h r0 = some (0, 8)) (kt : (99 : Int32) ≤ (h_i h r0 9) → wpx d P_Tr_plant 124 [.ref r0, .long l1, .retAddr 2, .int x3, .int x4, .int x5, .int x6, .int x7] [] h Q) (kf : ¬ ((99 : Int32) ≤ (h_i h r0 9)) → wpx d P_Tr_plant 59 [.ref r0, .long l1, .retAddr 2, .int x3, .int x4, .int x5, .int x6, .int x7] [] h Q) : wpx d P_Tr_plant 50 [.ref r0, .long l1, .retAddr 2, .int x3, .int x4, .int x5, .int x6, .int x7] [] h Q := by
  refine st_aload (pc' := 51) rfl rfl rfl ?_
  refine st_getfi (Or.inl rfl) rfl hs0 rfl (pc' := 54) rfl ?_
  refine st_ipush (pc' := 56) (v := 99) rfl rfl (by decide) ?_
  exact st_icmp_ge (pc' := 59) rfl rfl kt kf
theorem B_Tr_plant_59 {d : Nat} {h : PH} {Q : PQ} {r0 : Nat} {l1 : Int64} {x3 : Int32} {x4 : Int32} {x5 : Int32} {x6 : Int32} {x7 : Int32} {a0 : Nat} {n1 : Nat} {a2 : Nat} {n3 : Nat} (hs0 : h_sh h r0 = some (0, 8)) (hr1 : h_r h r0 0 = some a0) (hs2 : h_sh h a0 = some (1, n1)) (hb3 : vp_in ((x4 * (28 : Int32)) + x6) n1) (hr4 : h_r h r0 2 = some a2) (hs5 : h_sh h a2 = some (1, n3)) (hb6 : vp_in x4 n3) (hb7 : vp_in (h_i h r0 9) n3) (k : wpx d P_Tr_plant 106 [.ref r0, .long l1, .retAddr 2, .int x3, .int x4, .int x5, .int x6, .int (h_i h r0 9)] [] (w_i (w_i (w_i h r0 9 ((h_i h r0 9) + (1 : Int32))) a0 (((x4 * (28 : Int32)) + x6).toNatClampNeg) (h_i h r0 9)) a2 ((h_i h r0 9).toNatClampNeg) ((h_i (w_i (w_i h r0 9 ((h_i h r0 9) + (1 : Int32))) a0 (((x4 * (28 : Int32)) + x6).toNatClampNeg) (h_i h r0 9)) a2 x4.toNatClampNeg) + (1 : Int32))) Q) : wpx d P_Tr_plant 59 [.ref r0, .long l1, .retAddr 2, .int x3, .int x4, .int x5, .int x6, .int x7] [] h Q := by
  refine st_aload (pc' := 60) rfl rfl rfl ?_
  refine st_getfi (Or.inl rfl) rfl hs0 rfl (pc' := 63) rfl ?_
  refine st_istore (pc' := 65) (ls' := [.ref r0, .long l1, .retAddr 2, .int x3, .int x4, .int x5, .int x6, .int (h_i h r0 9)]) rfl rfl (Nat.le_of_ble_eq_true rfl) rfl ?_
  refine st_aload (pc' := 66) rfl rfl rfl ?_
  refine st_dup (pc' := 67) rfl rfl rfl ?_
  refine st_getfi (Or.inl rfl) rfl hs0 rfl (pc' := 70) rfl ?_
  refine st_ipush (pc' := 71) (v := 1) rfl rfl (by decide) ?_
  refine st_iadd (pc' := 72) rfl rfl ?_
  refine st_putf (h' := w_i h r0 9 ((h_i h r0 9) + (1 : Int32))) (Or.inl rfl) rfl hs0 rfl rfl rfl (pc' := 75) rfl ?_
  refine st_aload (pc' := 76) rfl rfl rfl ?_
  refine st_getfr (x := some a0) (Or.inl rfl) rfl hs0 rfl hr1 (pc' := 79) rfl ?_
  refine st_iload (pc' := 81) rfl rfl rfl ?_
  refine st_ipush (pc' := 83) (v := 28) rfl rfl (by decide) ?_
  refine st_imul (pc' := 84) rfl rfl ?_
  refine st_iload (pc' := 86) rfl rfl rfl ?_
  refine st_iadd (pc' := 87) rfl rfl ?_
  refine st_iload (pc' := 89) rfl rfl rfl ?_
  refine st_iastore rfl hs2 hb3 (j := ((x4 * (28 : Int32)) + x6).toNatClampNeg) rfl (pc' := 90) rfl ?_
  refine st_aload (pc' := 91) rfl rfl rfl ?_
  refine st_getfr (x := some a2) (Or.inl rfl) rfl hs0 rfl hr4 (pc' := 94) rfl ?_
  refine st_iload (pc' := 96) rfl rfl rfl ?_
  refine st_aload (pc' := 97) rfl rfl rfl ?_
  refine st_getfr (x := some a2) (Or.inl rfl) rfl hs0 rfl hr4 (pc' := 100) rfl ?_
  refine st_iload (pc' := 102) rfl rfl rfl ?_
  refine st_iaload rfl hs5 hb6 (j := x4.toNatClampNeg) rfl (pc' := 103) rfl ?_
  refine st_ipush (pc' := 104) (v := 1) rfl rfl (by decide) ?_
  refine st_iadd (pc' := 105) rfl rfl ?_
  refine st_iastore rfl hs5 hb7 (j := (h_i h r0 9).toNatClampNeg) rfl (pc' := 106) rfl ?_
  exact k
theorem B_Tr_plant_124 {d : Nat} {h : PH} {Q : PQ} {r0 : Nat} {l1 : Int64} {x3 : Int32} {x4 : Int32} {x5 : Int32} {x6 : Int32} {x7 : Int32}  (kt : ¬ (x7 = ((-1) : Int32)) → wpx d P_Tr_plant 131 [.ref r0, .long l1, .retAddr 2, .int x3, .int x4, .int x5, .int x6, .int x7] [] h Q) (kf : x7 = ((-1) : Int32) → wpx d P_Tr_plant 130 [.ref r0, .long l1, .retAddr 2, .int x3, .int x4, .int x5, .int x6, .int x7] [] h Q) : wpx d P_Tr_plant 124 [.ref r0, .long l1, .retAddr 2, .int x3, .int x4, .int x5, .int x6, .int x7] [] h Q := by
  refine st_iload (pc' := 126) rfl rfl rfl ?_
  refine st_ipush (pc' := 127) (v := (-1)) rfl rfl (by decide) ?_
  exact st_icmp_ne (pc' := 130) rfl rfl kt kf
theorem B_Tr_plant_130 {d : Nat} {h : PH} {Q : PQ} {r0 : Nat} {l1 : Int64} {x3 : Int32} {x4 : Int32} {x5 : Int32} {x6 : Int32} {x7 : Int32}  (k : Q none h) : wpx d P_Tr_plant 130 [.ref r0, .long l1, .retAddr 2, .int x3, .int x4, .int x5, .int x6, .int x7] [] h Q := by
  exact st_return rfl k
theorem B_Tr_plant_131 {d : Nat} {h : PH} {Q : PQ} {r0 : Nat} {l1 : Int64} {x3 : Int32} {x4 : Int32} {x5 : Int32} {x6 : Int32} {x7 : Int32}  (k : wpx d P_Tr_plant 6 [.ref r0, .long l1, .retAddr 2, .int x3, .int x7, .int (x5 + 1), .int x6, .int x7] [] h Q) : wpx d P_Tr_plant 131 [.ref r0, .long l1, .retAddr 2, .int x3, .int x4, .int x5, .int x6, .int x7] [] h Q := by
  refine st_iload (pc' := 133) rfl rfl rfl ?_
  refine st_istore (pc' := 135) (ls' := [.ref r0, .long l1, .retAddr 2, .int x3, .int x7, .int x5, .int x6, .int x7]) rfl rfl (Nat.le_of_ble_eq_true rfl) rfl ?_
  refine st_iinc (pc' := 138) (v := 1) (ls' := [.ref r0, .long l1, .retAddr 2, .int x3, .int x7, .int (x5 + 1), .int x6, .int x7]) rfl rfl rfl (by decide) rfl ?_
  exact st_goto rfl k
theorem B_Tr_plant_141 {d : Nat} {h : PH} {Q : PQ} {r0 : Nat} {l1 : Int64} {x3 : Int32} {x4 : Int32} {x5 : Int32} {v6 : Value} {v7 : Value} {a0 : Nat} {n1 : Nat} (hs0 : h_sh h r0 = some (0, 8)) (hr1 : h_r h r0 3 = some a0) (hs2 : h_sh h a0 = some (3, n1)) (hb3 : vp_in x4 n1) (k : Q none (w_i h a0 x4.toNatClampNeg ((1 : Int32) &&& 1))) : wpx d P_Tr_plant 141 [.ref r0, .long l1, .retAddr 2, .int x3, .int x4, .int x5, v6, v7] [] h Q := by
  refine st_aload (pc' := 142) rfl rfl rfl ?_
  refine st_getfr (x := some a0) (Or.inl rfl) rfl hs0 rfl hr1 (pc' := 145) rfl ?_
  refine st_iload (pc' := 147) rfl rfl rfl ?_
  refine st_ipush (pc' := 148) (v := 1) rfl rfl (by decide) ?_
  refine st_zastore rfl hs2 hb3 (j := x4.toNatClampNeg) rfl (pc' := 149) rfl ?_
  exact st_return rfl k
theorem B_Tr_plant_106 {d : Nat} {h : PH} {Q : PQ} {r0 : Nat} {l1 : Int64} {x3 : Int32} {x4 : Int32} {x5 : Int32} {x6 : Int32} {x7 : Int32} {a0 : Nat} {n1 : Nat} {a2 : Nat} {n3 : Nat} (hs0 : h_sh h r0 = some (0, 8)) (hr1 : h_r h r0 5 = some a0) (hs2 : h_sh h a0 = some (1, n1)) (hb3 : vp_in x7 n1) (hr4 : h_r h r0 6 = some a2) (hs5 : h_sh h a2 = some (1, n3)) (hb6 : vp_in x7 n3) (k : wpx d P_Tr_plant 124 [.ref r0, .long l1, .retAddr 2, .int x3, .int x4, .int x5, .int x6, .int x7] [] (w_i (w_i h a0 x7.toNatClampNeg x4) a2 x7.toNatClampNeg x6) Q) : wpx d P_Tr_plant 106 [.ref r0, .long l1, .retAddr 2, .int x3, .int x4, .int x5, .int x6, .int x7] [] h Q := by
  refine st_aload (pc' := 107) rfl rfl rfl ?_
  refine st_getfr (x := some a0) (Or.inl rfl) rfl hs0 rfl hr1 (pc' := 110) rfl ?_
  refine st_iload (pc' := 112) rfl rfl rfl ?_
  refine st_iload (pc' := 114) rfl rfl rfl ?_
  refine st_iastore rfl hs2 hb3 (j := x7.toNatClampNeg) rfl (pc' := 115) rfl ?_
  refine st_aload (pc' := 116) rfl rfl rfl ?_
  refine st_getfr (x := some a2) (Or.inl rfl) rfl hs0 rfl hr4 (pc' := 119) rfl ?_
  refine st_iload (pc' := 121) rfl rfl rfl ?_
  refine st_iload (pc' := 123) rfl rfl rfl ?_
  refine st_iastore rfl hs5 hb6 (j := x7.toNatClampNeg) rfl (pc' := 124) rfl ?_
  exact k
theorem B_Tr_linkSuffixes_0 {d : Nat} {h : PH} {Q : PQ} {r0 : Nat} {x1 : Int32} {v2 : Value} {a0 : Nat} {n1 : Nat} (hs0 : h_sh h r0 = some (0, 8)) (hr1 : h_r h r0 1 = some a0) (hs2 : h_sh h a0 = some (1, n1)) (hb3 : vp_in (x1 * (8 : Int32)) n1) (k : wpx d P_Tr_linkSuffixes 12 [.ref r0, .int x1, .int 1] [] (w_i h a0 ((x1 * (8 : Int32)).toNatClampNeg) 0) Q) : wpx d P_Tr_linkSuffixes 0 [.ref r0, .int x1, v2] [] h Q := by
  refine st_aload (pc' := 1) rfl rfl rfl ?_
  refine st_getfr (x := some a0) (Or.inl rfl) rfl hs0 rfl hr1 (pc' := 4) rfl ?_
  refine st_iload (pc' := 5) rfl rfl rfl ?_
  refine st_ipush (pc' := 7) (v := 8) rfl rfl (by decide) ?_
  refine st_imul (pc' := 8) rfl rfl ?_
  refine st_ipush (pc' := 9) (v := 0) rfl rfl (by decide) ?_
  refine st_iastore rfl hs2 hb3 (j := (x1 * (8 : Int32)).toNatClampNeg) rfl (pc' := 10) rfl ?_
  refine st_ipush (pc' := 11) (v := 1) rfl rfl (by decide) ?_
  refine st_istore (pc' := 12) (ls' := [.ref r0, .int x1, .int 1]) rfl rfl (Nat.le_of_ble_eq_true rfl) rfl ?_
  exact k
theorem B_Tr_linkSuffixes_12 {d : Nat} {h : PH} {Q : PQ} {r0 : Nat} {x1 : Int32} {x2 : Int32} {a0 : Nat} {n1 : Nat} (hs0 : h_sh h r0 = some (0, 8)) (hr1 : h_r h r0 2 = some a0) (hs2 : h_sh h a0 = some (1, n1)) (hb3 : vp_in x1 n1) (kt : (h_i h a0 x1.toNatClampNeg) < x2 → wpx d P_Tr_linkSuffixes 68 [.ref r0, .int x1, .int x2] [] h Q) (kf : ¬ ((h_i h a0 x1.toNatClampNeg) < x2) → wpx d P_Tr_linkSuffixes 22 [.ref r0, .int x1, .int x2] [] h Q) : wpx d P_Tr_linkSuffixes 12 [.ref r0, .int x1, .int x2] [] h Q := by
  refine st_iload (pc' := 13) rfl rfl rfl ?_
  refine st_aload (pc' := 14) rfl rfl rfl ?_
  refine st_getfr (x := some a0) (Or.inl rfl) rfl hs0 rfl hr1 (pc' := 17) rfl ?_
  refine st_iload (pc' := 18) rfl rfl rfl ?_
  refine st_iaload rfl hs2 hb3 (j := x1.toNatClampNeg) rfl (pc' := 19) rfl ?_
  exact st_icmp_gt (pc' := 22) rfl rfl kt kf
theorem B_Tr_linkSuffixes_22 {d : Nat} {h : PH} {Q : PQ} {r0 : Nat} {x1 : Int32} {x2 : Int32}  (kt : (8 : Int32) ≤ x2 → wpx d P_Tr_linkSuffixes 68 [.ref r0, .int x1, .int x2] [] h Q) (kf : ¬ ((8 : Int32) ≤ x2) → wpx d P_Tr_linkSuffixes 28 [.ref r0, .int x1, .int x2] [] h Q) : wpx d P_Tr_linkSuffixes 22 [.ref r0, .int x1, .int x2] [] h Q := by
  refine st_iload (pc' := 23) rfl rfl rfl ?_
  refine st_ipush (pc' := 25) (v := 8) rfl rfl (by decide) ?_
  exact st_icmp_ge (pc' := 28) rfl rfl kt kf
theorem B_Tr_linkSuffixes_28 {d : Nat} {h : PH} {Q : PQ} {r0 : Nat} {x1 : Int32} {x2 : Int32} {a0 : Nat} {a1 : Nat} {n2 : Nat} (hs0 : h_sh h r0 = some (0, 8)) (hr1 : h_r h r0 1 = some a0) (hr2 : h_r h r0 5 = some a1) (hs3 : h_sh h a1 = some (1, n2)) (hb4 : vp_in x1 n2) (k : wpm d 98 [.ref r0, .int (h_i h a1 x1.toNatClampNeg), .int (x2 - (1 : Int32))] h (fun r h' => wpx d P_Tr_linkSuffixes 52 [.ref r0, .int x1, .int x2] (r.toList ++ [.ref r0, .int ((x1 * (8 : Int32)) + x2), .ref a0]) h' Q)) : wpx d P_Tr_linkSuffixes 28 [.ref r0, .int x1, .int x2] [] h Q := by
  refine st_aload (pc' := 29) rfl rfl rfl ?_
  refine st_getfr (x := some a0) (Or.inl rfl) rfl hs0 rfl hr1 (pc' := 32) rfl ?_
  refine st_iload (pc' := 33) rfl rfl rfl ?_
  refine st_ipush (pc' := 35) (v := 8) rfl rfl (by decide) ?_
  refine st_imul (pc' := 36) rfl rfl ?_
  refine st_iload (pc' := 37) rfl rfl rfl ?_
  refine st_iadd (pc' := 38) rfl rfl ?_
  refine st_aload (pc' := 39) rfl rfl rfl ?_
  refine st_aload (pc' := 40) rfl rfl rfl ?_
  refine st_aload (pc' := 41) rfl rfl rfl ?_
  refine st_getfr (x := some a1) (Or.inl rfl) rfl hs0 rfl hr2 (pc' := 44) rfl ?_
  refine st_iload (pc' := 45) rfl rfl rfl ?_
  refine st_iaload rfl hs3 hb4 (j := x1.toNatClampNeg) rfl (pc' := 46) rfl ?_
  refine st_iload (pc' := 47) rfl rfl rfl ?_
  refine st_ipush (pc' := 48) (v := 1) rfl rfl (by decide) ?_
  refine st_isub (pc' := 49) rfl rfl ?_
  exact st_call (pc' := 52) (as := [.ref r0, .int (h_i h a1 x1.toNatClampNeg), .int (x2 - (1 : Int32))]) (rest := [.ref r0, .int ((x1 * (8 : Int32)) + x2), .ref a0]) rfl rfl (Nat.le_of_ble_eq_true rfl) rfl rfl (Nat.le_of_ble_eq_true rfl) (kd := 1) (o := 8) rfl rfl (beq_iff_eq.mpr hs0) k
theorem B_Tr_linkSuffixes_52 {d : Nat} {h : PH} {Q : PQ} {r0 : Nat} {x1 : Int32} {x2 : Int32} {q0 : Nat} {s1 : Int32} {q2 : Nat} {s3 : Int32} {a0 : Nat} {n1 : Nat} (hs0 : h_sh h r0 = some (0, 8)) (hr1 : h_r h r0 6 = some a0) (hs2 : h_sh h a0 = some (1, n1)) (hb3 : vp_in x1 n1) (hs4 : h_sh h q2 = some (0, 8)) (k : wpm d 97 [.ref q2, .int s3, .int (h_i h a0 x1.toNatClampNeg)] h (fun r h' => wpx d P_Tr_linkSuffixes 61 [.ref r0, .int x1, .int x2] (r.toList ++ [.int s1, .ref q0]) h' Q)) : wpx d P_Tr_linkSuffixes 52 [.ref r0, .int x1, .int x2] [.int s3, .ref q2, .int s1, .ref q0] h Q := by
  refine st_aload (pc' := 53) rfl rfl rfl ?_
  refine st_getfr (x := some a0) (Or.inl rfl) rfl hs0 rfl hr1 (pc' := 56) rfl ?_
  refine st_iload (pc' := 57) rfl rfl rfl ?_
  refine st_iaload rfl hs2 hb3 (j := x1.toNatClampNeg) rfl (pc' := 58) rfl ?_
  exact st_call (pc' := 61) (as := [.ref q2, .int s3, .int (h_i h a0 x1.toNatClampNeg)]) (rest := [.int s1, .ref q0]) rfl rfl (Nat.le_of_ble_eq_true rfl) rfl rfl (Nat.le_of_ble_eq_true rfl) (kd := 1) (o := 8) rfl rfl (beq_iff_eq.mpr hs4) k
theorem B_Tr_linkSuffixes_61 {d : Nat} {h : PH} {Q : PQ} {r0 : Nat} {x1 : Int32} {x2 : Int32} {q0 : Nat} {s1 : Int32} {s2 : Int32} {n0 : Nat} (hs0 : h_sh h q0 = some (1, n0)) (hb1 : vp_in s1 n0) (k : wpx d P_Tr_linkSuffixes 12 [.ref r0, .int x1, .int (x2 + 1)] [] (w_i h q0 s1.toNatClampNeg s2) Q) : wpx d P_Tr_linkSuffixes 61 [.ref r0, .int x1, .int x2] [.int s2, .int s1, .ref q0] h Q := by
  refine st_iastore rfl hs0 hb1 (j := s1.toNatClampNeg) rfl (pc' := 62) rfl ?_
  refine st_iinc (pc' := 65) (v := 1) (ls' := [.ref r0, .int x1, .int (x2 + 1)]) rfl rfl rfl (by decide) rfl ?_
  exact st_goto rfl k
theorem B_Tr_linkSuffixes_68 {d : Nat} {h : PH} {Q : PQ} {r0 : Nat} {x1 : Int32} {x2 : Int32}  (k : Q none h) : wpx d P_Tr_linkSuffixes 68 [.ref r0, .int x1, .int x2] [] h Q := by
  exact st_return rfl k
theorem B_Tr_listBySign_0 {d : Nat} {h : PH} {Q : PQ} {r0 : Nat} {v1 : Value} {v2 : Value} {v3 : Value}  (k : wpx d P_Tr_listBySign 4 [.ref r0, .int 0, .int 0, v3] [] h Q) : wpx d P_Tr_listBySign 0 [.ref r0, v1, v2, v3] [] h Q := by
  refine st_ipush (pc' := 1) (v := 0) rfl rfl (by decide) ?_
  refine st_istore (pc' := 2) (ls' := [.ref r0, .int 0, v2, v3]) rfl rfl (Nat.le_of_ble_eq_true rfl) rfl ?_
  refine st_ipush (pc' := 3) (v := 0) rfl rfl (by decide) ?_
  refine st_istore (pc' := 4) (ls' := [.ref r0, .int 0, .int 0, v3]) rfl rfl (Nat.le_of_ble_eq_true rfl) rfl ?_
  exact k
theorem B_Tr_listBySign_4 {d : Nat} {h : PH} {Q : PQ} {r0 : Nat} {x1 : Int32} {x2 : Int32} {v3 : Value}  (kt : (28 : Int32) ≤ x2 → wpx d P_Tr_listBySign 59 [.ref r0, .int x1, .int x2, v3] [] h Q) (kf : ¬ ((28 : Int32) ≤ x2) → wpx d P_Tr_listBySign 10 [.ref r0, .int x1, .int x2, v3] [] h Q) : wpx d P_Tr_listBySign 4 [.ref r0, .int x1, .int x2, v3] [] h Q := by
  refine st_iload (pc' := 5) rfl rfl rfl ?_
  refine st_ipush (pc' := 7) (v := 28) rfl rfl (by decide) ?_
  exact st_icmp_ge (pc' := 10) rfl rfl kt kf
theorem B_Tr_listBySign_10 {d : Nat} {h : PH} {Q : PQ} {r0 : Nat} {x1 : Int32} {x2 : Int32} {v3 : Value} {a0 : Nat} {n1 : Nat} (hs0 : h_sh h r0 = some (0, 8)) (hr1 : h_r h r0 8 = some a0) (hs2 : h_sh h a0 = some (1, n1)) (hb3 : vp_in x2 n1) (k : wpx d P_Tr_listBySign 19 [.ref r0, .int x1, .int x2, .int 1] [] (w_i h a0 x2.toNatClampNeg x1) Q) : wpx d P_Tr_listBySign 10 [.ref r0, .int x1, .int x2, v3] [] h Q := by
  refine st_aload (pc' := 11) rfl rfl rfl ?_
  refine st_getfr (x := some a0) (Or.inl rfl) rfl hs0 rfl hr1 (pc' := 14) rfl ?_
  refine st_iload (pc' := 15) rfl rfl rfl ?_
  refine st_iload (pc' := 16) rfl rfl rfl ?_
  refine st_iastore rfl hs2 hb3 (j := x2.toNatClampNeg) rfl (pc' := 17) rfl ?_
  refine st_ipush (pc' := 18) (v := 1) rfl rfl (by decide) ?_
  refine st_istore (pc' := 19) (ls' := [.ref r0, .int x1, .int x2, .int 1]) rfl rfl (Nat.le_of_ble_eq_true rfl) rfl ?_
  exact k
theorem B_Tr_listBySign_19 {d : Nat} {h : PH} {Q : PQ} {r0 : Nat} {x1 : Int32} {x2 : Int32} {x3 : Int32} (hs0 : h_sh h r0 = some (0, 8)) (kt : (h_i h r0 9) ≤ x3 → wpx d P_Tr_listBySign 53 [.ref r0, .int x1, .int x2, .int x3] [] h Q) (kf : ¬ ((h_i h r0 9) ≤ x3) → wpx d P_Tr_listBySign 27 [.ref r0, .int x1, .int x2, .int x3] [] h Q) : wpx d P_Tr_listBySign 19 [.ref r0, .int x1, .int x2, .int x3] [] h Q := by
  refine st_iload (pc' := 20) rfl rfl rfl ?_
  refine st_aload (pc' := 21) rfl rfl rfl ?_
  refine st_getfi (Or.inl rfl) rfl hs0 rfl (pc' := 24) rfl ?_
  exact st_icmp_ge (pc' := 27) rfl rfl kt kf
theorem B_Tr_listBySign_27 {d : Nat} {h : PH} {Q : PQ} {r0 : Nat} {x1 : Int32} {x2 : Int32} {x3 : Int32} {a0 : Nat} {n1 : Nat} (hs0 : h_sh h r0 = some (0, 8)) (hr1 : h_r h r0 6 = some a0) (hs2 : h_sh h a0 = some (1, n1)) (hb3 : vp_in x3 n1) (kt : ¬ ((h_i h a0 x3.toNatClampNeg) = x2) → wpx d P_Tr_listBySign 47 [.ref r0, .int x1, .int x2, .int x3] [] h Q) (kf : (h_i h a0 x3.toNatClampNeg) = x2 → wpx d P_Tr_listBySign 37 [.ref r0, .int x1, .int x2, .int x3] [] h Q) : wpx d P_Tr_listBySign 27 [.ref r0, .int x1, .int x2, .int x3] [] h Q := by
  refine st_aload (pc' := 28) rfl rfl rfl ?_
  refine st_getfr (x := some a0) (Or.inl rfl) rfl hs0 rfl hr1 (pc' := 31) rfl ?_
  refine st_iload (pc' := 32) rfl rfl rfl ?_
  refine st_iaload rfl hs2 hb3 (j := x3.toNatClampNeg) rfl (pc' := 33) rfl ?_
  refine st_iload (pc' := 34) rfl rfl rfl ?_
  exact st_icmp_ne (pc' := 37) rfl rfl kt kf
theorem B_Tr_listBySign_37 {d : Nat} {h : PH} {Q : PQ} {r0 : Nat} {x1 : Int32} {x2 : Int32} {x3 : Int32} {a0 : Nat} {n1 : Nat} (hs0 : h_sh h r0 = some (0, 8)) (hr1 : h_r h r0 7 = some a0) (hs2 : h_sh h a0 = some (1, n1)) (hb3 : vp_in x1 n1) (k : wpx d P_Tr_listBySign 47 [.ref r0, .int (x1 + 1), .int x2, .int x3] [] (w_i h a0 x1.toNatClampNeg x3) Q) : wpx d P_Tr_listBySign 37 [.ref r0, .int x1, .int x2, .int x3] [] h Q := by
  refine st_aload (pc' := 38) rfl rfl rfl ?_
  refine st_getfr (x := some a0) (Or.inl rfl) rfl hs0 rfl hr1 (pc' := 41) rfl ?_
  refine st_iload (pc' := 42) rfl rfl rfl ?_
  refine st_iload (pc' := 43) rfl rfl rfl ?_
  refine st_iastore rfl hs2 hb3 (j := x1.toNatClampNeg) rfl (pc' := 44) rfl ?_
  refine st_iinc (pc' := 47) (v := 1) (ls' := [.ref r0, .int (x1 + 1), .int x2, .int x3]) rfl rfl rfl (by decide) rfl ?_
  exact k
theorem B_Tr_listBySign_47 {d : Nat} {h : PH} {Q : PQ} {r0 : Nat} {x1 : Int32} {x2 : Int32} {x3 : Int32}  (k : wpx d P_Tr_listBySign 19 [.ref r0, .int x1, .int x2, .int (x3 + 1)] [] h Q) : wpx d P_Tr_listBySign 47 [.ref r0, .int x1, .int x2, .int x3] [] h Q := by
  refine st_iinc (pc' := 50) (v := 1) (ls' := [.ref r0, .int x1, .int x2, .int (x3 + 1)]) rfl rfl rfl (by decide) rfl ?_
  exact st_goto rfl k
theorem B_Tr_listBySign_53 {d : Nat} {h : PH} {Q : PQ} {r0 : Nat} {x1 : Int32} {x2 : Int32} {x3 : Int32}  (k : wpx d P_Tr_listBySign 4 [.ref r0, .int x1, .int (x2 + 1), .int x3] [] h Q) : wpx d P_Tr_listBySign 53 [.ref r0, .int x1, .int x2, .int x3] [] h Q := by
  refine st_iinc (pc' := 56) (v := 1) (ls' := [.ref r0, .int x1, .int (x2 + 1), .int x3]) rfl rfl rfl (by decide) rfl ?_
  exact st_goto rfl k
theorem B_Tr_listBySign_59 {d : Nat} {h : PH} {Q : PQ} {r0 : Nat} {x1 : Int32} {x2 : Int32} {v3 : Value} {a0 : Nat} {n1 : Nat} (hs0 : h_sh h r0 = some (0, 8)) (hr1 : h_r h r0 8 = some a0) (hs2 : h_sh h a0 = some (1, n1)) (hb3 : vp_in 28 n1) (k : Q none (w_i h a0 28 x1)) : wpx d P_Tr_listBySign 59 [.ref r0, .int x1, .int x2, v3] [] h Q := by
  refine st_aload (pc' := 60) rfl rfl rfl ?_
  refine st_getfr (x := some a0) (Or.inl rfl) rfl hs0 rfl hr1 (pc' := 63) rfl ?_
  refine st_ipush (pc' := 65) (v := 28) rfl rfl (by decide) ?_
  refine st_iload (pc' := 66) rfl rfl rfl ?_
  refine st_iastore rfl hs2 hb3 (j := 28) (by decide) (pc' := 67) rfl ?_
  exact st_return rfl k
theorem B_Tr_isUsed_0 {d : Nat} {h : PH} {Q : PQ} {r0 : Nat} {x1 : Int32}  (kt : x1 < (1 : Int32) → wpx d P_Tr_isUsed 32 [.ref r0, .int x1] [] h Q) (kf : ¬ (x1 < (1 : Int32)) → wpx d P_Tr_isUsed 5 [.ref r0, .int x1] [] h Q) : wpx d P_Tr_isUsed 0 [.ref r0, .int x1] [] h Q := by
  refine st_iload (pc' := 1) rfl rfl rfl ?_
  refine st_ipush (pc' := 2) (v := 1) rfl rfl (by decide) ?_
  exact st_icmp_lt (pc' := 5) rfl rfl kt kf
theorem B_Tr_isUsed_5 {d : Nat} {h : PH} {Q : PQ} {r0 : Nat} {x1 : Int32}  (kt : (28 : Int32) ≤ x1 → wpx d P_Tr_isUsed 32 [.ref r0, .int x1] [] h Q) (kf : ¬ ((28 : Int32) ≤ x1) → wpx d P_Tr_isUsed 11 [.ref r0, .int x1] [] h Q) : wpx d P_Tr_isUsed 5 [.ref r0, .int x1] [] h Q := by
  refine st_iload (pc' := 6) rfl rfl rfl ?_
  refine st_ipush (pc' := 8) (v := 28) rfl rfl (by decide) ?_
  exact st_icmp_ge (pc' := 11) rfl rfl kt kf
theorem B_Tr_isUsed_11 {d : Nat} {h : PH} {Q : PQ} {r0 : Nat} {x1 : Int32} {a0 : Nat} {n1 : Nat} (hs0 : h_sh h r0 = some (0, 8)) (hr1 : h_r h r0 8 = some a0) (hs2 : h_sh h a0 = some (1, n1)) (hb3 : vp_in x1 n1) (hb4 : vp_in (x1 + (1 : Int32)) n1) (kt : (h_i h a0 (x1 + (1 : Int32)).toNatClampNeg) ≤ (h_i h a0 x1.toNatClampNeg) → wpx d P_Tr_isUsed 32 [.ref r0, .int x1] [] h Q) (kf : ¬ ((h_i h a0 (x1 + (1 : Int32)).toNatClampNeg) ≤ (h_i h a0 x1.toNatClampNeg)) → wpx d P_Tr_isUsed 28 [.ref r0, .int x1] [] h Q) : wpx d P_Tr_isUsed 11 [.ref r0, .int x1] [] h Q := by
  refine st_aload (pc' := 12) rfl rfl rfl ?_
  refine st_getfr (x := some a0) (Or.inl rfl) rfl hs0 rfl hr1 (pc' := 15) rfl ?_
  refine st_iload (pc' := 16) rfl rfl rfl ?_
  refine st_iaload rfl hs2 hb3 (j := x1.toNatClampNeg) rfl (pc' := 17) rfl ?_
  refine st_aload (pc' := 18) rfl rfl rfl ?_
  refine st_getfr (x := some a0) (Or.inl rfl) rfl hs0 rfl hr1 (pc' := 21) rfl ?_
  refine st_iload (pc' := 22) rfl rfl rfl ?_
  refine st_ipush (pc' := 23) (v := 1) rfl rfl (by decide) ?_
  refine st_iadd (pc' := 24) rfl rfl ?_
  refine st_iaload rfl hs2 hb4 (j := (x1 + (1 : Int32)).toNatClampNeg) rfl (pc' := 25) rfl ?_
  exact st_icmp_ge (pc' := 28) rfl rfl kt kf
theorem B_Tr_isUsed_28 {d : Nat} {h : PH} {Q : PQ} {r0 : Nat} {x1 : Int32}  (k : wpx d P_Tr_isUsed 33 [.ref r0, .int x1] [.int 1] h Q) : wpx d P_Tr_isUsed 28 [.ref r0, .int x1] [] h Q := by
  refine st_ipush (pc' := 29) (v := 1) rfl rfl (by decide) ?_
  exact st_goto rfl k
theorem B_Tr_isUsed_32 {d : Nat} {h : PH} {Q : PQ} {r0 : Nat} {x1 : Int32}  (k : wpx d P_Tr_isUsed 33 [.ref r0, .int x1] [.int 0] h Q) : wpx d P_Tr_isUsed 32 [.ref r0, .int x1] [] h Q := by
  refine st_ipush (pc' := 33) (v := 0) rfl rfl (by decide) ?_
  exact k
theorem B_Tr_isUsed_33 {d : Nat} {h : PH} {Q : PQ} {r0 : Nat} {x1 : Int32} {s0 : Int32} (hz0 : narrow .boolean (.int s0) = .int s0) (k : Q (some (.int s0)) h) : wpx d P_Tr_isUsed 33 [.ref r0, .int x1] [.int s0] h Q := by
  exact st_ireturn (ty := .boolean) rfl rfl hz0 k
theorem B_Tr_next_0 {d : Nat} {h : PH} {Q : PQ} {r0 : Nat} {x1 : Int32} {x2 : Int32}  (kt : x1 < 0 → wpx d P_Tr_next 23 [.ref r0, .int x1, .int x2] [] h Q) (kf : ¬ (x1 < 0) → wpx d P_Tr_next 4 [.ref r0, .int x1, .int x2] [] h Q) : wpx d P_Tr_next 0 [.ref r0, .int x1, .int x2] [] h Q := by
  refine st_iload (pc' := 1) rfl rfl rfl ?_
  exact st_if_lt (pc' := 4) rfl rfl kt kf
theorem B_Tr_next_4 {d : Nat} {h : PH} {Q : PQ} {r0 : Nat} {x1 : Int32} {x2 : Int32} (hs0 : h_sh h r0 = some (0, 8)) (kt : (h_i h r0 9) ≤ x1 → wpx d P_Tr_next 23 [.ref r0, .int x1, .int x2] [] h Q) (kf : ¬ ((h_i h r0 9) ≤ x1) → wpx d P_Tr_next 12 [.ref r0, .int x1, .int x2] [] h Q) : wpx d P_Tr_next 4 [.ref r0, .int x1, .int x2] [] h Q := by
  refine st_iload (pc' := 5) rfl rfl rfl ?_
  refine st_aload (pc' := 6) rfl rfl rfl ?_
  refine st_getfi (Or.inl rfl) rfl hs0 rfl (pc' := 9) rfl ?_
  exact st_icmp_ge (pc' := 12) rfl rfl kt kf
theorem B_Tr_next_12 {d : Nat} {h : PH} {Q : PQ} {r0 : Nat} {x1 : Int32} {x2 : Int32}  (kt : x2 < (1 : Int32) → wpx d P_Tr_next 23 [.ref r0, .int x1, .int x2] [] h Q) (kf : ¬ (x2 < (1 : Int32)) → wpx d P_Tr_next 17 [.ref r0, .int x1, .int x2] [] h Q) : wpx d P_Tr_next 12 [.ref r0, .int x1, .int x2] [] h Q := by
  refine st_iload (pc' := 13) rfl rfl rfl ?_
  refine st_ipush (pc' := 14) (v := 1) rfl rfl (by decide) ?_
  exact st_icmp_lt (pc' := 17) rfl rfl kt kf
theorem B_Tr_next_17 {d : Nat} {h : PH} {Q : PQ} {r0 : Nat} {x1 : Int32} {x2 : Int32}  (kt : x2 < (28 : Int32) → wpx d P_Tr_next 27 [.ref r0, .int x1, .int x2] [] h Q) (kf : ¬ (x2 < (28 : Int32)) → wpx d P_Tr_next 23 [.ref r0, .int x1, .int x2] [] h Q) : wpx d P_Tr_next 17 [.ref r0, .int x1, .int x2] [] h Q := by
  refine st_iload (pc' := 18) rfl rfl rfl ?_
  refine st_ipush (pc' := 20) (v := 28) rfl rfl (by decide) ?_
  exact st_icmp_lt (pc' := 23) rfl rfl kt kf
theorem B_Tr_next_23 {d : Nat} {h : PH} {Q : PQ} {r0 : Nat} {x1 : Int32} {x2 : Int32}  (k : wpx d P_Tr_next 38 [.ref r0, .int x1, .int x2] [.int (-1)] h Q) : wpx d P_Tr_next 23 [.ref r0, .int x1, .int x2] [] h Q := by
  refine st_ipush (pc' := 24) (v := (-1)) rfl rfl (by decide) ?_
  exact st_goto rfl k
theorem B_Tr_next_27 {d : Nat} {h : PH} {Q : PQ} {r0 : Nat} {x1 : Int32} {x2 : Int32} {a0 : Nat} {n1 : Nat} (hs0 : h_sh h r0 = some (0, 8)) (hr1 : h_r h r0 0 = some a0) (hs2 : h_sh h a0 = some (1, n1)) (hb3 : vp_in ((x1 * (28 : Int32)) + x2) n1) (k : wpx d P_Tr_next 38 [.ref r0, .int x1, .int x2] [.int (h_i h a0 ((x1 * (28 : Int32)) + x2).toNatClampNeg)] h Q) : wpx d P_Tr_next 27 [.ref r0, .int x1, .int x2] [] h Q := by
  refine st_aload (pc' := 28) rfl rfl rfl ?_
  refine st_getfr (x := some a0) (Or.inl rfl) rfl hs0 rfl hr1 (pc' := 31) rfl ?_
  refine st_iload (pc' := 32) rfl rfl rfl ?_
  refine st_ipush (pc' := 34) (v := 28) rfl rfl (by decide) ?_
  refine st_imul (pc' := 35) rfl rfl ?_
  refine st_iload (pc' := 36) rfl rfl rfl ?_
  refine st_iadd (pc' := 37) rfl rfl ?_
  refine st_iaload rfl hs2 hb3 (j := ((x1 * (28 : Int32)) + x2).toNatClampNeg) rfl (pc' := 38) rfl ?_
  exact k
theorem B_Tr_next_38 {d : Nat} {h : PH} {Q : PQ} {r0 : Nat} {x1 : Int32} {x2 : Int32} {s0 : Int32}  (k : Q (some (.int s0)) h) : wpx d P_Tr_next 38 [.ref r0, .int x1, .int x2] [.int s0] h Q := by
  exact st_ireturn (ty := .int) rfl rfl rfl k
theorem B_Tr_back_0 {d : Nat} {h : PH} {Q : PQ} {r0 : Nat} {x1 : Int32} {x2 : Int32}  (kt : x1 < 0 → wpx d P_Tr_back 22 [.ref r0, .int x1, .int x2] [] h Q) (kf : ¬ (x1 < 0) → wpx d P_Tr_back 4 [.ref r0, .int x1, .int x2] [] h Q) : wpx d P_Tr_back 0 [.ref r0, .int x1, .int x2] [] h Q := by
  refine st_iload (pc' := 1) rfl rfl rfl ?_
  exact st_if_lt (pc' := 4) rfl rfl kt kf
theorem B_Tr_back_4 {d : Nat} {h : PH} {Q : PQ} {r0 : Nat} {x1 : Int32} {x2 : Int32} (hs0 : h_sh h r0 = some (0, 8)) (kt : (h_i h r0 9) ≤ x1 → wpx d P_Tr_back 22 [.ref r0, .int x1, .int x2] [] h Q) (kf : ¬ ((h_i h r0 9) ≤ x1) → wpx d P_Tr_back 12 [.ref r0, .int x1, .int x2] [] h Q) : wpx d P_Tr_back 4 [.ref r0, .int x1, .int x2] [] h Q := by
  refine st_iload (pc' := 5) rfl rfl rfl ?_
  refine st_aload (pc' := 6) rfl rfl rfl ?_
  refine st_getfi (Or.inl rfl) rfl hs0 rfl (pc' := 9) rfl ?_
  exact st_icmp_ge (pc' := 12) rfl rfl kt kf
theorem B_Tr_back_12 {d : Nat} {h : PH} {Q : PQ} {r0 : Nat} {x1 : Int32} {x2 : Int32}  (kt : x2 < 0 → wpx d P_Tr_back 22 [.ref r0, .int x1, .int x2] [] h Q) (kf : ¬ (x2 < 0) → wpx d P_Tr_back 16 [.ref r0, .int x1, .int x2] [] h Q) : wpx d P_Tr_back 12 [.ref r0, .int x1, .int x2] [] h Q := by
  refine st_iload (pc' := 13) rfl rfl rfl ?_
  exact st_if_lt (pc' := 16) rfl rfl kt kf
theorem B_Tr_back_16 {d : Nat} {h : PH} {Q : PQ} {r0 : Nat} {x1 : Int32} {x2 : Int32}  (kt : x2 < (8 : Int32) → wpx d P_Tr_back 26 [.ref r0, .int x1, .int x2] [] h Q) (kf : ¬ (x2 < (8 : Int32)) → wpx d P_Tr_back 22 [.ref r0, .int x1, .int x2] [] h Q) : wpx d P_Tr_back 16 [.ref r0, .int x1, .int x2] [] h Q := by
  refine st_iload (pc' := 17) rfl rfl rfl ?_
  refine st_ipush (pc' := 19) (v := 8) rfl rfl (by decide) ?_
  exact st_icmp_lt (pc' := 22) rfl rfl kt kf
theorem B_Tr_back_22 {d : Nat} {h : PH} {Q : PQ} {r0 : Nat} {x1 : Int32} {x2 : Int32}  (k : wpx d P_Tr_back 37 [.ref r0, .int x1, .int x2] [.int (-1)] h Q) : wpx d P_Tr_back 22 [.ref r0, .int x1, .int x2] [] h Q := by
  refine st_ipush (pc' := 23) (v := (-1)) rfl rfl (by decide) ?_
  exact st_goto rfl k
theorem B_Tr_back_26 {d : Nat} {h : PH} {Q : PQ} {r0 : Nat} {x1 : Int32} {x2 : Int32} {a0 : Nat} {n1 : Nat} (hs0 : h_sh h r0 = some (0, 8)) (hr1 : h_r h r0 1 = some a0) (hs2 : h_sh h a0 = some (1, n1)) (hb3 : vp_in ((x1 * (8 : Int32)) + x2) n1) (k : wpx d P_Tr_back 37 [.ref r0, .int x1, .int x2] [.int (h_i h a0 ((x1 * (8 : Int32)) + x2).toNatClampNeg)] h Q) : wpx d P_Tr_back 26 [.ref r0, .int x1, .int x2] [] h Q := by
  refine st_aload (pc' := 27) rfl rfl rfl ?_
  refine st_getfr (x := some a0) (Or.inl rfl) rfl hs0 rfl hr1 (pc' := 30) rfl ?_
  refine st_iload (pc' := 31) rfl rfl rfl ?_
  refine st_ipush (pc' := 33) (v := 8) rfl rfl (by decide) ?_
  refine st_imul (pc' := 34) rfl rfl ?_
  refine st_iload (pc' := 35) rfl rfl rfl ?_
  refine st_iadd (pc' := 36) rfl rfl ?_
  refine st_iaload rfl hs2 hb3 (j := ((x1 * (8 : Int32)) + x2).toNatClampNeg) rfl (pc' := 37) rfl ?_
  exact k
theorem B_Tr_back_37 {d : Nat} {h : PH} {Q : PQ} {r0 : Nat} {x1 : Int32} {x2 : Int32} {s0 : Int32}  (k : Q (some (.int s0)) h) : wpx d P_Tr_back 37 [.ref r0, .int x1, .int x2] [.int s0] h Q := by
  exact st_ireturn (ty := .int) rfl rfl rfl k
theorem B_Tw_init_0 {d : Nat} {h : PH} {Q : PQ} {r0 : Nat} (hs0 : h_sh (h_new h (3, 792) 792) r0 = some (0, 9)) (hs1 : h_sh (h_new (w_r (h_new h (3, 792) 792) r0 0 (some (h_ct h))) (1, 792) 792) r0 = some (0, 9)) (hs2 : h_sh (h_new (w_r (h_new (w_r (h_new h (3, 792) 792) r0 0 (some (h_ct h))) (1, 792) 792) r0 1 (some (h_ct (w_r (h_new h (3, 792) 792) r0 0 (some (h_ct h)))))) (1, 792) 792) r0 = some (0, 9)) (k : wpx d P_Tw_init 31 [.ref r0] [] (w_r (h_new (w_r (h_new (w_r (h_new h (3, 792) 792) r0 0 (some (h_ct h))) (1, 792) 792) r0 1 (some (h_ct (w_r (h_new h (3, 792) 792) r0 0 (some (h_ct h)))))) (1, 792) 792) r0 2 (some (h_ct (w_r (h_new (w_r (h_new h (3, 792) 792) r0 0 (some (h_ct h))) (1, 792) 792) r0 1 (some (h_ct (w_r (h_new h (3, 792) 792) r0 0 (some (h_ct h))))))))) Q) : wpx d P_Tw_init 0 [.ref r0] [] h Q := by
  refine st_aload (pc' := 1) rfl rfl rfl ?_
  refine st_oinit (pc' := 4) rfl rfl (Nat.le_of_ble_eq_true rfl) ?_
  refine st_aload (pc' := 5) rfl rfl rfl ?_
  refine st_ipush (pc' := 8) (v := 792) rfl rfl (by decide) ?_
  refine st_newZ rfl (by decide) (j := 792) (by decide) (pc' := 10) rfl ?_
  refine st_putf (h' := w_r (h_new h (3, 792) 792) r0 0 (some (h_ct h))) (Or.inr (Or.inr rfl)) rfl hs0 rfl rfl rfl (pc' := 13) rfl ?_
  refine st_aload (pc' := 14) rfl rfl rfl ?_
  refine st_ipush (pc' := 17) (v := 792) rfl rfl (by decide) ?_
  refine st_newI rfl (by decide) (j := 792) (by decide) (pc' := 19) rfl ?_
  refine st_putf (h' := w_r (h_new (w_r (h_new h (3, 792) 792) r0 0 (some (h_ct h))) (1, 792) 792) r0 1 (some (h_ct (w_r (h_new h (3, 792) 792) r0 0 (some (h_ct h)))))) (Or.inr (Or.inr rfl)) rfl hs1 rfl rfl rfl (pc' := 22) rfl ?_
  refine st_aload (pc' := 23) rfl rfl rfl ?_
  refine st_ipush (pc' := 26) (v := 792) rfl rfl (by decide) ?_
  refine st_newI rfl (by decide) (j := 792) (by decide) (pc' := 28) rfl ?_
  refine st_putf (h' := w_r (h_new (w_r (h_new (w_r (h_new h (3, 792) 792) r0 0 (some (h_ct h))) (1, 792) 792) r0 1 (some (h_ct (w_r (h_new h (3, 792) 792) r0 0 (some (h_ct h)))))) (1, 792) 792) r0 2 (some (h_ct (w_r (h_new (w_r (h_new h (3, 792) 792) r0 0 (some (h_ct h))) (1, 792) 792) r0 1 (some (h_ct (w_r (h_new h (3, 792) 792) r0 0 (some (h_ct h))))))))) (Or.inr (Or.inr rfl)) rfl hs2 rfl rfl rfl (pc' := 31) rfl ?_
  exact k
theorem B_Tw_init_31 {d : Nat} {h : PH} {Q : PQ} {r0 : Nat} (hs0 : h_sh (h_new h (2, 792) 792) r0 = some (0, 9)) (hs1 : h_sh (h_new (w_r (h_new h (2, 792) 792) r0 3 (some (h_ct h))) (1, 792) 792) r0 = some (0, 9)) (hs2 : h_sh (h_new (w_r (h_new (w_r (h_new h (2, 792) 792) r0 3 (some (h_ct h))) (1, 792) 792) r0 4 (some (h_ct (w_r (h_new h (2, 792) 792) r0 3 (some (h_ct h)))))) (2, 800) 800) r0 = some (0, 9)) (k : wpx d P_Tw_init 58 [.ref r0] [] (w_r (h_new (w_r (h_new (w_r (h_new h (2, 792) 792) r0 3 (some (h_ct h))) (1, 792) 792) r0 4 (some (h_ct (w_r (h_new h (2, 792) 792) r0 3 (some (h_ct h)))))) (2, 800) 800) r0 9 (some (h_ct (w_r (h_new (w_r (h_new h (2, 792) 792) r0 3 (some (h_ct h))) (1, 792) 792) r0 4 (some (h_ct (w_r (h_new h (2, 792) 792) r0 3 (some (h_ct h))))))))) Q) : wpx d P_Tw_init 31 [.ref r0] [] h Q := by
  refine st_aload (pc' := 32) rfl rfl rfl ?_
  refine st_ipush (pc' := 35) (v := 792) rfl rfl (by decide) ?_
  refine st_newB rfl (by decide) (j := 792) (by decide) (pc' := 37) rfl ?_
  refine st_putf (h' := w_r (h_new h (2, 792) 792) r0 3 (some (h_ct h))) (Or.inr (Or.inr rfl)) rfl hs0 rfl rfl rfl (pc' := 40) rfl ?_
  refine st_aload (pc' := 41) rfl rfl rfl ?_
  refine st_ipush (pc' := 44) (v := 792) rfl rfl (by decide) ?_
  refine st_newI rfl (by decide) (j := 792) (by decide) (pc' := 46) rfl ?_
  refine st_putf (h' := w_r (h_new (w_r (h_new h (2, 792) 792) r0 3 (some (h_ct h))) (1, 792) 792) r0 4 (some (h_ct (w_r (h_new h (2, 792) 792) r0 3 (some (h_ct h)))))) (Or.inr (Or.inr rfl)) rfl hs1 rfl rfl rfl (pc' := 49) rfl ?_
  refine st_aload (pc' := 50) rfl rfl rfl ?_
  refine st_ipush (pc' := 53) (v := 800) rfl rfl (by decide) ?_
  refine st_newB rfl (by decide) (j := 800) (by decide) (pc' := 55) rfl ?_
  refine st_putf (h' := w_r (h_new (w_r (h_new (w_r (h_new h (2, 792) 792) r0 3 (some (h_ct h))) (1, 792) 792) r0 4 (some (h_ct (w_r (h_new h (2, 792) 792) r0 3 (some (h_ct h)))))) (2, 800) 800) r0 9 (some (h_ct (w_r (h_new (w_r (h_new h (2, 792) 792) r0 3 (some (h_ct h))) (1, 792) 792) r0 4 (some (h_ct (w_r (h_new h (2, 792) 792) r0 3 (some (h_ct h))))))))) (Or.inr (Or.inr rfl)) rfl hs2 rfl rfl rfl (pc' := 58) rfl ?_
  exact k
theorem B_Tw_init_58 {d : Nat} {h : PH} {Q : PQ} {r0 : Nat}  (k : Q none h) : wpx d P_Tw_init 58 [.ref r0] [] h Q := by
  exact st_return rfl k
theorem B_Tw_find_0 {d : Nat} {h : PH} {Q : PQ} {r0 : Nat} {r1 : Nat} {v2 : Value} {v3 : Value} {a0 : Nat} (hs0 : h_sh h r0 = some (0, 9)) (hr1 : h_r h r0 0 = some a0) (k : wpm d 161 [.ref a0, .int 792] h (fun r h' => wpx d P_Tw_find 10 [.ref r0, .ref r1, v2, v3] (r.toList ++ []) h' Q)) : wpx d P_Tw_find 0 [.ref r0, .ref r1, v2, v3] [] h Q := by
  refine st_aload (pc' := 1) rfl rfl rfl ?_
  refine st_getfr (x := some a0) (Or.inl rfl) rfl hs0 rfl hr1 (pc' := 4) rfl ?_
  refine st_ipush (pc' := 7) (v := 792) rfl rfl (by decide) ?_
  exact st_call (pc' := 10) (as := [.ref a0, .int 792]) (rest := []) rfl rfl (Nat.le_of_ble_eq_true rfl) rfl rfl (Nat.le_of_ble_eq_true rfl) (kd := 0) (o := 11) rfl rfl rfl k
theorem B_Tw_find_10 {d : Nat} {h : PH} {Q : PQ} {r0 : Nat} {r1 : Nat} {v2 : Value} {v3 : Value} (hs0 : h_sh h r0 = some (0, 9)) (k : wpm d 103 [.ref r0, .int 0, .int 0, .int (-1), .int 0] (w_i (w_i h r0 5 0) r0 6 0) (fun r h' => wpx d P_Tw_find 28 [.ref r0, .ref r1, v2, v3] (r.toList ++ []) h' Q)) : wpx d P_Tw_find 10 [.ref r0, .ref r1, v2, v3] [] h Q := by
  refine st_aload (pc' := 11) rfl rfl rfl ?_
  refine st_ipush (pc' := 12) (v := 0) rfl rfl (by decide) ?_
  refine st_putf (h' := w_i h r0 5 0) (Or.inl rfl) rfl hs0 rfl rfl rfl (pc' := 15) rfl ?_
  refine st_aload (pc' := 16) rfl rfl rfl ?_
  refine st_ipush (pc' := 17) (v := 0) rfl rfl (by decide) ?_
  refine st_putf (h' := w_i (w_i h r0 5 0) r0 6 0) (Or.inl rfl) rfl hs0 rfl rfl rfl (pc' := 20) rfl ?_
  refine st_aload (pc' := 21) rfl rfl rfl ?_
  refine st_ipush (pc' := 22) (v := 0) rfl rfl (by decide) ?_
  refine st_ipush (pc' := 23) (v := 0) rfl rfl (by decide) ?_
  refine st_ipush (pc' := 24) (v := (-1)) rfl rfl (by decide) ?_
  refine st_ipush (pc' := 25) (v := 0) rfl rfl (by decide) ?_
  exact st_call (pc' := 28) (as := [.ref r0, .int 0, .int 0, .int (-1), .int 0]) (rest := []) rfl rfl (Nat.le_of_ble_eq_true rfl) rfl rfl (Nat.le_of_ble_eq_true rfl) (kd := 1) (o := 9) rfl rfl (beq_iff_eq.mpr hs0) k
theorem B_Tw_find_28 {d : Nat} {h : PH} {Q : PQ} {r0 : Nat} {r1 : Nat} {v2 : Value} {v3 : Value}  (k : wpx d P_Tw_find 30 [.ref r0, .ref r1, .int 0, v3] [] h Q) : wpx d P_Tw_find 28 [.ref r0, .ref r1, v2, v3] [] h Q := by
  refine st_ipush (pc' := 29) (v := 0) rfl rfl (by decide) ?_
  refine st_istore (pc' := 30) (ls' := [.ref r0, .ref r1, .int 0, v3]) rfl rfl (Nat.le_of_ble_eq_true rfl) rfl ?_
  exact k
theorem B_Tw_find_30 {d : Nat} {h : PH} {Q : PQ} {r0 : Nat} {r1 : Nat} {x2 : Int32} {v3 : Value} (hs0 : h_sh h r0 = some (0, 9)) (kt : (h_i h r0 5) ≤ x2 → wpx d P_Tw_find 95 [.ref r0, .ref r1, .int x2, v3] [] h Q) (kf : ¬ ((h_i h r0 5) ≤ x2) → wpx d P_Tw_find 38 [.ref r0, .ref r1, .int x2, v3] [] h Q) : wpx d P_Tw_find 30 [.ref r0, .ref r1, .int x2, v3] [] h Q := by
  refine st_iload (pc' := 31) rfl rfl rfl ?_
  refine st_aload (pc' := 32) rfl rfl rfl ?_
  refine st_getfi (Or.inl rfl) rfl hs0 rfl (pc' := 35) rfl ?_
  exact st_icmp_ge (pc' := 38) rfl rfl kt kf
theorem B_Tw_find_38 {d : Nat} {h : PH} {Q : PQ} {r0 : Nat} {r1 : Nat} {x2 : Int32} {v3 : Value}  (kt : (792 : Int32) ≤ x2 → wpx d P_Tw_find 95 [.ref r0, .ref r1, .int x2, v3] [] h Q) (kf : ¬ ((792 : Int32) ≤ x2) → wpx d P_Tw_find 45 [.ref r0, .ref r1, .int x2, v3] [] h Q) : wpx d P_Tw_find 38 [.ref r0, .ref r1, .int x2, v3] [] h Q := by
  refine st_iload (pc' := 39) rfl rfl rfl ?_
  refine st_ipush (pc' := 42) (v := 792) rfl rfl (by decide) ?_
  exact st_icmp_ge (pc' := 45) rfl rfl kt kf
theorem B_Tw_find_45 {d : Nat} {h : PH} {Q : PQ} {r0 : Nat} {r1 : Nat} {x2 : Int32} {v3 : Value}  (k : wpx d P_Tw_find 49 [.ref r0, .ref r1, .int x2, .int (x2 + (1 : Int32))] [] h Q) : wpx d P_Tw_find 45 [.ref r0, .ref r1, .int x2, v3] [] h Q := by
  refine st_iload (pc' := 46) rfl rfl rfl ?_
  refine st_ipush (pc' := 47) (v := 1) rfl rfl (by decide) ?_
  refine st_iadd (pc' := 48) rfl rfl ?_
  refine st_istore (pc' := 49) (ls' := [.ref r0, .ref r1, .int x2, .int (x2 + (1 : Int32))]) rfl rfl (Nat.le_of_ble_eq_true rfl) rfl ?_
  exact k
theorem B_Tw_find_49 {d : Nat} {h : PH} {Q : PQ} {r0 : Nat} {r1 : Nat} {x2 : Int32} {x3 : Int32} (hs0 : h_sh h r0 = some (0, 9)) (kt : (h_i h r0 5) ≤ x3 → wpx d P_Tw_find 78 [.ref r0, .ref r1, .int x2, .int x3] [] h Q) (kf : ¬ ((h_i h r0 5) ≤ x3) → wpx d P_Tw_find 57 [.ref r0, .ref r1, .int x2, .int x3] [] h Q) : wpx d P_Tw_find 49 [.ref r0, .ref r1, .int x2, .int x3] [] h Q := by
  refine st_iload (pc' := 50) rfl rfl rfl ?_
  refine st_aload (pc' := 51) rfl rfl rfl ?_
  refine st_getfi (Or.inl rfl) rfl hs0 rfl (pc' := 54) rfl ?_
  exact st_icmp_ge (pc' := 57) rfl rfl kt kf
theorem B_Tw_find_57 {d : Nat} {h : PH} {Q : PQ} {r0 : Nat} {r1 : Nat} {x2 : Int32} {x3 : Int32} {a0 : Nat} {n1 : Nat} (hs0 : h_sh h r0 = some (0, 9)) (hr1 : h_r h r0 4 = some a0) (hs2 : h_sh h a0 = some (1, n1)) (hb3 : vp_in x3 n1) (hb4 : vp_in x2 n1) (kt : ¬ ((h_i h a0 x3.toNatClampNeg) = (h_i h a0 x2.toNatClampNeg)) → wpx d P_Tw_find 78 [.ref r0, .ref r1, .int x2, .int x3] [] h Q) (kf : (h_i h a0 x3.toNatClampNeg) = (h_i h a0 x2.toNatClampNeg) → wpx d P_Tw_find 72 [.ref r0, .ref r1, .int x2, .int x3] [] h Q) : wpx d P_Tw_find 57 [.ref r0, .ref r1, .int x2, .int x3] [] h Q := by
  refine st_aload (pc' := 58) rfl rfl rfl ?_
  refine st_getfr (x := some a0) (Or.inl rfl) rfl hs0 rfl hr1 (pc' := 61) rfl ?_
  refine st_iload (pc' := 62) rfl rfl rfl ?_
  refine st_iaload rfl hs2 hb3 (j := x3.toNatClampNeg) rfl (pc' := 63) rfl ?_
  refine st_aload (pc' := 64) rfl rfl rfl ?_
  refine st_getfr (x := some a0) (Or.inl rfl) rfl hs0 rfl hr1 (pc' := 67) rfl ?_
  refine st_iload (pc' := 68) rfl rfl rfl ?_
  refine st_iaload rfl hs2 hb4 (j := x2.toNatClampNeg) rfl (pc' := 69) rfl ?_
  exact st_icmp_ne (pc' := 72) rfl rfl kt kf
theorem B_Tw_find_72 {d : Nat} {h : PH} {Q : PQ} {r0 : Nat} {r1 : Nat} {x2 : Int32} {x3 : Int32}  (k : wpx d P_Tw_find 49 [.ref r0, .ref r1, .int x2, .int (x3 + 1)] [] h Q) : wpx d P_Tw_find 72 [.ref r0, .ref r1, .int x2, .int x3] [] h Q := by
  refine st_iinc (pc' := 75) (v := 1) (ls' := [.ref r0, .ref r1, .int x2, .int (x3 + 1)]) rfl rfl rfl (by decide) rfl ?_
  exact st_goto rfl k
theorem B_Tw_find_78 {d : Nat} {h : PH} {Q : PQ} {r0 : Nat} {r1 : Nat} {x2 : Int32} {x3 : Int32} (hs0 : h_sh h r0 = some (0, 9)) (k : wpm d 101 [.ref r0, .ref r1, .int x2, .int x3] h (fun r h' => wpx d P_Tw_find 85 [.ref r0, .ref r1, .int x2, .int x3] (r.toList ++ []) h' Q)) : wpx d P_Tw_find 78 [.ref r0, .ref r1, .int x2, .int x3] [] h Q := by
  refine st_aload (pc' := 79) rfl rfl rfl ?_
  refine st_aload (pc' := 80) rfl rfl rfl ?_
  refine st_iload (pc' := 81) rfl rfl rfl ?_
  refine st_iload (pc' := 82) rfl rfl rfl ?_
  exact st_call (pc' := 85) (as := [.ref r0, .ref r1, .int x2, .int x3]) (rest := []) rfl rfl (Nat.le_of_ble_eq_true rfl) rfl rfl (Nat.le_of_ble_eq_true rfl) (kd := 1) (o := 9) rfl rfl (beq_iff_eq.mpr hs0) k
theorem B_Tw_find_85 {d : Nat} {h : PH} {Q : PQ} {r0 : Nat} {r1 : Nat} {x2 : Int32} {x3 : Int32} {s0 : Int32}  (kt : s0 = 0 → wpx d P_Tw_find 90 [.ref r0, .ref r1, .int x2, .int x3] [] h Q) (kf : ¬ (s0 = 0) → wpx d P_Tw_find 88 [.ref r0, .ref r1, .int x2, .int x3] [] h Q) : wpx d P_Tw_find 85 [.ref r0, .ref r1, .int x2, .int x3] [.int s0] h Q := by
  exact st_if_eq (pc' := 88) rfl rfl kt kf
theorem B_Tw_find_88 {d : Nat} {h : PH} {Q : PQ} {r0 : Nat} {r1 : Nat} {x2 : Int32} {x3 : Int32}  (k : Q (some (.int 1)) h) : wpx d P_Tw_find 88 [.ref r0, .ref r1, .int x2, .int x3] [] h Q := by
  refine st_ipush (pc' := 89) (v := 1) rfl rfl (by decide) ?_
  exact st_ireturn (ty := .boolean) rfl rfl (by decide) k
theorem B_Tw_find_90 {d : Nat} {h : PH} {Q : PQ} {r0 : Nat} {r1 : Nat} {x2 : Int32} {x3 : Int32}  (k : wpx d P_Tw_find 30 [.ref r0, .ref r1, .int x3, .int x3] [] h Q) : wpx d P_Tw_find 90 [.ref r0, .ref r1, .int x2, .int x3] [] h Q := by
  refine st_iload (pc' := 91) rfl rfl rfl ?_
  refine st_istore (pc' := 92) (ls' := [.ref r0, .ref r1, .int x3, .int x3]) rfl rfl (Nat.le_of_ble_eq_true rfl) rfl ?_
  exact st_goto rfl k
theorem B_Tw_find_95 {d : Nat} {h : PH} {Q : PQ} {r0 : Nat} {r1 : Nat} {x2 : Int32} {v3 : Value}  (k : Q (some (.int 0)) h) : wpx d P_Tw_find 95 [.ref r0, .ref r1, .int x2, v3] [] h Q := by
  refine st_ipush (pc' := 96) (v := 0) rfl rfl (by decide) ?_
  exact st_ireturn (ty := .boolean) rfl rfl (by decide) k
theorem B_Tw_goOn_0 {d : Nat} {h : PH} {Q : PQ} {r0 : Nat} {r1 : Nat} {x2 : Int32} {x3 : Int32} {v4 : Value} {v5 : Value}  (k : wpx d P_Tw_goOn 3 [.ref r0, .ref r1, .int x2, .int x3, .int 1, v5] [] h Q) : wpx d P_Tw_goOn 0 [.ref r0, .ref r1, .int x2, .int x3, v4, v5] [] h Q := by
  refine st_ipush (pc' := 1) (v := 1) rfl rfl (by decide) ?_
  refine st_istore (pc' := 3) (ls' := [.ref r0, .ref r1, .int x2, .int x3, .int 1, v5]) rfl rfl (Nat.le_of_ble_eq_true rfl) rfl ?_
  exact k
theorem B_Tw_goOn_3 {d : Nat} {h : PH} {Q : PQ} {r0 : Nat} {r1 : Nat} {x2 : Int32} {x3 : Int32} {x4 : Int32} {v5 : Value}  (kt : (27 : Int32) < x4 → wpx d P_Tw_goOn 76 [.ref r0, .ref r1, .int x2, .int x3, .int x4, v5] [] h Q) (kf : ¬ ((27 : Int32) < x4) → wpx d P_Tw_goOn 10 [.ref r0, .ref r1, .int x2, .int x3, .int x4, v5] [] h Q) : wpx d P_Tw_goOn 3 [.ref r0, .ref r1, .int x2, .int x3, .int x4, v5] [] h Q := by
  refine st_iload (pc' := 5) rfl rfl rfl ?_
  refine st_ipush (pc' := 7) (v := 27) rfl rfl (by decide) ?_
  exact st_icmp_gt (pc' := 10) rfl rfl kt kf
theorem B_Tw_goOn_10 {d : Nat} {h : PH} {Q : PQ} {r0 : Nat} {r1 : Nat} {x2 : Int32} {x3 : Int32} {x4 : Int32} {v5 : Value} (hs0 : h_sh h r0 = some (0, 9)) (k : wpx d P_Tw_goOn 23 [.ref r0, .ref r1, .int x2, .int x3, .int x4, .int x2] [] (w_i h r0 6 ((h_i h r0 6) + (1 : Int32))) Q) : wpx d P_Tw_goOn 10 [.ref r0, .ref r1, .int x2, .int x3, .int x4, v5] [] h Q := by
  refine st_aload (pc' := 11) rfl rfl rfl ?_
  refine st_dup (pc' := 12) rfl rfl rfl ?_
  refine st_getfi (Or.inl rfl) rfl hs0 rfl (pc' := 15) rfl ?_
  refine st_ipush (pc' := 16) (v := 1) rfl rfl (by decide) ?_
  refine st_iadd (pc' := 17) rfl rfl ?_
  refine st_putf (h' := w_i h r0 6 ((h_i h r0 6) + (1 : Int32))) (Or.inl rfl) rfl hs0 rfl rfl rfl (pc' := 20) rfl ?_
  refine st_iload (pc' := 21) rfl rfl rfl ?_
  refine st_istore (pc' := 23) (ls' := [.ref r0, .ref r1, .int x2, .int x3, .int x4, .int x2]) rfl rfl (Nat.le_of_ble_eq_true rfl) rfl ?_
  exact k
theorem B_Tw_goOn_23 {d : Nat} {h : PH} {Q : PQ} {r0 : Nat} {r1 : Nat} {x2 : Int32} {x3 : Int32} {x4 : Int32} {x5 : Int32}  (kt : x3 ≤ x5 → wpx d P_Tw_goOn 70 [.ref r0, .ref r1, .int x2, .int x3, .int x4, .int x5] [] h Q) (kf : ¬ (x3 ≤ x5) → wpx d P_Tw_goOn 29 [.ref r0, .ref r1, .int x2, .int x3, .int x4, .int x5] [] h Q) : wpx d P_Tw_goOn 23 [.ref r0, .ref r1, .int x2, .int x3, .int x4, .int x5] [] h Q := by
  refine st_iload (pc' := 25) rfl rfl rfl ?_
  refine st_iload (pc' := 26) rfl rfl rfl ?_
  exact st_icmp_ge (pc' := 29) rfl rfl kt kf
theorem B_Tw_goOn_29 {d : Nat} {h : PH} {Q : PQ} {r0 : Nat} {r1 : Nat} {x2 : Int32} {x3 : Int32} {x4 : Int32} {x5 : Int32} (hs0 : h_sh h r1 = some (0, 8)) (k : wpm d 96 [.ref r1, .int x4] h (fun r h' => wpx d P_Tw_goOn 35 [.ref r0, .ref r1, .int x2, .int x3, .int x4, .int x5] (r.toList ++ []) h' Q)) : wpx d P_Tw_goOn 29 [.ref r0, .ref r1, .int x2, .int x3, .int x4, .int x5] [] h Q := by
  refine st_aload (pc' := 30) rfl rfl rfl ?_
  refine st_iload (pc' := 32) rfl rfl rfl ?_
  exact st_call (pc' := 35) (as := [.ref r1, .int x4]) (rest := []) rfl rfl (Nat.le_of_ble_eq_true rfl) rfl rfl (Nat.le_of_ble_eq_true rfl) (kd := 1) (o := 8) rfl rfl (beq_iff_eq.mpr hs0) k
theorem B_Tw_goOn_35 {d : Nat} {h : PH} {Q : PQ} {r0 : Nat} {r1 : Nat} {x2 : Int32} {x3 : Int32} {x4 : Int32} {x5 : Int32} {s0 : Int32}  (kt : s0 = 0 → wpx d P_Tw_goOn 70 [.ref r0, .ref r1, .int x2, .int x3, .int x4, .int x5] [] h Q) (kf : ¬ (s0 = 0) → wpx d P_Tw_goOn 38 [.ref r0, .ref r1, .int x2, .int x3, .int x4, .int x5] [] h Q) : wpx d P_Tw_goOn 35 [.ref r0, .ref r1, .int x2, .int x3, .int x4, .int x5] [.int s0] h Q := by
  exact st_if_eq (pc' := 38) rfl rfl kt kf
theorem B_Tw_goOn_38 {d : Nat} {h : PH} {Q : PQ} {r0 : Nat} {r1 : Nat} {x2 : Int32} {x3 : Int32} {x4 : Int32} {x5 : Int32} (hs0 : h_sh h r0 = some (0, 9)) (k : wpm d 102 [.ref r0, .ref r1, .int x5, .int x4] h (fun r h' => wpx d P_Tw_goOn 47 [.ref r0, .ref r1, .int x2, .int x3, .int x4, .int x5] (r.toList ++ []) h' Q)) : wpx d P_Tw_goOn 38 [.ref r0, .ref r1, .int x2, .int x3, .int x4, .int x5] [] h Q := by
  refine st_aload (pc' := 39) rfl rfl rfl ?_
  refine st_aload (pc' := 40) rfl rfl rfl ?_
  refine st_iload (pc' := 42) rfl rfl rfl ?_
  refine st_iload (pc' := 44) rfl rfl rfl ?_
  exact st_call (pc' := 47) (as := [.ref r0, .ref r1, .int x5, .int x4]) (rest := []) rfl rfl (Nat.le_of_ble_eq_true rfl) rfl rfl (Nat.le_of_ble_eq_true rfl) (kd := 1) (o := 9) rfl rfl (beq_iff_eq.mpr hs0) k
theorem B_Tw_goOn_47 {d : Nat} {h : PH} {Q : PQ} {r0 : Nat} {r1 : Nat} {x2 : Int32} {x3 : Int32} {x4 : Int32} {x5 : Int32} {s0 : Int32}  (kt : s0 = 0 → wpx d P_Tw_goOn 64 [.ref r0, .ref r1, .int x2, .int x3, .int x4, .int x5] [] h Q) (kf : ¬ (s0 = 0) → wpx d P_Tw_goOn 50 [.ref r0, .ref r1, .int x2, .int x3, .int x4, .int x5] [] h Q) : wpx d P_Tw_goOn 47 [.ref r0, .ref r1, .int x2, .int x3, .int x4, .int x5] [.int s0] h Q := by
  exact st_if_eq (pc' := 50) rfl rfl kt kf
theorem B_Tw_goOn_50 {d : Nat} {h : PH} {Q : PQ} {r0 : Nat} {r1 : Nat} {x2 : Int32} {x3 : Int32} {x4 : Int32} {x5 : Int32} (hs0 : h_sh h r0 = some (0, 9)) (k : Q (some (.int 1)) (w_i (w_i h r0 7 x5) r0 8 x4)) : wpx d P_Tw_goOn 50 [.ref r0, .ref r1, .int x2, .int x3, .int x4, .int x5] [] h Q := by
  refine st_aload (pc' := 51) rfl rfl rfl ?_
  refine st_iload (pc' := 53) rfl rfl rfl ?_
  refine st_putf (h' := w_i h r0 7 x5) (Or.inl rfl) rfl hs0 rfl rfl rfl (pc' := 56) rfl ?_
  refine st_aload (pc' := 57) rfl rfl rfl ?_
  refine st_iload (pc' := 59) rfl rfl rfl ?_
  refine st_putf (h' := w_i (w_i h r0 7 x5) r0 8 x4) (Or.inl rfl) rfl hs0 rfl rfl rfl (pc' := 62) rfl ?_
  refine st_ipush (pc' := 63) (v := 1) rfl rfl (by decide) ?_
  exact st_ireturn (ty := .boolean) rfl rfl (by decide) k
theorem B_Tw_goOn_64 {d : Nat} {h : PH} {Q : PQ} {r0 : Nat} {r1 : Nat} {x2 : Int32} {x3 : Int32} {x4 : Int32} {x5 : Int32}  (k : wpx d P_Tw_goOn 23 [.ref r0, .ref r1, .int x2, .int x3, .int x4, .int (x5 + 1)] [] h Q) : wpx d P_Tw_goOn 64 [.ref r0, .ref r1, .int x2, .int x3, .int x4, .int x5] [] h Q := by
  refine st_iinc (pc' := 67) (v := 1) (ls' := [.ref r0, .ref r1, .int x2, .int x3, .int x4, .int (x5 + 1)]) rfl rfl rfl (by decide) rfl ?_
  exact st_goto rfl k
theorem B_Tw_goOn_70 {d : Nat} {h : PH} {Q : PQ} {r0 : Nat} {r1 : Nat} {x2 : Int32} {x3 : Int32} {x4 : Int32} {x5 : Int32}  (k : wpx d P_Tw_goOn 3 [.ref r0, .ref r1, .int x2, .int x3, .int (x4 + 1), .int x5] [] h Q) : wpx d P_Tw_goOn 70 [.ref r0, .ref r1, .int x2, .int x3, .int x4, .int x5] [] h Q := by
  refine st_iinc (pc' := 73) (v := 1) (ls' := [.ref r0, .ref r1, .int x2, .int x3, .int (x4 + 1), .int x5]) rfl rfl rfl (by decide) rfl ?_
  exact st_goto rfl k
theorem B_Tw_goOn_76 {d : Nat} {h : PH} {Q : PQ} {r0 : Nat} {r1 : Nat} {x2 : Int32} {x3 : Int32} {x4 : Int32} {v5 : Value}  (k : Q (some (.int 0)) h) : wpx d P_Tw_goOn 76 [.ref r0, .ref r1, .int x2, .int x3, .int x4, v5] [] h Q := by
  refine st_ipush (pc' := 77) (v := 0) rfl rfl (by decide) ?_
  exact st_ireturn (ty := .boolean) rfl rfl (by decide) k
theorem B_Tw_step_0 {d : Nat} {h : PH} {Q : PQ} {r0 : Nat} {r1 : Nat} {x2 : Int32} {x3 : Int32} {v4 : Value} {v5 : Value} {v6 : Value} {v7 : Value} {a0 : Nat} {n1 : Nat} (hs0 : h_sh h r0 = some (0, 9)) (hr1 : h_r h r0 1 = some a0) (hs2 : h_sh h a0 = some (1, n1)) (hb3 : vp_in x2 n1) (hs4 : h_sh h r1 = some (0, 8)) (k : wpm d 97 [.ref r1, .int ((h_i h a0 x2.toNatClampNeg) / (8 : Int32)), .int x3] h (fun r h' => wpx d P_Tw_step 29 [.ref r0, .ref r1, .int x2, .int x3, .int ((h_i h a0 x2.toNatClampNeg) / (8 : Int32)), .int ((h_i h a0 x2.toNatClampNeg) - (h_i h a0 x2.toNatClampNeg) / (8 : Int32) * (8 : Int32)), v6, v7] (r.toList ++ []) h' Q)) : wpx d P_Tw_step 0 [.ref r0, .ref r1, .int x2, .int x3, v4, v5, v6, v7] [] h Q := by
  refine st_aload (pc' := 1) rfl rfl rfl ?_
  refine st_getfr (x := some a0) (Or.inl rfl) rfl hs0 rfl hr1 (pc' := 4) rfl ?_
  refine st_iload (pc' := 5) rfl rfl rfl ?_
  refine st_iaload rfl hs2 hb3 (j := x2.toNatClampNeg) rfl (pc' := 6) rfl ?_
  refine st_ipush (pc' := 8) (v := 8) rfl rfl (by decide) ?_
  refine st_idiv rfl (by decide) (pc' := 9) rfl ?_
  refine st_istore (pc' := 11) (ls' := [.ref r0, .ref r1, .int x2, .int x3, .int ((h_i h a0 x2.toNatClampNeg) / (8 : Int32)), v5, v6, v7]) rfl rfl (Nat.le_of_ble_eq_true rfl) rfl ?_
  refine st_aload (pc' := 12) rfl rfl rfl ?_
  refine st_getfr (x := some a0) (Or.inl rfl) rfl hs0 rfl hr1 (pc' := 15) rfl ?_
  refine st_iload (pc' := 16) rfl rfl rfl ?_
  refine st_iaload rfl hs2 hb3 (j := x2.toNatClampNeg) rfl (pc' := 17) rfl ?_
  refine st_ipush (pc' := 19) (v := 8) rfl rfl (by decide) ?_
  refine st_irem rfl (by decide) (pc' := 20) rfl ?_
  refine st_istore (pc' := 22) (ls' := [.ref r0, .ref r1, .int x2, .int x3, .int ((h_i h a0 x2.toNatClampNeg) / (8 : Int32)), .int ((h_i h a0 x2.toNatClampNeg) - (h_i h a0 x2.toNatClampNeg) / (8 : Int32) * (8 : Int32)), v6, v7]) rfl rfl (Nat.le_of_ble_eq_true rfl) rfl ?_
  refine st_aload (pc' := 23) rfl rfl rfl ?_
  refine st_iload (pc' := 25) rfl rfl rfl ?_
  refine st_iload (pc' := 26) rfl rfl rfl ?_
  exact st_call (pc' := 29) (as := [.ref r1, .int ((h_i h a0 x2.toNatClampNeg) / (8 : Int32)), .int x3]) (rest := []) rfl rfl (Nat.le_of_ble_eq_true rfl) rfl rfl (Nat.le_of_ble_eq_true rfl) (kd := 1) (o := 8) rfl rfl (beq_iff_eq.mpr hs4) k
theorem B_Tw_step_29 {d : Nat} {h : PH} {Q : PQ} {r0 : Nat} {r1 : Nat} {x2 : Int32} {x3 : Int32} {x4 : Int32} {x5 : Int32} {v6 : Value} {v7 : Value} {s0 : Int32} (hs0 : h_sh h r1 = some (0, 8)) (k : wpm d 98 [.ref r1, .int x4, .int x5] h (fun r h' => wpx d P_Tw_step 40 [.ref r0, .ref r1, .int x2, .int x3, .int x4, .int x5, .int s0, v7] (r.toList ++ [.ref r1]) h' Q)) : wpx d P_Tw_step 29 [.ref r0, .ref r1, .int x2, .int x3, .int x4, .int x5, v6, v7] [.int s0] h Q := by
  refine st_istore (pc' := 31) (ls' := [.ref r0, .ref r1, .int x2, .int x3, .int x4, .int x5, .int s0, v7]) rfl rfl (Nat.le_of_ble_eq_true rfl) rfl ?_
  refine st_aload (pc' := 32) rfl rfl rfl ?_
  refine st_aload (pc' := 33) rfl rfl rfl ?_
  refine st_iload (pc' := 35) rfl rfl rfl ?_
  refine st_iload (pc' := 37) rfl rfl rfl ?_
  exact st_call (pc' := 40) (as := [.ref r1, .int x4, .int x5]) (rest := [.ref r1]) rfl rfl (Nat.le_of_ble_eq_true rfl) rfl rfl (Nat.le_of_ble_eq_true rfl) (kd := 1) (o := 8) rfl rfl (beq_iff_eq.mpr hs0) k
theorem B_Tw_step_40 {d : Nat} {h : PH} {Q : PQ} {r0 : Nat} {r1 : Nat} {x2 : Int32} {x3 : Int32} {x4 : Int32} {x5 : Int32} {x6 : Int32} {v7 : Value} {q0 : Nat} {s1 : Int32} (hs0 : h_sh h q0 = some (0, 8)) (k : wpm d 97 [.ref q0, .int s1, .int x3] h (fun r h' => wpx d P_Tw_step 44 [.ref r0, .ref r1, .int x2, .int x3, .int x4, .int x5, .int x6, v7] (r.toList ++ []) h' Q)) : wpx d P_Tw_step 40 [.ref r0, .ref r1, .int x2, .int x3, .int x4, .int x5, .int x6, v7] [.int s1, .ref q0] h Q := by
  refine st_iload (pc' := 41) rfl rfl rfl ?_
  exact st_call (pc' := 44) (as := [.ref q0, .int s1, .int x3]) (rest := []) rfl rfl (Nat.le_of_ble_eq_true rfl) rfl rfl (Nat.le_of_ble_eq_true rfl) (kd := 1) (o := 8) rfl rfl (beq_iff_eq.mpr hs0) k
theorem B_Tw_step_44 {d : Nat} {h : PH} {Q : PQ} {r0 : Nat} {r1 : Nat} {x2 : Int32} {x3 : Int32} {x4 : Int32} {x5 : Int32} {x6 : Int32} {v7 : Value} {s0 : Int32}  (kt : x6 = ((-1) : Int32) → wpx d P_Tw_step 58 [.ref r0, .ref r1, .int x2, .int x3, .int x4, .int x5, .int x6, .int s0] [] h Q) (kf : ¬ (x6 = ((-1) : Int32)) → wpx d P_Tw_step 52 [.ref r0, .ref r1, .int x2, .int x3, .int x4, .int x5, .int x6, .int s0] [] h Q) : wpx d P_Tw_step 44 [.ref r0, .ref r1, .int x2, .int x3, .int x4, .int x5, .int x6, v7] [.int s0] h Q := by
  refine st_istore (pc' := 46) (ls' := [.ref r0, .ref r1, .int x2, .int x3, .int x4, .int x5, .int x6, .int s0]) rfl rfl (Nat.le_of_ble_eq_true rfl) rfl ?_
  refine st_iload (pc' := 48) rfl rfl rfl ?_
  refine st_ipush (pc' := 49) (v := (-1)) rfl rfl (by decide) ?_
  exact st_icmp_eq (pc' := 52) rfl rfl kt kf
theorem B_Tw_step_52 {d : Nat} {h : PH} {Q : PQ} {r0 : Nat} {r1 : Nat} {x2 : Int32} {x3 : Int32} {x4 : Int32} {x5 : Int32} {x6 : Int32} {x7 : Int32}  (kt : ¬ (x7 = ((-1) : Int32)) → wpx d P_Tw_step 60 [.ref r0, .ref r1, .int x2, .int x3, .int x4, .int x5, .int x6, .int x7] [] h Q) (kf : x7 = ((-1) : Int32) → wpx d P_Tw_step 58 [.ref r0, .ref r1, .int x2, .int x3, .int x4, .int x5, .int x6, .int x7] [] h Q) : wpx d P_Tw_step 52 [.ref r0, .ref r1, .int x2, .int x3, .int x4, .int x5, .int x6, .int x7] [] h Q := by
  refine st_iload (pc' := 54) rfl rfl rfl ?_
  refine st_ipush (pc' := 55) (v := (-1)) rfl rfl (by decide) ?_
  exact st_icmp_ne (pc' := 58) rfl rfl kt kf
theorem B_Tw_step_58 {d : Nat} {h : PH} {Q : PQ} {r0 : Nat} {r1 : Nat} {x2 : Int32} {x3 : Int32} {x4 : Int32} {x5 : Int32} {x6 : Int32} {x7 : Int32}  (k : Q (some (.int 0)) h) : wpx d P_Tw_step 58 [.ref r0, .ref r1, .int x2, .int x3, .int x4, .int x5, .int x6, .int x7] [] h Q := by
  refine st_ipush (pc' := 59) (v := 0) rfl rfl (by decide) ?_
  exact st_ireturn (ty := .boolean) rfl rfl (by decide) k
theorem B_Tw_step_60 {d : Nat} {h : PH} {Q : PQ} {r0 : Nat} {r1 : Nat} {x2 : Int32} {x3 : Int32} {x4 : Int32} {x5 : Int32} {x6 : Int32} {x7 : Int32}  (kt : ¬ (x6 = x7) → wpx d P_Tw_step 123 [.ref r0, .ref r1, .int x2, .int x3, .int x4, .int x5, .int x6, .int x7] [] h Q) (kf : x6 = x7 → wpx d P_Tw_step 67 [.ref r0, .ref r1, .int x2, .int x3, .int x4, .int x5, .int x6, .int x7] [] h Q) : wpx d P_Tw_step 60 [.ref r0, .ref r1, .int x2, .int x3, .int x4, .int x5, .int x6, .int x7] [] h Q := by
  refine st_iload (pc' := 62) rfl rfl rfl ?_
  refine st_iload (pc' := 64) rfl rfl rfl ?_
  exact st_icmp_ne (pc' := 67) rfl rfl kt kf
theorem B_Tw_step_67 {d : Nat} {h : PH} {Q : PQ} {r0 : Nat} {r1 : Nat} {x2 : Int32} {x3 : Int32} {x4 : Int32} {x5 : Int32} {x6 : Int32} {x7 : Int32} {a0 : Nat} {n1 : Nat} (hs0 : h_sh h r1 = some (0, 8)) (hr1 : h_r h r1 4 = some a0) (hs2 : h_sh h a0 = some (3, n1)) (hb3 : vp_in x6 n1) (kt : (h_i h a0 x6.toNatClampNeg) = 0 → wpx d P_Tw_step 92 [.ref r0, .ref r1, .int x2, .int x3, .int x4, .int x5, .int x6, .int x7] [] h Q) (kf : ¬ ((h_i h a0 x6.toNatClampNeg) = 0) → wpx d P_Tw_step 77 [.ref r0, .ref r1, .int x2, .int x3, .int x4, .int x5, .int x6, .int x7] [] h Q) : wpx d P_Tw_step 67 [.ref r0, .ref r1, .int x2, .int x3, .int x4, .int x5, .int x6, .int x7] [] h Q := by
  refine st_aload (pc' := 68) rfl rfl rfl ?_
  refine st_getfr (x := some a0) (Or.inr rfl) rfl hs0 rfl hr1 (pc' := 71) rfl ?_
  refine st_iload (pc' := 73) rfl rfl rfl ?_
  refine st_baload rfl (Or.inr hs2) hb3 (j := x6.toNatClampNeg) rfl (pc' := 74) rfl ?_
  exact st_if_eq (pc' := 77) rfl rfl kt kf
theorem B_Tw_step_77 {d : Nat} {h : PH} {Q : PQ} {r0 : Nat} {r1 : Nat} {x2 : Int32} {x3 : Int32} {x4 : Int32} {x5 : Int32} {x6 : Int32} {x7 : Int32} {a0 : Nat} {n1 : Nat} (hs0 : h_sh h r1 = some (0, 8)) (hr1 : h_r h r1 2 = some a0) (hs2 : h_sh h a0 = some (1, n1)) (hb3 : vp_in x6 n1) (hs4 : h_sh h r0 = some (0, 9)) (k : wpm d 103 [.ref r0, .int x6, .int (h_i h a0 x6.toNatClampNeg), .int x2, .int x3] h (fun r h' => wpx d P_Tw_step 92 [.ref r0, .ref r1, .int x2, .int x3, .int x4, .int x5, .int x6, .int x7] (r.toList ++ []) h' Q)) : wpx d P_Tw_step 77 [.ref r0, .ref r1, .int x2, .int x3, .int x4, .int x5, .int x6, .int x7] [] h Q := by
  refine st_aload (pc' := 78) rfl rfl rfl ?_
  refine st_iload (pc' := 80) rfl rfl rfl ?_
  refine st_aload (pc' := 81) rfl rfl rfl ?_
  refine st_getfr (x := some a0) (Or.inr rfl) rfl hs0 rfl hr1 (pc' := 84) rfl ?_
  refine st_iload (pc' := 86) rfl rfl rfl ?_
  refine st_iaload rfl hs2 hb3 (j := x6.toNatClampNeg) rfl (pc' := 87) rfl ?_
  refine st_iload (pc' := 88) rfl rfl rfl ?_
  refine st_iload (pc' := 89) rfl rfl rfl ?_
  exact st_call (pc' := 92) (as := [.ref r0, .int x6, .int (h_i h a0 x6.toNatClampNeg), .int x2, .int x3]) (rest := []) rfl rfl (Nat.le_of_ble_eq_true rfl) rfl rfl (Nat.le_of_ble_eq_true rfl) (kd := 1) (o := 9) rfl rfl (beq_iff_eq.mpr hs4) k
theorem B_Tw_step_92 {d : Nat} {h : PH} {Q : PQ} {r0 : Nat} {r1 : Nat} {x2 : Int32} {x3 : Int32} {x4 : Int32} {x5 : Int32} {x6 : Int32} {x7 : Int32} {a0 : Nat} {n1 : Nat} (hs0 : h_sh h r1 = some (0, 8)) (hr1 : h_r h r1 4 = some a0) (hs2 : h_sh h a0 = some (3, n1)) (hb3 : vp_in x6 n1) (kt : (h_i h a0 x6.toNatClampNeg) = 0 → wpx d P_Tw_step 121 [.ref r0, .ref r1, .int x2, .int x3, .int x4, .int x5, .int x6, .int x7] [] h Q) (kf : ¬ ((h_i h a0 x6.toNatClampNeg) = 0) → wpx d P_Tw_step 102 [.ref r0, .ref r1, .int x2, .int x3, .int x4, .int x5, .int x6, .int x7] [] h Q) : wpx d P_Tw_step 92 [.ref r0, .ref r1, .int x2, .int x3, .int x4, .int x5, .int x6, .int x7] [] h Q := by
  refine st_aload (pc' := 93) rfl rfl rfl ?_
  refine st_getfr (x := some a0) (Or.inr rfl) rfl hs0 rfl hr1 (pc' := 96) rfl ?_
  refine st_iload (pc' := 98) rfl rfl rfl ?_
  refine st_baload rfl (Or.inr hs2) hb3 (j := x6.toNatClampNeg) rfl (pc' := 99) rfl ?_
  exact st_if_eq (pc' := 102) rfl rfl kt kf
theorem B_Tw_step_102 {d : Nat} {h : PH} {Q : PQ} {r0 : Nat} {r1 : Nat} {x2 : Int32} {x3 : Int32} {x4 : Int32} {x5 : Int32} {x6 : Int32} {x7 : Int32} {a0 : Nat} {n1 : Nat} (hs0 : h_sh h r1 = some (0, 8)) (hr1 : h_r h r1 3 = some a0) (hs2 : h_sh h a0 = some (3, n1)) (hb3 : vp_in x6 n1) (kt : (h_i h a0 x6.toNatClampNeg) = 0 → wpx d P_Tw_step 121 [.ref r0, .ref r1, .int x2, .int x3, .int x4, .int x5, .int x6, .int x7] [] h Q) (kf : ¬ ((h_i h a0 x6.toNatClampNeg) = 0) → wpx d P_Tw_step 112 [.ref r0, .ref r1, .int x2, .int x3, .int x4, .int x5, .int x6, .int x7] [] h Q) : wpx d P_Tw_step 102 [.ref r0, .ref r1, .int x2, .int x3, .int x4, .int x5, .int x6, .int x7] [] h Q := by
  refine st_aload (pc' := 103) rfl rfl rfl ?_
  refine st_getfr (x := some a0) (Or.inr rfl) rfl hs0 rfl hr1 (pc' := 106) rfl ?_
  refine st_iload (pc' := 108) rfl rfl rfl ?_
  refine st_baload rfl (Or.inr hs2) hb3 (j := x6.toNatClampNeg) rfl (pc' := 109) rfl ?_
  exact st_if_eq (pc' := 112) rfl rfl kt kf
theorem B_Tw_step_112 {d : Nat} {h : PH} {Q : PQ} {r0 : Nat} {r1 : Nat} {x2 : Int32} {x3 : Int32} {x4 : Int32} {x5 : Int32} {x6 : Int32} {x7 : Int32} (hs0 : h_sh h r0 = some (0, 9)) (k : wpm d 103 [.ref r0, .int x6, .int 0, .int x2, .int x3] h (fun r h' => wpx d P_Tw_step 121 [.ref r0, .ref r1, .int x2, .int x3, .int x4, .int x5, .int x6, .int x7] (r.toList ++ []) h' Q)) : wpx d P_Tw_step 112 [.ref r0, .ref r1, .int x2, .int x3, .int x4, .int x5, .int x6, .int x7] [] h Q := by
  refine st_aload (pc' := 113) rfl rfl rfl ?_
  refine st_iload (pc' := 115) rfl rfl rfl ?_
  refine st_ipush (pc' := 116) (v := 0) rfl rfl (by decide) ?_
  refine st_iload (pc' := 117) rfl rfl rfl ?_
  refine st_iload (pc' := 118) rfl rfl rfl ?_
  exact st_call (pc' := 121) (as := [.ref r0, .int x6, .int 0, .int x2, .int x3]) (rest := []) rfl rfl (Nat.le_of_ble_eq_true rfl) rfl rfl (Nat.le_of_ble_eq_true rfl) (kd := 1) (o := 9) rfl rfl (beq_iff_eq.mpr hs0) k
theorem B_Tw_step_121 {d : Nat} {h : PH} {Q : PQ} {r0 : Nat} {r1 : Nat} {x2 : Int32} {x3 : Int32} {x4 : Int32} {x5 : Int32} {x6 : Int32} {x7 : Int32}  (k : Q (some (.int 0)) h) : wpx d P_Tw_step 121 [.ref r0, .ref r1, .int x2, .int x3, .int x4, .int x5, .int x6, .int x7] [] h Q := by
  refine st_ipush (pc' := 122) (v := 0) rfl rfl (by decide) ?_
  exact st_ireturn (ty := .boolean) rfl rfl (by decide) k
theorem B_Tw_step_123 {d : Nat} {h : PH} {Q : PQ} {r0 : Nat} {r1 : Nat} {x2 : Int32} {x3 : Int32} {x4 : Int32} {x5 : Int32} {x6 : Int32} {x7 : Int32} {a0 : Nat} {n1 : Nat} (hs0 : h_sh h r1 = some (0, 8)) (hr1 : h_r h r1 4 = some a0) (hs2 : h_sh h a0 = some (3, n1)) (hb3 : vp_in x6 n1) (kt : (h_i h a0 x6.toNatClampNeg) = 0 → wpx d P_Tw_step 158 [.ref r0, .ref r1, .int x2, .int x3, .int x4, .int x5, .int x6, .int x7] [] h Q) (kf : ¬ ((h_i h a0 x6.toNatClampNeg) = 0) → wpx d P_Tw_step 133 [.ref r0, .ref r1, .int x2, .int x3, .int x4, .int x5, .int x6, .int x7] [] h Q) : wpx d P_Tw_step 123 [.ref r0, .ref r1, .int x2, .int x3, .int x4, .int x5, .int x6, .int x7] [] h Q := by
  refine st_aload (pc' := 124) rfl rfl rfl ?_
  refine st_getfr (x := some a0) (Or.inr rfl) rfl hs0 rfl hr1 (pc' := 127) rfl ?_
  refine st_iload (pc' := 129) rfl rfl rfl ?_
  refine st_baload rfl (Or.inr hs2) hb3 (j := x6.toNatClampNeg) rfl (pc' := 130) rfl ?_
  exact st_if_eq (pc' := 133) rfl rfl kt kf
theorem B_Tw_step_133 {d : Nat} {h : PH} {Q : PQ} {r0 : Nat} {r1 : Nat} {x2 : Int32} {x3 : Int32} {x4 : Int32} {x5 : Int32} {x6 : Int32} {x7 : Int32} {a0 : Nat} {n1 : Nat} (hs0 : h_sh h r1 = some (0, 8)) (hr1 : h_r h r1 4 = some a0) (hs2 : h_sh h a0 = some (3, n1)) (hb3 : vp_in x7 n1) (kt : (h_i h a0 x7.toNatClampNeg) = 0 → wpx d P_Tw_step 158 [.ref r0, .ref r1, .int x2, .int x3, .int x4, .int x5, .int x6, .int x7] [] h Q) (kf : ¬ ((h_i h a0 x7.toNatClampNeg) = 0) → wpx d P_Tw_step 143 [.ref r0, .ref r1, .int x2, .int x3, .int x4, .int x5, .int x6, .int x7] [] h Q) : wpx d P_Tw_step 133 [.ref r0, .ref r1, .int x2, .int x3, .int x4, .int x5, .int x6, .int x7] [] h Q := by
  refine st_aload (pc' := 134) rfl rfl rfl ?_
  refine st_getfr (x := some a0) (Or.inr rfl) rfl hs0 rfl hr1 (pc' := 137) rfl ?_
  refine st_iload (pc' := 139) rfl rfl rfl ?_
  refine st_baload rfl (Or.inr hs2) hb3 (j := x7.toNatClampNeg) rfl (pc' := 140) rfl ?_
  exact st_if_eq (pc' := 143) rfl rfl kt kf
theorem B_Tw_step_143 {d : Nat} {h : PH} {Q : PQ} {r0 : Nat} {r1 : Nat} {x2 : Int32} {x3 : Int32} {x4 : Int32} {x5 : Int32} {x6 : Int32} {x7 : Int32} {a0 : Nat} {n1 : Nat} (hs0 : h_sh h r1 = some (0, 8)) (hr1 : h_r h r1 2 = some a0) (hs2 : h_sh h a0 = some (1, n1)) (hb3 : vp_in x7 n1) (hs4 : h_sh h r0 = some (0, 9)) (k : wpm d 103 [.ref r0, .int x6, .int (h_i h a0 x7.toNatClampNeg), .int x2, .int x3] h (fun r h' => wpx d P_Tw_step 158 [.ref r0, .ref r1, .int x2, .int x3, .int x4, .int x5, .int x6, .int x7] (r.toList ++ []) h' Q)) : wpx d P_Tw_step 143 [.ref r0, .ref r1, .int x2, .int x3, .int x4, .int x5, .int x6, .int x7] [] h Q := by
  refine st_aload (pc' := 144) rfl rfl rfl ?_
  refine st_iload (pc' := 146) rfl rfl rfl ?_
  refine st_aload (pc' := 147) rfl rfl rfl ?_
  refine st_getfr (x := some a0) (Or.inr rfl) rfl hs0 rfl hr1 (pc' := 150) rfl ?_
  refine st_iload (pc' := 152) rfl rfl rfl ?_
  refine st_iaload rfl hs2 hb3 (j := x7.toNatClampNeg) rfl (pc' := 153) rfl ?_
  refine st_iload (pc' := 154) rfl rfl rfl ?_
  refine st_iload (pc' := 155) rfl rfl rfl ?_
  exact st_call (pc' := 158) (as := [.ref r0, .int x6, .int (h_i h a0 x7.toNatClampNeg), .int x2, .int x3]) (rest := []) rfl rfl (Nat.le_of_ble_eq_true rfl) rfl rfl (Nat.le_of_ble_eq_true rfl) (kd := 1) (o := 9) rfl rfl (beq_iff_eq.mpr hs4) k
theorem B_Tw_step_158 {d : Nat} {h : PH} {Q : PQ} {r0 : Nat} {r1 : Nat} {x2 : Int32} {x3 : Int32} {x4 : Int32} {x5 : Int32} {x6 : Int32} {x7 : Int32} {a0 : Nat} {n1 : Nat} (hs0 : h_sh h r1 = some (0, 8)) (hr1 : h_r h r1 4 = some a0) (hs2 : h_sh h a0 = some (3, n1)) (hb3 : vp_in x6 n1) (kt : (h_i h a0 x6.toNatClampNeg) = 0 → wpx d P_Tw_step 187 [.ref r0, .ref r1, .int x2, .int x3, .int x4, .int x5, .int x6, .int x7] [] h Q) (kf : ¬ ((h_i h a0 x6.toNatClampNeg) = 0) → wpx d P_Tw_step 168 [.ref r0, .ref r1, .int x2, .int x3, .int x4, .int x5, .int x6, .int x7] [] h Q) : wpx d P_Tw_step 158 [.ref r0, .ref r1, .int x2, .int x3, .int x4, .int x5, .int x6, .int x7] [] h Q := by
  refine st_aload (pc' := 159) rfl rfl rfl ?_
  refine st_getfr (x := some a0) (Or.inr rfl) rfl hs0 rfl hr1 (pc' := 162) rfl ?_
  refine st_iload (pc' := 164) rfl rfl rfl ?_
  refine st_baload rfl (Or.inr hs2) hb3 (j := x6.toNatClampNeg) rfl (pc' := 165) rfl ?_
  exact st_if_eq (pc' := 168) rfl rfl kt kf
theorem B_Tw_step_168 {d : Nat} {h : PH} {Q : PQ} {r0 : Nat} {r1 : Nat} {x2 : Int32} {x3 : Int32} {x4 : Int32} {x5 : Int32} {x6 : Int32} {x7 : Int32} {a0 : Nat} {n1 : Nat} (hs0 : h_sh h r1 = some (0, 8)) (hr1 : h_r h r1 3 = some a0) (hs2 : h_sh h a0 = some (3, n1)) (hb3 : vp_in x7 n1) (kt : (h_i h a0 x7.toNatClampNeg) = 0 → wpx d P_Tw_step 187 [.ref r0, .ref r1, .int x2, .int x3, .int x4, .int x5, .int x6, .int x7] [] h Q) (kf : ¬ ((h_i h a0 x7.toNatClampNeg) = 0) → wpx d P_Tw_step 178 [.ref r0, .ref r1, .int x2, .int x3, .int x4, .int x5, .int x6, .int x7] [] h Q) : wpx d P_Tw_step 168 [.ref r0, .ref r1, .int x2, .int x3, .int x4, .int x5, .int x6, .int x7] [] h Q := by
  refine st_aload (pc' := 169) rfl rfl rfl ?_
  refine st_getfr (x := some a0) (Or.inr rfl) rfl hs0 rfl hr1 (pc' := 172) rfl ?_
  refine st_iload (pc' := 174) rfl rfl rfl ?_
  refine st_baload rfl (Or.inr hs2) hb3 (j := x7.toNatClampNeg) rfl (pc' := 175) rfl ?_
  exact st_if_eq (pc' := 178) rfl rfl kt kf
theorem B_Tw_step_178 {d : Nat} {h : PH} {Q : PQ} {r0 : Nat} {r1 : Nat} {x2 : Int32} {x3 : Int32} {x4 : Int32} {x5 : Int32} {x6 : Int32} {x7 : Int32} (hs0 : h_sh h r0 = some (0, 9)) (k : wpm d 103 [.ref r0, .int x6, .int 0, .int x2, .int x3] h (fun r h' => wpx d P_Tw_step 187 [.ref r0, .ref r1, .int x2, .int x3, .int x4, .int x5, .int x6, .int x7] (r.toList ++ []) h' Q)) : wpx d P_Tw_step 178 [.ref r0, .ref r1, .int x2, .int x3, .int x4, .int x5, .int x6, .int x7] [] h Q := by
  refine st_aload (pc' := 179) rfl rfl rfl ?_
  refine st_iload (pc' := 181) rfl rfl rfl ?_
  refine st_ipush (pc' := 182) (v := 0) rfl rfl (by decide) ?_
  refine st_iload (pc' := 183) rfl rfl rfl ?_
  refine st_iload (pc' := 184) rfl rfl rfl ?_
  exact st_call (pc' := 187) (as := [.ref r0, .int x6, .int 0, .int x2, .int x3]) (rest := []) rfl rfl (Nat.le_of_ble_eq_true rfl) rfl rfl (Nat.le_of_ble_eq_true rfl) (kd := 1) (o := 9) rfl rfl (beq_iff_eq.mpr hs0) k
theorem B_Tw_step_187 {d : Nat} {h : PH} {Q : PQ} {r0 : Nat} {r1 : Nat} {x2 : Int32} {x3 : Int32} {x4 : Int32} {x5 : Int32} {x6 : Int32} {x7 : Int32} {a0 : Nat} {n1 : Nat} (hs0 : h_sh h r1 = some (0, 8)) (hr1 : h_r h r1 3 = some a0) (hs2 : h_sh h a0 = some (3, n1)) (hb3 : vp_in x6 n1) (kt : (h_i h a0 x6.toNatClampNeg) = 0 → wpx d P_Tw_step 216 [.ref r0, .ref r1, .int x2, .int x3, .int x4, .int x5, .int x6, .int x7] [] h Q) (kf : ¬ ((h_i h a0 x6.toNatClampNeg) = 0) → wpx d P_Tw_step 197 [.ref r0, .ref r1, .int x2, .int x3, .int x4, .int x5, .int x6, .int x7] [] h Q) : wpx d P_Tw_step 187 [.ref r0, .ref r1, .int x2, .int x3, .int x4, .int x5, .int x6, .int x7] [] h Q := by
  refine st_aload (pc' := 188) rfl rfl rfl ?_
  refine st_getfr (x := some a0) (Or.inr rfl) rfl hs0 rfl hr1 (pc' := 191) rfl ?_
  refine st_iload (pc' := 193) rfl rfl rfl ?_
  refine st_baload rfl (Or.inr hs2) hb3 (j := x6.toNatClampNeg) rfl (pc' := 194) rfl ?_
  exact st_if_eq (pc' := 197) rfl rfl kt kf
theorem B_Tw_step_197 {d : Nat} {h : PH} {Q : PQ} {r0 : Nat} {r1 : Nat} {x2 : Int32} {x3 : Int32} {x4 : Int32} {x5 : Int32} {x6 : Int32} {x7 : Int32} {a0 : Nat} {n1 : Nat} (hs0 : h_sh h r1 = some (0, 8)) (hr1 : h_r h r1 4 = some a0) (hs2 : h_sh h a0 = some (3, n1)) (hb3 : vp_in x7 n1) (kt : (h_i h a0 x7.toNatClampNeg) = 0 → wpx d P_Tw_step 216 [.ref r0, .ref r1, .int x2, .int x3, .int x4, .int x5, .int x6, .int x7] [] h Q) (kf : ¬ ((h_i h a0 x7.toNatClampNeg) = 0) → wpx d P_Tw_step 207 [.ref r0, .ref r1, .int x2, .int x3, .int x4, .int x5, .int x6, .int x7] [] h Q) : wpx d P_Tw_step 197 [.ref r0, .ref r1, .int x2, .int x3, .int x4, .int x5, .int x6, .int x7] [] h Q := by
  refine st_aload (pc' := 198) rfl rfl rfl ?_
  refine st_getfr (x := some a0) (Or.inr rfl) rfl hs0 rfl hr1 (pc' := 201) rfl ?_
  refine st_iload (pc' := 203) rfl rfl rfl ?_
  refine st_baload rfl (Or.inr hs2) hb3 (j := x7.toNatClampNeg) rfl (pc' := 204) rfl ?_
  exact st_if_eq (pc' := 207) rfl rfl kt kf
theorem B_Tw_step_207 {d : Nat} {h : PH} {Q : PQ} {r0 : Nat} {r1 : Nat} {x2 : Int32} {x3 : Int32} {x4 : Int32} {x5 : Int32} {x6 : Int32} {x7 : Int32} (hs0 : h_sh h r0 = some (0, 9)) (k : wpm d 103 [.ref r0, .int x7, .int 0, .int x2, .int x3] h (fun r h' => wpx d P_Tw_step 216 [.ref r0, .ref r1, .int x2, .int x3, .int x4, .int x5, .int x6, .int x7] (r.toList ++ []) h' Q)) : wpx d P_Tw_step 207 [.ref r0, .ref r1, .int x2, .int x3, .int x4, .int x5, .int x6, .int x7] [] h Q := by
  refine st_aload (pc' := 208) rfl rfl rfl ?_
  refine st_iload (pc' := 210) rfl rfl rfl ?_
  refine st_ipush (pc' := 211) (v := 0) rfl rfl (by decide) ?_
  refine st_iload (pc' := 212) rfl rfl rfl ?_
  refine st_iload (pc' := 213) rfl rfl rfl ?_
  exact st_call (pc' := 216) (as := [.ref r0, .int x7, .int 0, .int x2, .int x3]) (rest := []) rfl rfl (Nat.le_of_ble_eq_true rfl) rfl rfl (Nat.le_of_ble_eq_true rfl) (kd := 1) (o := 9) rfl rfl (beq_iff_eq.mpr hs0) k
theorem B_Tw_step_216 {d : Nat} {h : PH} {Q : PQ} {r0 : Nat} {r1 : Nat} {x2 : Int32} {x3 : Int32} {x4 : Int32} {x5 : Int32} {x6 : Int32} {x7 : Int32} {a0 : Nat} {n1 : Nat} (hs0 : h_sh h r1 = some (0, 8)) (hr1 : h_r h r1 3 = some a0) (hs2 : h_sh h a0 = some (3, n1)) (hb3 : vp_in x6 n1) (kt : (h_i h a0 x6.toNatClampNeg) = 0 → wpx d P_Tw_step 240 [.ref r0, .ref r1, .int x2, .int x3, .int x4, .int x5, .int x6, .int x7] [] h Q) (kf : ¬ ((h_i h a0 x6.toNatClampNeg) = 0) → wpx d P_Tw_step 226 [.ref r0, .ref r1, .int x2, .int x3, .int x4, .int x5, .int x6, .int x7] [] h Q) : wpx d P_Tw_step 216 [.ref r0, .ref r1, .int x2, .int x3, .int x4, .int x5, .int x6, .int x7] [] h Q := by
  refine st_aload (pc' := 217) rfl rfl rfl ?_
  refine st_getfr (x := some a0) (Or.inr rfl) rfl hs0 rfl hr1 (pc' := 220) rfl ?_
  refine st_iload (pc' := 222) rfl rfl rfl ?_
  refine st_baload rfl (Or.inr hs2) hb3 (j := x6.toNatClampNeg) rfl (pc' := 223) rfl ?_
  exact st_if_eq (pc' := 226) rfl rfl kt kf
theorem B_Tw_step_226 {d : Nat} {h : PH} {Q : PQ} {r0 : Nat} {r1 : Nat} {x2 : Int32} {x3 : Int32} {x4 : Int32} {x5 : Int32} {x6 : Int32} {x7 : Int32} {a0 : Nat} {n1 : Nat} (hs0 : h_sh h r1 = some (0, 8)) (hr1 : h_r h r1 3 = some a0) (hs2 : h_sh h a0 = some (3, n1)) (hb3 : vp_in x7 n1) (kt : (h_i h a0 x7.toNatClampNeg) = 0 → wpx d P_Tw_step 240 [.ref r0, .ref r1, .int x2, .int x3, .int x4, .int x5, .int x6, .int x7] [] h Q) (kf : ¬ ((h_i h a0 x7.toNatClampNeg) = 0) → wpx d P_Tw_step 236 [.ref r0, .ref r1, .int x2, .int x3, .int x4, .int x5, .int x6, .int x7] [] h Q) : wpx d P_Tw_step 226 [.ref r0, .ref r1, .int x2, .int x3, .int x4, .int x5, .int x6, .int x7] [] h Q := by
  refine st_aload (pc' := 227) rfl rfl rfl ?_
  refine st_getfr (x := some a0) (Or.inr rfl) rfl hs0 rfl hr1 (pc' := 230) rfl ?_
  refine st_iload (pc' := 232) rfl rfl rfl ?_
  refine st_baload rfl (Or.inr hs2) hb3 (j := x7.toNatClampNeg) rfl (pc' := 233) rfl ?_
  exact st_if_eq (pc' := 236) rfl rfl kt kf
theorem B_Tw_step_236 {d : Nat} {h : PH} {Q : PQ} {r0 : Nat} {r1 : Nat} {x2 : Int32} {x3 : Int32} {x4 : Int32} {x5 : Int32} {x6 : Int32} {x7 : Int32}  (k : wpx d P_Tw_step 241 [.ref r0, .ref r1, .int x2, .int x3, .int x4, .int x5, .int x6, .int x7] [.int 1] h Q) : wpx d P_Tw_step 236 [.ref r0, .ref r1, .int x2, .int x3, .int x4, .int x5, .int x6, .int x7] [] h Q := by
  refine st_ipush (pc' := 237) (v := 1) rfl rfl (by decide) ?_
  exact st_goto rfl k
theorem B_Tw_step_240 {d : Nat} {h : PH} {Q : PQ} {r0 : Nat} {r1 : Nat} {x2 : Int32} {x3 : Int32} {x4 : Int32} {x5 : Int32} {x6 : Int32} {x7 : Int32}  (k : wpx d P_Tw_step 241 [.ref r0, .ref r1, .int x2, .int x3, .int x4, .int x5, .int x6, .int x7] [.int 0] h Q) : wpx d P_Tw_step 240 [.ref r0, .ref r1, .int x2, .int x3, .int x4, .int x5, .int x6, .int x7] [] h Q := by
  refine st_ipush (pc' := 241) (v := 0) rfl rfl (by decide) ?_
  exact k
theorem B_Tw_step_241 {d : Nat} {h : PH} {Q : PQ} {r0 : Nat} {r1 : Nat} {x2 : Int32} {x3 : Int32} {x4 : Int32} {x5 : Int32} {x6 : Int32} {x7 : Int32} {s0 : Int32} (hz0 : narrow .boolean (.int s0) = .int s0) (k : Q (some (.int s0)) h) : wpx d P_Tw_step 241 [.ref r0, .ref r1, .int x2, .int x3, .int x4, .int x5, .int x6, .int x7] [.int s0] h Q := by
  exact st_ireturn (ty := .boolean) rfl rfl hz0 k
theorem B_Tw_push_0 {d : Nat} {h : PH} {Q : PQ} {r0 : Nat} {x1 : Int32} {x2 : Int32} {x3 : Int32} {x4 : Int32} {v5 : Value}  (kt : ((x1 * (8 : Int32)) + x2) < 0 → wpx d P_Tw_push 41 [.ref r0, .int x1, .int x2, .int x3, .int x4, .int ((x1 * (8 : Int32)) + x2)] [] h Q) (kf : ¬ (((x1 * (8 : Int32)) + x2) < 0) → wpx d P_Tw_push 13 [.ref r0, .int x1, .int x2, .int x3, .int x4, .int ((x1 * (8 : Int32)) + x2)] [] h Q) : wpx d P_Tw_push 0 [.ref r0, .int x1, .int x2, .int x3, .int x4, v5] [] h Q := by
  refine st_iload (pc' := 1) rfl rfl rfl ?_
  refine st_ipush (pc' := 3) (v := 8) rfl rfl (by decide) ?_
  refine st_imul (pc' := 4) rfl rfl ?_
  refine st_iload (pc' := 5) rfl rfl rfl ?_
  refine st_iadd (pc' := 6) rfl rfl ?_
  refine st_istore (pc' := 8) (ls' := [.ref r0, .int x1, .int x2, .int x3, .int x4, .int ((x1 * (8 : Int32)) + x2)]) rfl rfl (Nat.le_of_ble_eq_true rfl) rfl ?_
  refine st_iload (pc' := 10) rfl rfl rfl ?_
  exact st_if_lt (pc' := 13) rfl rfl kt kf
theorem B_Tw_push_13 {d : Nat} {h : PH} {Q : PQ} {r0 : Nat} {x1 : Int32} {x2 : Int32} {x3 : Int32} {x4 : Int32} {x5 : Int32}  (kt : (792 : Int32) ≤ x5 → wpx d P_Tw_push 41 [.ref r0, .int x1, .int x2, .int x3, .int x4, .int x5] [] h Q) (kf : ¬ ((792 : Int32) ≤ x5) → wpx d P_Tw_push 21 [.ref r0, .int x1, .int x2, .int x3, .int x4, .int x5] [] h Q) : wpx d P_Tw_push 13 [.ref r0, .int x1, .int x2, .int x3, .int x4, .int x5] [] h Q := by
  refine st_iload (pc' := 15) rfl rfl rfl ?_
  refine st_ipush (pc' := 18) (v := 792) rfl rfl (by decide) ?_
  exact st_icmp_ge (pc' := 21) rfl rfl kt kf
theorem B_Tw_push_21 {d : Nat} {h : PH} {Q : PQ} {r0 : Nat} {x1 : Int32} {x2 : Int32} {x3 : Int32} {x4 : Int32} {x5 : Int32} (hs0 : h_sh h r0 = some (0, 9)) (kt : (792 : Int32) ≤ (h_i h r0 5) → wpx d P_Tw_push 41 [.ref r0, .int x1, .int x2, .int x3, .int x4, .int x5] [] h Q) (kf : ¬ ((792 : Int32) ≤ (h_i h r0 5)) → wpx d P_Tw_push 31 [.ref r0, .int x1, .int x2, .int x3, .int x4, .int x5] [] h Q) : wpx d P_Tw_push 21 [.ref r0, .int x1, .int x2, .int x3, .int x4, .int x5] [] h Q := by
  refine st_aload (pc' := 22) rfl rfl rfl ?_
  refine st_getfi (Or.inl rfl) rfl hs0 rfl (pc' := 25) rfl ?_
  refine st_ipush (pc' := 28) (v := 792) rfl rfl (by decide) ?_
  exact st_icmp_ge (pc' := 31) rfl rfl kt kf
theorem B_Tw_push_31 {d : Nat} {h : PH} {Q : PQ} {r0 : Nat} {x1 : Int32} {x2 : Int32} {x3 : Int32} {x4 : Int32} {x5 : Int32} {a0 : Nat} {n1 : Nat} (hs0 : h_sh h r0 = some (0, 9)) (hr1 : h_r h r0 0 = some a0) (hs2 : h_sh h a0 = some (3, n1)) (hb3 : vp_in x5 n1) (kt : (h_i h a0 x5.toNatClampNeg) = 0 → wpx d P_Tw_push 42 [.ref r0, .int x1, .int x2, .int x3, .int x4, .int x5] [] h Q) (kf : ¬ ((h_i h a0 x5.toNatClampNeg) = 0) → wpx d P_Tw_push 41 [.ref r0, .int x1, .int x2, .int x3, .int x4, .int x5] [] h Q) : wpx d P_Tw_push 31 [.ref r0, .int x1, .int x2, .int x3, .int x4, .int x5] [] h Q := by
  refine st_aload (pc' := 32) rfl rfl rfl ?_
  refine st_getfr (x := some a0) (Or.inl rfl) rfl hs0 rfl hr1 (pc' := 35) rfl ?_
  refine st_iload (pc' := 37) rfl rfl rfl ?_
  refine st_baload rfl (Or.inr hs2) hb3 (j := x5.toNatClampNeg) rfl (pc' := 38) rfl ?_
  exact st_if_eq (pc' := 41) rfl rfl kt kf
theorem B_Tw_push_41 {d : Nat} {h : PH} {Q : PQ} {r0 : Nat} {x1 : Int32} {x2 : Int32} {x3 : Int32} {x4 : Int32} {x5 : Int32}  (k : Q none h) : wpx d P_Tw_push 41 [.ref r0, .int x1, .int x2, .int x3, .int x4, .int x5] [] h Q := by
  exact st_return rfl k
theorem B_Tw_push_42 {d : Nat} {h : PH} {Q : PQ} {r0 : Nat} {x1 : Int32} {x2 : Int32} {x3 : Int32} {x4 : Int32} {x5 : Int32} {a0 : Nat} {n1 : Nat} {a2 : Nat} {n3 : Nat} {a4 : Nat} {n5 : Nat} (hs0 : h_sh h r0 = some (0, 9)) (hr1 : h_r h r0 0 = some a0) (hs2 : h_sh h a0 = some (3, n1)) (hb3 : vp_in x5 n1) (hr4 : h_r h r0 1 = some a2) (hs5 : h_sh h a2 = some (1, n3)) (hb6 : vp_in (h_i (w_i h a0 x5.toNatClampNeg ((1 : Int32) &&& 1)) r0 5) n3) (hr7 : h_r h r0 2 = some a4) (hs8 : h_sh h a4 = some (1, n5)) (hb9 : vp_in (h_i (w_i (w_i h a0 x5.toNatClampNeg ((1 : Int32) &&& 1)) a2 ((h_i (w_i h a0 x5.toNatClampNeg ((1 : Int32) &&& 1)) r0 5).toNatClampNeg) x5) r0 5) n5) (k : wpx d P_Tw_push 71 [.ref r0, .int x1, .int x2, .int x3, .int x4, .int x5] [] (w_i (w_i (w_i h a0 x5.toNatClampNeg ((1 : Int32) &&& 1)) a2 ((h_i (w_i h a0 x5.toNatClampNeg ((1 : Int32) &&& 1)) r0 5).toNatClampNeg) x5) a4 ((h_i (w_i (w_i h a0 x5.toNatClampNeg ((1 : Int32) &&& 1)) a2 ((h_i (w_i h a0 x5.toNatClampNeg ((1 : Int32) &&& 1)) r0 5).toNatClampNeg) x5) r0 5).toNatClampNeg) x3) Q) : wpx d P_Tw_push 42 [.ref r0, .int x1, .int x2, .int x3, .int x4, .int x5] [] h Q := by
  refine st_aload (pc' := 43) rfl rfl rfl ?_
  refine st_getfr (x := some a0) (Or.inl rfl) rfl hs0 rfl hr1 (pc' := 46) rfl ?_
  refine st_iload (pc' := 48) rfl rfl rfl ?_
  refine st_ipush (pc' := 49) (v := 1) rfl rfl (by decide) ?_
  refine st_zastore rfl hs2 hb3 (j := x5.toNatClampNeg) rfl (pc' := 50) rfl ?_
  refine st_aload (pc' := 51) rfl rfl rfl ?_
  refine st_getfr (x := some a2) (Or.inl rfl) rfl hs0 rfl hr4 (pc' := 54) rfl ?_
  refine st_aload (pc' := 55) rfl rfl rfl ?_
  refine st_getfi (Or.inl rfl) rfl hs0 rfl (pc' := 58) rfl ?_
  refine st_iload (pc' := 60) rfl rfl rfl ?_
  refine st_iastore rfl hs5 hb6 (j := (h_i (w_i h a0 x5.toNatClampNeg ((1 : Int32) &&& 1)) r0 5).toNatClampNeg) rfl (pc' := 61) rfl ?_
  refine st_aload (pc' := 62) rfl rfl rfl ?_
  refine st_getfr (x := some a4) (Or.inl rfl) rfl hs0 rfl hr7 (pc' := 65) rfl ?_
  refine st_aload (pc' := 66) rfl rfl rfl ?_
  refine st_getfi (Or.inl rfl) rfl hs0 rfl (pc' := 69) rfl ?_
  refine st_iload (pc' := 70) rfl rfl rfl ?_
  refine st_iastore rfl hs8 hb9 (j := (h_i (w_i (w_i h a0 x5.toNatClampNeg ((1 : Int32) &&& 1)) a2 ((h_i (w_i h a0 x5.toNatClampNeg ((1 : Int32) &&& 1)) r0 5).toNatClampNeg) x5) r0 5).toNatClampNeg) rfl (pc' := 71) rfl ?_
  exact k
theorem B_Tw_push_71 {d : Nat} {h : PH} {Q : PQ} {r0 : Nat} {x1 : Int32} {x2 : Int32} {x3 : Int32} {x4 : Int32} {x5 : Int32} {a0 : Nat} {n1 : Nat} {a2 : Nat} {n3 : Nat} (hs0 : h_sh h r0 = some (0, 9)) (hr1 : h_r h r0 3 = some a0) (hs2 : h_sh h a0 = some (2, n1)) (hb3 : vp_in (h_i h r0 5) n1) (hr4 : h_r h r0 4 = some a2) (hs5 : h_sh h a2 = some (1, n3)) (hb6 : vp_in (h_i (w_i h a0 ((h_i h r0 5).toNatClampNeg) x4.toInt8.toInt32.toInt8.toInt32) r0 5) n3) (k : wpx d P_Tw_push 96 [.ref r0, .int x1, .int x2, .int x3, .int x4, .int x5] [] (w_i (w_i h a0 ((h_i h r0 5).toNatClampNeg) x4.toInt8.toInt32.toInt8.toInt32) a2 ((h_i (w_i h a0 ((h_i h r0 5).toNatClampNeg) x4.toInt8.toInt32.toInt8.toInt32) r0 5).toNatClampNeg) (h_i (w_i h a0 ((h_i h r0 5).toNatClampNeg) x4.toInt8.toInt32.toInt8.toInt32) r0 6)) Q) : wpx d P_Tw_push 71 [.ref r0, .int x1, .int x2, .int x3, .int x4, .int x5] [] h Q := by
  refine st_aload (pc' := 72) rfl rfl rfl ?_
  refine st_getfr (x := some a0) (Or.inl rfl) rfl hs0 rfl hr1 (pc' := 75) rfl ?_
  refine st_aload (pc' := 76) rfl rfl rfl ?_
  refine st_getfi (Or.inl rfl) rfl hs0 rfl (pc' := 79) rfl ?_
  refine st_iload (pc' := 81) rfl rfl rfl ?_
  refine st_i2b (pc' := 82) rfl rfl ?_
  refine st_bastore rfl hs2 hb3 (j := (h_i h r0 5).toNatClampNeg) rfl (pc' := 83) rfl ?_
  refine st_aload (pc' := 84) rfl rfl rfl ?_
  refine st_getfr (x := some a2) (Or.inl rfl) rfl hs0 rfl hr4 (pc' := 87) rfl ?_
  refine st_aload (pc' := 88) rfl rfl rfl ?_
  refine st_getfi (Or.inl rfl) rfl hs0 rfl (pc' := 91) rfl ?_
  refine st_aload (pc' := 92) rfl rfl rfl ?_
  refine st_getfi (Or.inl rfl) rfl hs0 rfl (pc' := 95) rfl ?_
  refine st_iastore rfl hs5 hb6 (j := (h_i (w_i h a0 ((h_i h r0 5).toNatClampNeg) x4.toInt8.toInt32.toInt8.toInt32) r0 5).toNatClampNeg) rfl (pc' := 96) rfl ?_
  exact k
theorem B_Tw_push_96 {d : Nat} {h : PH} {Q : PQ} {r0 : Nat} {x1 : Int32} {x2 : Int32} {x3 : Int32} {x4 : Int32} {x5 : Int32} (hs0 : h_sh h r0 = some (0, 9)) (k : Q none (w_i h r0 5 ((h_i h r0 5) + (1 : Int32)))) : wpx d P_Tw_push 96 [.ref r0, .int x1, .int x2, .int x3, .int x4, .int x5] [] h Q := by
  refine st_aload (pc' := 97) rfl rfl rfl ?_
  refine st_dup (pc' := 98) rfl rfl rfl ?_
  refine st_getfi (Or.inl rfl) rfl hs0 rfl (pc' := 101) rfl ?_
  refine st_ipush (pc' := 102) (v := 1) rfl rfl (by decide) ?_
  refine st_iadd (pc' := 103) rfl rfl ?_
  refine st_putf (h' := w_i h r0 5 ((h_i h r0 5) + (1 : Int32))) (Or.inl rfl) rfl hs0 rfl rfl rfl (pc' := 106) rfl ?_
  exact st_return rfl k
theorem B_Tw_copyTo_0 {d : Nat} {h : PH} {Q : PQ} {r0 : Nat} {r1 : Nat} {v2 : Value} {v3 : Value} {v4 : Value} {a0 : Nat} {n1 : Nat} (hs0 : h_sh h r0 = some (0, 9)) (hr1 : h_r h r0 9 = some a0) (hs2 : h_sh h a0 = some (2, n1)) (hb3 : vp_in ((Int32.ofNat n1) - (1 : Int32)) n1) (k : wpx d P_Tw_copyTo 24 [.ref r0, .ref r1, .int ((Int32.ofNat n1) - (1 : Int32)), .int (h_i (w_i h a0 (((Int32.ofNat n1) - (1 : Int32)).toNatClampNeg) (((h_i h r0 8).toInt8.toInt32).toInt8.toInt32)) r0 7), v4] [] (w_i h a0 (((Int32.ofNat n1) - (1 : Int32)).toNatClampNeg) (((h_i h r0 8).toInt8.toInt32).toInt8.toInt32)) Q) : wpx d P_Tw_copyTo 0 [.ref r0, .ref r1, v2, v3, v4] [] h Q := by
  refine st_aload (pc' := 1) rfl rfl rfl ?_
  refine st_getfr (x := some a0) (Or.inl rfl) rfl hs0 rfl hr1 (pc' := 4) rfl ?_
  refine st_alen rfl hs2 (by decide) (pc' := 5) rfl ?_
  refine st_ipush (pc' := 6) (v := 1) rfl rfl (by decide) ?_
  refine st_isub (pc' := 7) rfl rfl ?_
  refine st_istore (pc' := 8) (ls' := [.ref r0, .ref r1, .int ((Int32.ofNat n1) - (1 : Int32)), v3, v4]) rfl rfl (Nat.le_of_ble_eq_true rfl) rfl ?_
  refine st_aload (pc' := 9) rfl rfl rfl ?_
  refine st_getfr (x := some a0) (Or.inl rfl) rfl hs0 rfl hr1 (pc' := 12) rfl ?_
  refine st_iload (pc' := 13) rfl rfl rfl ?_
  refine st_aload (pc' := 14) rfl rfl rfl ?_
  refine st_getfi (Or.inl rfl) rfl hs0 rfl (pc' := 17) rfl ?_
  refine st_i2b (pc' := 18) rfl rfl ?_
  refine st_bastore rfl hs2 hb3 (j := ((Int32.ofNat n1) - (1 : Int32)).toNatClampNeg) rfl (pc' := 19) rfl ?_
  refine st_aload (pc' := 20) rfl rfl rfl ?_
  refine st_getfi (Or.inl rfl) rfl hs0 rfl (pc' := 23) rfl ?_
  refine st_istore (pc' := 24) (ls' := [.ref r0, .ref r1, .int ((Int32.ofNat n1) - (1 : Int32)), .int (h_i (w_i h a0 (((Int32.ofNat n1) - (1 : Int32)).toNatClampNeg) (((h_i h r0 8).toInt8.toInt32).toInt8.toInt32)) r0 7), v4]) rfl rfl (Nat.le_of_ble_eq_true rfl) rfl ?_
  exact k
theorem B_Tw_copyTo_24 {d : Nat} {h : PH} {Q : PQ} {r0 : Nat} {r1 : Nat} {x2 : Int32} {x3 : Int32} {v4 : Value}  (kt : x2 ≤ 0 → wpx d P_Tw_copyTo 57 [.ref r0, .ref r1, .int x2, .int x3, v4] [] h Q) (kf : ¬ (x2 ≤ 0) → wpx d P_Tw_copyTo 28 [.ref r0, .ref r1, .int x2, .int x3, v4] [] h Q) : wpx d P_Tw_copyTo 24 [.ref r0, .ref r1, .int x2, .int x3, v4] [] h Q := by
  refine st_iload (pc' := 25) rfl rfl rfl ?_
  exact st_if_le (pc' := 28) rfl rfl kt kf
theorem B_Tw_copyTo_28 {d : Nat} {h : PH} {Q : PQ} {r0 : Nat} {r1 : Nat} {x2 : Int32} {x3 : Int32} {v4 : Value}  (kt : x3 ≤ 0 → wpx d P_Tw_copyTo 57 [.ref r0, .ref r1, .int x2, .int x3, v4] [] h Q) (kf : ¬ (x3 ≤ 0) → wpx d P_Tw_copyTo 32 [.ref r0, .ref r1, .int x2, .int x3, v4] [] h Q) : wpx d P_Tw_copyTo 28 [.ref r0, .ref r1, .int x2, .int x3, v4] [] h Q := by
  refine st_iload (pc' := 29) rfl rfl rfl ?_
  exact st_if_le (pc' := 32) rfl rfl kt kf
theorem B_Tw_copyTo_32 {d : Nat} {h : PH} {Q : PQ} {r0 : Nat} {r1 : Nat} {x2 : Int32} {x3 : Int32} {v4 : Value} {a0 : Nat} {a1 : Nat} {n2 : Nat} {n3 : Nat} {a4 : Nat} {n5 : Nat} (hs0 : h_sh h r0 = some (0, 9)) (hr1 : h_r h r0 9 = some a0) (hr2 : h_r h r0 3 = some a1) (hs3 : h_sh h a1 = some (2, n2)) (hb4 : vp_in x3 n2) (hs5 : h_sh h a0 = some (2, n3)) (hb6 : vp_in (x2 + (-1)) n3) (hr7 : h_r h r0 2 = some a4) (hs8 : h_sh h a4 = some (1, n5)) (hb9 : vp_in x3 n5) (k : wpx d P_Tw_copyTo 24 [.ref r0, .ref r1, .int (x2 + (-1)), .int (h_i (w_i h a0 ((x2 + (-1)).toNatClampNeg) ((h_i h a1 x3.toNatClampNeg).toInt8.toInt32)) a4 x3.toNatClampNeg), v4] [] (w_i h a0 ((x2 + (-1)).toNatClampNeg) ((h_i h a1 x3.toNatClampNeg).toInt8.toInt32)) Q) : wpx d P_Tw_copyTo 32 [.ref r0, .ref r1, .int x2, .int x3, v4] [] h Q := by
  refine st_iinc (pc' := 35) (v := (-1)) (ls' := [.ref r0, .ref r1, .int (x2 + (-1)), .int x3, v4]) rfl rfl rfl (by decide) rfl ?_
  refine st_aload (pc' := 36) rfl rfl rfl ?_
  refine st_getfr (x := some a0) (Or.inl rfl) rfl hs0 rfl hr1 (pc' := 39) rfl ?_
  refine st_iload (pc' := 40) rfl rfl rfl ?_
  refine st_aload (pc' := 41) rfl rfl rfl ?_
  refine st_getfr (x := some a1) (Or.inl rfl) rfl hs0 rfl hr2 (pc' := 44) rfl ?_
  refine st_iload (pc' := 45) rfl rfl rfl ?_
  refine st_baload rfl (Or.inl hs3) hb4 (j := x3.toNatClampNeg) rfl (pc' := 46) rfl ?_
  refine st_bastore rfl hs5 hb6 (j := (x2 + (-1)).toNatClampNeg) rfl (pc' := 47) rfl ?_
  refine st_aload (pc' := 48) rfl rfl rfl ?_
  refine st_getfr (x := some a4) (Or.inl rfl) rfl hs0 rfl hr7 (pc' := 51) rfl ?_
  refine st_iload (pc' := 52) rfl rfl rfl ?_
  refine st_iaload rfl hs8 hb9 (j := x3.toNatClampNeg) rfl (pc' := 53) rfl ?_
  refine st_istore (pc' := 54) (ls' := [.ref r0, .ref r1, .int (x2 + (-1)), .int (h_i (w_i h a0 ((x2 + (-1)).toNatClampNeg) ((h_i h a1 x3.toNatClampNeg).toInt8.toInt32)) a4 x3.toNatClampNeg), v4]) rfl rfl (Nat.le_of_ble_eq_true rfl) rfl ?_
  exact st_goto rfl k
theorem B_Tw_copyTo_57 {d : Nat} {h : PH} {Q : PQ} {r0 : Nat} {r1 : Nat} {x2 : Int32} {x3 : Int32} {v4 : Value} (hs0 : h_sh h r1 = some (0, 10)) (k : wpm d 106 [.ref r1] h (fun r h' => wpx d P_Tw_copyTo 61 [.ref r0, .ref r1, .int x2, .int x3, v4] (r.toList ++ []) h' Q)) : wpx d P_Tw_copyTo 57 [.ref r0, .ref r1, .int x2, .int x3, v4] [] h Q := by
  refine st_aload (pc' := 58) rfl rfl rfl ?_
  exact st_call (pc' := 61) (as := [.ref r1]) (rest := []) rfl rfl (Nat.le_of_ble_eq_true rfl) rfl rfl (Nat.le_of_ble_eq_true rfl) (kd := 1) (o := 10) rfl rfl (beq_iff_eq.mpr hs0) k
theorem B_Tw_copyTo_61 {d : Nat} {h : PH} {Q : PQ} {r0 : Nat} {r1 : Nat} {x2 : Int32} {x3 : Int32} {v4 : Value}  (k : wpx d P_Tw_copyTo 64 [.ref r0, .ref r1, .int x2, .int x3, .int x2] [] h Q) : wpx d P_Tw_copyTo 61 [.ref r0, .ref r1, .int x2, .int x3, v4] [] h Q := by
  refine st_iload (pc' := 62) rfl rfl rfl ?_
  refine st_istore (pc' := 64) (ls' := [.ref r0, .ref r1, .int x2, .int x3, .int x2]) rfl rfl (Nat.le_of_ble_eq_true rfl) rfl ?_
  exact k
theorem B_Tw_copyTo_64 {d : Nat} {h : PH} {Q : PQ} {r0 : Nat} {r1 : Nat} {x2 : Int32} {x3 : Int32} {x4 : Int32} {a0 : Nat} {n1 : Nat} (hs0 : h_sh h r0 = some (0, 9)) (hr1 : h_r h r0 9 = some a0) (hs2 : h_sh h a0 = some (2, n1)) (kt : (Int32.ofNat n1) ≤ x4 → wpx d P_Tw_copyTo 91 [.ref r0, .ref r1, .int x2, .int x3, .int x4] [] h Q) (kf : ¬ ((Int32.ofNat n1) ≤ x4) → wpx d P_Tw_copyTo 74 [.ref r0, .ref r1, .int x2, .int x3, .int x4] [] h Q) : wpx d P_Tw_copyTo 64 [.ref r0, .ref r1, .int x2, .int x3, .int x4] [] h Q := by
  refine st_iload (pc' := 66) rfl rfl rfl ?_
  refine st_aload (pc' := 67) rfl rfl rfl ?_
  refine st_getfr (x := some a0) (Or.inl rfl) rfl hs0 rfl hr1 (pc' := 70) rfl ?_
  refine st_alen rfl hs2 (by decide) (pc' := 71) rfl ?_
  exact st_icmp_ge (pc' := 74) rfl rfl kt kf
theorem B_Tw_copyTo_74 {d : Nat} {h : PH} {Q : PQ} {r0 : Nat} {r1 : Nat} {x2 : Int32} {x3 : Int32} {x4 : Int32} {a0 : Nat} {n1 : Nat} (hs0 : h_sh h r0 = some (0, 9)) (hr1 : h_r h r0 9 = some a0) (hs2 : h_sh h a0 = some (2, n1)) (hb3 : vp_in x4 n1) (hs4 : h_sh h r1 = some (0, 10)) (k : wpm d 107 [.ref r1, .int (h_i h a0 x4.toNatClampNeg)] h (fun r h' => wpx d P_Tw_copyTo 85 [.ref r0, .ref r1, .int x2, .int x3, .int x4] (r.toList ++ []) h' Q)) : wpx d P_Tw_copyTo 74 [.ref r0, .ref r1, .int x2, .int x3, .int x4] [] h Q := by
  refine st_aload (pc' := 75) rfl rfl rfl ?_
  refine st_aload (pc' := 76) rfl rfl rfl ?_
  refine st_getfr (x := some a0) (Or.inl rfl) rfl hs0 rfl hr1 (pc' := 79) rfl ?_
  refine st_iload (pc' := 81) rfl rfl rfl ?_
  refine st_baload rfl (Or.inl hs2) hb3 (j := x4.toNatClampNeg) rfl (pc' := 82) rfl ?_
  exact st_call (pc' := 85) (as := [.ref r1, .int (h_i h a0 x4.toNatClampNeg)]) (rest := []) rfl rfl (Nat.le_of_ble_eq_true rfl) rfl rfl (Nat.le_of_ble_eq_true rfl) (kd := 1) (o := 10) rfl rfl (beq_iff_eq.mpr hs4) k
theorem B_Tw_copyTo_85 {d : Nat} {h : PH} {Q : PQ} {r0 : Nat} {r1 : Nat} {x2 : Int32} {x3 : Int32} {x4 : Int32}  (k : wpx d P_Tw_copyTo 64 [.ref r0, .ref r1, .int x2, .int x3, .int (x4 + 1)] [] h Q) : wpx d P_Tw_copyTo 85 [.ref r0, .ref r1, .int x2, .int x3, .int x4] [] h Q := by
  refine st_iinc (pc' := 88) (v := 1) (ls' := [.ref r0, .ref r1, .int x2, .int x3, .int (x4 + 1)]) rfl rfl rfl (by decide) rfl ?_
  exact st_goto rfl k
theorem B_Tw_copyTo_91 {d : Nat} {h : PH} {Q : PQ} {r0 : Nat} {r1 : Nat} {x2 : Int32} {x3 : Int32} {x4 : Int32}  (k : Q none h) : wpx d P_Tw_copyTo 91 [.ref r0, .ref r1, .int x2, .int x3, .int x4] [] h Q := by
  exact st_return rfl k
