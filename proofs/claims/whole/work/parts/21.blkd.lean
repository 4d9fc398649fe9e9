/-! stretches of methods -/
theorem B_Ce_init_0 {d : Nat} {h : PH} {Q : PQ} {r0 : Nat} (hs0 : h_sh (h_new h (1, 64) 64) r0 = some (0, 1)) (hs1 : h_sh (h_new (w_r (h_new h (1, 64) 64) r0 0 (some (h_ct h))) (1, 64) 64) r0 = some (0, 1)) (hs2 : h_sh (h_new (w_r (h_new (w_r (h_new h (1, 64) 64) r0 0 (some (h_ct h))) (1, 64) 64) r0 1 (some (h_ct (w_r (h_new h (1, 64) 64) r0 0 (some (h_ct h)))))) (4, 704) 704) r0 = some (0, 1)) (k : wpx d P_Ce_init 29 [.ref r0] [] (w_r (h_new (w_r (h_new (w_r (h_new h (1, 64) 64) r0 0 (some (h_ct h))) (1, 64) 64) r0 1 (some (h_ct (w_r (h_new h (1, 64) 64) r0 0 (some (h_ct h)))))) (4, 704) 704) r0 2 (some (h_ct (w_r (h_new (w_r (h_new h (1, 64) 64) r0 0 (some (h_ct h))) (1, 64) 64) r0 1 (some (h_ct (w_r (h_new h (1, 64) 64) r0 0 (some (h_ct h))))))))) Q) : wpx d P_Ce_init 0 [.ref r0] [] h Q := by
  refine st_aload (pc' := 1) rfl rfl rfl ?_
  refine st_oinit (pc' := 4) rfl rfl (Nat.le_of_ble_eq_true rfl) ?_
  refine st_aload (pc' := 5) rfl rfl rfl ?_
  refine st_ipush (pc' := 7) (v := 64) rfl rfl (by decide) ?_
  refine st_newI rfl (by decide) (j := 64) (by decide) (pc' := 9) rfl ?_
  refine st_putf (h' := w_r (h_new h (1, 64) 64) r0 0 (some (h_ct h))) (Or.inl rfl) rfl hs0 rfl rfl rfl (pc' := 12) rfl ?_
  refine st_aload (pc' := 13) rfl rfl rfl ?_
  refine st_ipush (pc' := 15) (v := 64) rfl rfl (by decide) ?_
  refine st_newI rfl (by decide) (j := 64) (by decide) (pc' := 17) rfl ?_
  refine st_putf (h' := w_r (h_new (w_r (h_new h (1, 64) 64) r0 0 (some (h_ct h))) (1, 64) 64) r0 1 (some (h_ct (w_r (h_new h (1, 64) 64) r0 0 (some (h_ct h)))))) (Or.inl rfl) rfl hs1 rfl rfl rfl (pc' := 20) rfl ?_
  refine st_aload (pc' := 21) rfl rfl rfl ?_
  refine st_ipush (pc' := 24) (v := 704) rfl rfl (by decide) ?_
  refine st_newL rfl (by decide) (j := 704) (by decide) (pc' := 26) rfl ?_
  refine st_putf (h' := w_r (h_new (w_r (h_new (w_r (h_new h (1, 64) 64) r0 0 (some (h_ct h))) (1, 64) 64) r0 1 (some (h_ct (w_r (h_new h (1, 64) 64) r0 0 (some (h_ct h)))))) (4, 704) 704) r0 2 (some (h_ct (w_r (h_new (w_r (h_new h (1, 64) 64) r0 0 (some (h_ct h))) (1, 64) 64) r0 1 (some (h_ct (w_r (h_new h (1, 64) 64) r0 0 (some (h_ct h))))))))) (Or.inl rfl) rfl hs2 rfl rfl rfl (pc' := 29) rfl ?_
  exact k
theorem B_Ce_init_29 {d : Nat} {h : PH} {Q : PQ} {r0 : Nat} (hs0 : h_sh (h_new h (4, 704) 704) r0 = some (0, 1)) (hs1 : h_sh (h_new (w_r (h_new h (4, 704) 704) r0 3 (some (h_ct h))) (1, 256) 256) r0 = some (0, 1)) (hs2 : h_sh (h_new (w_r (h_new (w_r (h_new h (4, 704) 704) r0 3 (some (h_ct h))) (1, 256) 256) r0 5 (some (h_ct (w_r (h_new h (4, 704) 704) r0 3 (some (h_ct h)))))) (1, 65) 65) r0 = some (0, 1)) (k : wpx d P_Ce_init 55 [.ref r0] [] (w_r (h_new (w_r (h_new (w_r (h_new h (4, 704) 704) r0 3 (some (h_ct h))) (1, 256) 256) r0 5 (some (h_ct (w_r (h_new h (4, 704) 704) r0 3 (some (h_ct h)))))) (1, 65) 65) r0 6 (some (h_ct (w_r (h_new (w_r (h_new h (4, 704) 704) r0 3 (some (h_ct h))) (1, 256) 256) r0 5 (some (h_ct (w_r (h_new h (4, 704) 704) r0 3 (some (h_ct h))))))))) Q) : wpx d P_Ce_init 29 [.ref r0] [] h Q := by
  refine st_aload (pc' := 30) rfl rfl rfl ?_
  refine st_ipush (pc' := 33) (v := 704) rfl rfl (by decide) ?_
  refine st_newL rfl (by decide) (j := 704) (by decide) (pc' := 35) rfl ?_
  refine st_putf (h' := w_r (h_new h (4, 704) 704) r0 3 (some (h_ct h))) (Or.inl rfl) rfl hs0 rfl rfl rfl (pc' := 38) rfl ?_
  refine st_aload (pc' := 39) rfl rfl rfl ?_
  refine st_ipush (pc' := 42) (v := 256) rfl rfl (by decide) ?_
  refine st_newI rfl (by decide) (j := 256) (by decide) (pc' := 44) rfl ?_
  refine st_putf (h' := w_r (h_new (w_r (h_new h (4, 704) 704) r0 3 (some (h_ct h))) (1, 256) 256) r0 5 (some (h_ct (w_r (h_new h (4, 704) 704) r0 3 (some (h_ct h)))))) (Or.inl rfl) rfl hs1 rfl rfl rfl (pc' := 47) rfl ?_
  refine st_aload (pc' := 48) rfl rfl rfl ?_
  refine st_ipush (pc' := 50) (v := 65) rfl rfl (by decide) ?_
  refine st_newI rfl (by decide) (j := 65) (by decide) (pc' := 52) rfl ?_
  refine st_putf (h' := w_r (h_new (w_r (h_new (w_r (h_new h (4, 704) 704) r0 3 (some (h_ct h))) (1, 256) 256) r0 5 (some (h_ct (w_r (h_new h (4, 704) 704) r0 3 (some (h_ct h)))))) (1, 65) 65) r0 6 (some (h_ct (w_r (h_new (w_r (h_new h (4, 704) 704) r0 3 (some (h_ct h))) (1, 256) 256) r0 5 (some (h_ct (w_r (h_new h (4, 704) 704) r0 3 (some (h_ct h))))))))) (Or.inl rfl) rfl hs2 rfl rfl rfl (pc' := 55) rfl ?_
  exact k
theorem B_Ce_init_55 {d : Nat} {h : PH} {Q : PQ} {r0 : Nat} (hs0 : h_sh (h_new h (2, 256) 256) r0 = some (0, 1)) (hs1 : h_sh (h_new (w_r (h_new h (2, 256) 256) r0 7 (some (h_ct h))) (1, 256) 256) r0 = some (0, 1)) (k : Q none (w_i (w_r (h_new (w_r (h_new h (2, 256) 256) r0 7 (some (h_ct h))) (1, 256) 256) r0 8 (some (h_ct (w_r (h_new h (2, 256) 256) r0 7 (some (h_ct h)))))) r0 10 (-1))) : wpx d P_Ce_init 55 [.ref r0] [] h Q := by
  refine st_aload (pc' := 56) rfl rfl rfl ?_
  refine st_ipush (pc' := 59) (v := 256) rfl rfl (by decide) ?_
  refine st_newB rfl (by decide) (j := 256) (by decide) (pc' := 61) rfl ?_
  refine st_putf (h' := w_r (h_new h (2, 256) 256) r0 7 (some (h_ct h))) (Or.inl rfl) rfl hs0 rfl rfl rfl (pc' := 64) rfl ?_
  refine st_aload (pc' := 65) rfl rfl rfl ?_
  refine st_ipush (pc' := 68) (v := 256) rfl rfl (by decide) ?_
  refine st_newI rfl (by decide) (j := 256) (by decide) (pc' := 70) rfl ?_
  refine st_putf (h' := w_r (h_new (w_r (h_new h (2, 256) 256) r0 7 (some (h_ct h))) (1, 256) 256) r0 8 (some (h_ct (w_r (h_new h (2, 256) 256) r0 7 (some (h_ct h)))))) (Or.inl rfl) rfl hs1 rfl rfl rfl (pc' := 73) rfl ?_
  refine st_aload (pc' := 74) rfl rfl rfl ?_
  refine st_ipush (pc' := 75) (v := (-1)) rfl rfl (by decide) ?_
  refine st_putf (h' := w_i (w_r (h_new (w_r (h_new h (2, 256) 256) r0 7 (some (h_ct h))) (1, 256) 256) r0 8 (some (h_ct (w_r (h_new h (2, 256) 256) r0 7 (some (h_ct h)))))) r0 10 (-1)) (Or.inl rfl) rfl hs1 rfl rfl rfl (pc' := 78) rfl ?_
  exact st_return rfl k
theorem B_Ce_build_0 {d : Nat} {h : PH} {Q : PQ} {r0 : Nat} {r1 : Nat} {x2 : Int32} {v3 : Value} {v4 : Value} {v5 : Value} {a0 : Nat} (hs0 : h_sh h r0 = some (0, 1)) (hr1 : h_r h r0 5 = some a0) (k : wpm d 283 [.ref a0, .int 0] (w_i (w_i (w_i h r0 10 x2) r0 4 0) r0 9 0) (fun r h' => wpx d P_Ce_build 23 [.ref r0, .ref r1, .int x2, v3, v4, v5] (r.toList ++ []) h' Q)) : wpx d P_Ce_build 0 [.ref r0, .ref r1, .int x2, v3, v4, v5] [] h Q := by
  refine st_aload (pc' := 1) rfl rfl rfl ?_
  refine st_iload (pc' := 2) rfl rfl rfl ?_
  refine st_putf (h' := w_i h r0 10 x2) (Or.inl rfl) rfl hs0 rfl rfl rfl (pc' := 5) rfl ?_
  refine st_aload (pc' := 6) rfl rfl rfl ?_
  refine st_ipush (pc' := 7) (v := 0) rfl rfl (by decide) ?_
  refine st_putf (h' := w_i (w_i h r0 10 x2) r0 4 0) (Or.inl rfl) rfl hs0 rfl rfl rfl (pc' := 10) rfl ?_
  refine st_aload (pc' := 11) rfl rfl rfl ?_
  refine st_ipush (pc' := 12) (v := 0) rfl rfl (by decide) ?_
  refine st_putf (h' := w_i (w_i (w_i h r0 10 x2) r0 4 0) r0 9 0) (Or.inl rfl) rfl hs0 rfl rfl rfl (pc' := 15) rfl ?_
  refine st_aload (pc' := 16) rfl rfl rfl ?_
  refine st_getfr (x := some a0) (Or.inl rfl) rfl hs0 rfl hr1 (pc' := 19) rfl ?_
  refine st_ipush (pc' := 20) (v := 0) rfl rfl (by decide) ?_
  exact st_call (pc' := 23) (as := [.ref a0, .int 0]) (rest := []) rfl rfl (Nat.le_of_ble_eq_true rfl) rfl rfl (Nat.le_of_ble_eq_true rfl) (kd := 0) (o := 16) rfl rfl rfl k
theorem B_Ce_build_23 {d : Nat} {h : PH} {Q : PQ} {r0 : Nat} {r1 : Nat} {x2 : Int32} {v3 : Value} {v4 : Value} {v5 : Value} (hs0 : h_sh h r0 = some (0, 1)) (k : wpm d 17 [.ref r0, .int 1, .int 0] h (fun r h' => wpx d P_Ce_build 29 [.ref r0, .ref r1, .int x2, v3, v4, v5] (r.toList ++ []) h' Q)) : wpx d P_Ce_build 23 [.ref r0, .ref r1, .int x2, v3, v4, v5] [] h Q := by
  refine st_aload (pc' := 24) rfl rfl rfl ?_
  refine st_ipush (pc' := 25) (v := 1) rfl rfl (by decide) ?_
  refine st_ipush (pc' := 26) (v := 0) rfl rfl (by decide) ?_
  exact st_call (pc' := 29) (as := [.ref r0, .int 1, .int 0]) (rest := []) rfl rfl (Nat.le_of_ble_eq_true rfl) rfl rfl (Nat.le_of_ble_eq_true rfl) (kd := 1) (o := 1) rfl rfl (beq_iff_eq.mpr hs0) k
theorem B_Ce_build_29 {d : Nat} {h : PH} {Q : PQ} {r0 : Nat} {r1 : Nat} {x2 : Int32} {v3 : Value} {v4 : Value} {v5 : Value} {s0 : Int32}  (k : wpx d P_Ce_build 32 [.ref r0, .ref r1, .int x2, .int 0, v4, v5] [] h Q) : wpx d P_Ce_build 29 [.ref r0, .ref r1, .int x2, v3, v4, v5] [.int s0] h Q := by
  refine st_pop (pc' := 30) rfl rfl rfl ?_
  refine st_ipush (pc' := 31) (v := 0) rfl rfl (by decide) ?_
  refine st_istore (pc' := 32) (ls' := [.ref r0, .ref r1, .int x2, .int 0, v4, v5]) rfl rfl (Nat.le_of_ble_eq_true rfl) rfl ?_
  exact k
theorem B_Ce_build_32 {d : Nat} {h : PH} {Q : PQ} {r0 : Nat} {r1 : Nat} {x2 : Int32} {x3 : Int32} {v4 : Value} {v5 : Value} (hs0 : h_sh h r0 = some (0, 1)) (kt : (h_i h r0 4) ≤ x3 → wpx d P_Ce_build 153 [.ref r0, .ref r1, .int x2, .int x3, v4, v5] [] h Q) (kf : ¬ ((h_i h r0 4) ≤ x3) → wpx d P_Ce_build 40 [.ref r0, .ref r1, .int x2, .int x3, v4, v5] [] h Q) : wpx d P_Ce_build 32 [.ref r0, .ref r1, .int x2, .int x3, v4, v5] [] h Q := by
  refine st_iload (pc' := 33) rfl rfl rfl ?_
  refine st_aload (pc' := 34) rfl rfl rfl ?_
  refine st_getfi (Or.inl rfl) rfl hs0 rfl (pc' := 37) rfl ?_
  exact st_icmp_ge (pc' := 40) rfl rfl kt kf
theorem B_Ce_build_40 {d : Nat} {h : PH} {Q : PQ} {r0 : Nat} {r1 : Nat} {x2 : Int32} {x3 : Int32} {v4 : Value} {v5 : Value}  (kt : (131072 : Int32) ≤ x3 → wpx d P_Ce_build 153 [.ref r0, .ref r1, .int x2, .int x3, v4, v5] [] h Q) (kf : ¬ ((131072 : Int32) ≤ x3) → wpx d P_Ce_build 46 [.ref r0, .ref r1, .int x2, .int x3, v4, v5] [] h Q) : wpx d P_Ce_build 40 [.ref r0, .ref r1, .int x2, .int x3, v4, v5] [] h Q := by
  refine st_iload (pc' := 41) rfl rfl rfl ?_
  refine st_ldc (pc' := 43) (v := 131072) rfl rfl (by decide) ?_
  exact st_icmp_ge (pc' := 46) rfl rfl kt kf
theorem B_Ce_build_46 {d : Nat} {h : PH} {Q : PQ} {r0 : Nat} {r1 : Nat} {x2 : Int32} {x3 : Int32} {v4 : Value} {v5 : Value} {a0 : Nat} {n1 : Nat} (hs0 : h_sh h r0 = some (0, 1)) (hr1 : h_r h r0 6 = some a0) (hs2 : h_sh h a0 = some (1, n1)) (hb3 : vp_in x3 n1) (k : wpx d P_Ce_build 59 [.ref r0, .ref r1, .int x2, .int x3, .int 1, v5] [] (w_i h a0 x3.toNatClampNeg (h_i h r0 9)) Q) : wpx d P_Ce_build 46 [.ref r0, .ref r1, .int x2, .int x3, v4, v5] [] h Q := by
  refine st_aload (pc' := 47) rfl rfl rfl ?_
  refine st_getfr (x := some a0) (Or.inl rfl) rfl hs0 rfl hr1 (pc' := 50) rfl ?_
  refine st_iload (pc' := 51) rfl rfl rfl ?_
  refine st_aload (pc' := 52) rfl rfl rfl ?_
  refine st_getfi (Or.inl rfl) rfl hs0 rfl (pc' := 55) rfl ?_
  refine st_iastore rfl hs2 hb3 (j := x3.toNatClampNeg) rfl (pc' := 56) rfl ?_
  refine st_ipush (pc' := 57) (v := 1) rfl rfl (by decide) ?_
  refine st_istore (pc' := 59) (ls' := [.ref r0, .ref r1, .int x2, .int x3, .int 1, v5]) rfl rfl (Nat.le_of_ble_eq_true rfl) rfl ?_
  exact k
theorem B_Ce_build_59 {d : Nat} {h : PH} {Q : PQ} {r0 : Nat} {r1 : Nat} {x2 : Int32} {x3 : Int32} {x4 : Int32} {v5 : Value}  (kt : (27 : Int32) < x4 → wpx d P_Ce_build 135 [.ref r0, .ref r1, .int x2, .int x3, .int x4, v5] [] h Q) (kf : ¬ ((27 : Int32) < x4) → wpx d P_Ce_build 66 [.ref r0, .ref r1, .int x2, .int x3, .int x4, v5] [] h Q) : wpx d P_Ce_build 59 [.ref r0, .ref r1, .int x2, .int x3, .int x4, v5] [] h Q := by
  refine st_iload (pc' := 61) rfl rfl rfl ?_
  refine st_ipush (pc' := 63) (v := 27) rfl rfl (by decide) ?_
  exact st_icmp_gt (pc' := 66) rfl rfl kt kf
theorem B_Ce_build_66 {d : Nat} {h : PH} {Q : PQ} {r0 : Nat} {r1 : Nat} {x2 : Int32} {x3 : Int32} {x4 : Int32} {v5 : Value} {a0 : Nat} {n1 : Nat} (hs0 : h_sh h r0 = some (0, 1)) (hr1 : h_r h r0 1 = some a0) (hs2 : h_sh h a0 = some (1, n1)) (hb3 : vp_in x3 n1) (kt : (10 : Int32) ≤ (h_i h a0 x3.toNatClampNeg) → wpx d P_Ce_build 135 [.ref r0, .ref r1, .int x2, .int x3, .int x4, v5] [] h Q) (kf : ¬ ((10 : Int32) ≤ (h_i h a0 x3.toNatClampNeg)) → wpx d P_Ce_build 77 [.ref r0, .ref r1, .int x2, .int x3, .int x4, v5] [] h Q) : wpx d P_Ce_build 66 [.ref r0, .ref r1, .int x2, .int x3, .int x4, v5] [] h Q := by
  refine st_aload (pc' := 67) rfl rfl rfl ?_
  refine st_getfr (x := some a0) (Or.inl rfl) rfl hs0 rfl hr1 (pc' := 70) rfl ?_
  refine st_iload (pc' := 71) rfl rfl rfl ?_
  refine st_iaload rfl hs2 hb3 (j := x3.toNatClampNeg) rfl (pc' := 72) rfl ?_
  refine st_ipush (pc' := 74) (v := 10) rfl rfl (by decide) ?_
  exact st_icmp_ge (pc' := 77) rfl rfl kt kf
theorem B_Ce_build_77 {d : Nat} {h : PH} {Q : PQ} {r0 : Nat} {r1 : Nat} {x2 : Int32} {x3 : Int32} {x4 : Int32} {v5 : Value} (hs0 : h_sh h r1 = some (0, 8)) (k : wpm d 96 [.ref r1, .int x4] h (fun r h' => wpx d P_Ce_build 83 [.ref r0, .ref r1, .int x2, .int x3, .int x4, v5] (r.toList ++ []) h' Q)) : wpx d P_Ce_build 77 [.ref r0, .ref r1, .int x2, .int x3, .int x4, v5] [] h Q := by
  refine st_aload (pc' := 78) rfl rfl rfl ?_
  refine st_iload (pc' := 80) rfl rfl rfl ?_
  exact st_call (pc' := 83) (as := [.ref r1, .int x4]) (rest := []) rfl rfl (Nat.le_of_ble_eq_true rfl) rfl rfl (Nat.le_of_ble_eq_true rfl) (kd := 1) (o := 8) rfl rfl (beq_iff_eq.mpr hs0) k
theorem B_Ce_build_83 {d : Nat} {h : PH} {Q : PQ} {r0 : Nat} {r1 : Nat} {x2 : Int32} {x3 : Int32} {x4 : Int32} {v5 : Value} {s0 : Int32}  (kt : s0 = 0 → wpx d P_Ce_build 101 [.ref r0, .ref r1, .int x2, .int x3, .int x4, v5] [] h Q) (kf : ¬ (s0 = 0) → wpx d P_Ce_build 86 [.ref r0, .ref r1, .int x2, .int x3, .int x4, v5] [] h Q) : wpx d P_Ce_build 83 [.ref r0, .ref r1, .int x2, .int x3, .int x4, v5] [.int s0] h Q := by
  exact st_if_eq (pc' := 86) rfl rfl kt kf
theorem B_Ce_build_86 {d : Nat} {h : PH} {Q : PQ} {r0 : Nat} {r1 : Nat} {x2 : Int32} {x3 : Int32} {x4 : Int32} {v5 : Value} {a0 : Nat} {n1 : Nat} (hs0 : h_sh h r0 = some (0, 1)) (hr1 : h_r h r0 0 = some a0) (hs2 : h_sh h a0 = some (1, n1)) (hb3 : vp_in x3 n1) (k : wpm d 16 [.ref r1, .int (h_i h a0 x3.toNatClampNeg), .int x4] h (fun r h' => wpx d P_Ce_build 98 [.ref r0, .ref r1, .int x2, .int x3, .int x4, v5] (r.toList ++ []) h' Q)) : wpx d P_Ce_build 86 [.ref r0, .ref r1, .int x2, .int x3, .int x4, v5] [] h Q := by
  refine st_aload (pc' := 87) rfl rfl rfl ?_
  refine st_aload (pc' := 88) rfl rfl rfl ?_
  refine st_getfr (x := some a0) (Or.inl rfl) rfl hs0 rfl hr1 (pc' := 91) rfl ?_
  refine st_iload (pc' := 92) rfl rfl rfl ?_
  refine st_iaload rfl hs2 hb3 (j := x3.toNatClampNeg) rfl (pc' := 93) rfl ?_
  refine st_iload (pc' := 95) rfl rfl rfl ?_
  exact st_call (pc' := 98) (as := [.ref r1, .int (h_i h a0 x3.toNatClampNeg), .int x4]) (rest := []) rfl rfl (Nat.le_of_ble_eq_true rfl) rfl rfl (Nat.le_of_ble_eq_true rfl) (kd := 0) (o := 1) rfl rfl rfl k
theorem B_Ce_build_98 {d : Nat} {h : PH} {Q : PQ} {r0 : Nat} {r1 : Nat} {x2 : Int32} {x3 : Int32} {x4 : Int32} {v5 : Value} {s0 : Int32}  (k : wpx d P_Ce_build 102 [.ref r0, .ref r1, .int x2, .int x3, .int x4, v5] [.int s0] h Q) : wpx d P_Ce_build 98 [.ref r0, .ref r1, .int x2, .int x3, .int x4, v5] [.int s0] h Q := by
  exact st_goto rfl k
theorem B_Ce_build_101 {d : Nat} {h : PH} {Q : PQ} {r0 : Nat} {r1 : Nat} {x2 : Int32} {x3 : Int32} {x4 : Int32} {v5 : Value}  (k : wpx d P_Ce_build 102 [.ref r0, .ref r1, .int x2, .int x3, .int x4, v5] [.int 0] h Q) : wpx d P_Ce_build 101 [.ref r0, .ref r1, .int x2, .int x3, .int x4, v5] [] h Q := by
  refine st_ipush (pc' := 102) (v := 0) rfl rfl (by decide) ?_
  exact k
theorem B_Ce_build_102 {d : Nat} {h : PH} {Q : PQ} {r0 : Nat} {r1 : Nat} {x2 : Int32} {x3 : Int32} {x4 : Int32} {v5 : Value} {s0 : Int32}  (kt : s0 = 0 → wpx d P_Ce_build 129 [.ref r0, .ref r1, .int x2, .int x3, .int x4, .int s0] [] h Q) (kf : ¬ (s0 = 0) → wpx d P_Ce_build 109 [.ref r0, .ref r1, .int x2, .int x3, .int x4, .int s0] [] h Q) : wpx d P_Ce_build 102 [.ref r0, .ref r1, .int x2, .int x3, .int x4, v5] [.int s0] h Q := by
  refine st_istore (pc' := 104) (ls' := [.ref r0, .ref r1, .int x2, .int x3, .int x4, .int s0]) rfl rfl (Nat.le_of_ble_eq_true rfl) rfl ?_
  refine st_iload (pc' := 106) rfl rfl rfl ?_
  exact st_if_eq (pc' := 109) rfl rfl kt kf
theorem B_Ce_build_109 {d : Nat} {h : PH} {Q : PQ} {r0 : Nat} {r1 : Nat} {x2 : Int32} {x3 : Int32} {x4 : Int32} {x5 : Int32} {a0 : Nat} {n1 : Nat} (hs0 : h_sh h r0 = some (0, 1)) (hr1 : h_r h r0 1 = some a0) (hs2 : h_sh h a0 = some (1, n1)) (hb3 : vp_in x3 n1) (k : wpm d 17 [.ref r0, .int x5, .int ((h_i h a0 x3.toNatClampNeg) + (1 : Int32))] h (fun r h' => wpx d P_Ce_build 126 [.ref r0, .ref r1, .int x2, .int x3, .int x4, .int x5] (r.toList ++ [.int x4, .ref r0]) h' Q)) : wpx d P_Ce_build 109 [.ref r0, .ref r1, .int x2, .int x3, .int x4, .int x5] [] h Q := by
  refine st_aload (pc' := 110) rfl rfl rfl ?_
  refine st_iload (pc' := 112) rfl rfl rfl ?_
  refine st_aload (pc' := 113) rfl rfl rfl ?_
  refine st_iload (pc' := 115) rfl rfl rfl ?_
  refine st_aload (pc' := 116) rfl rfl rfl ?_
  refine st_getfr (x := some a0) (Or.inl rfl) rfl hs0 rfl hr1 (pc' := 119) rfl ?_
  refine st_iload (pc' := 120) rfl rfl rfl ?_
  refine st_iaload rfl hs2 hb3 (j := x3.toNatClampNeg) rfl (pc' := 121) rfl ?_
  refine st_ipush (pc' := 122) (v := 1) rfl rfl (by decide) ?_
  refine st_iadd (pc' := 123) rfl rfl ?_
  exact st_call (pc' := 126) (as := [.ref r0, .int x5, .int ((h_i h a0 x3.toNatClampNeg) + (1 : Int32))]) (rest := [.int x4, .ref r0]) rfl rfl (Nat.le_of_ble_eq_true rfl) rfl rfl (Nat.le_of_ble_eq_true rfl) (kd := 1) (o := 1) rfl rfl (beq_iff_eq.mpr hs0) k
theorem B_Ce_build_126 {d : Nat} {h : PH} {Q : PQ} {r0 : Nat} {r1 : Nat} {x2 : Int32} {x3 : Int32} {x4 : Int32} {x5 : Int32} {q0 : Nat} {s1 : Int32} {s2 : Int32} (hs0 : h_sh h q0 = some (0, 1)) (k : wpm d 20 [.ref q0, .int s1, .int s2] h (fun r h' => wpx d P_Ce_build 129 [.ref r0, .ref r1, .int x2, .int x3, .int x4, .int x5] (r.toList ++ []) h' Q)) : wpx d P_Ce_build 126 [.ref r0, .ref r1, .int x2, .int x3, .int x4, .int x5] [.int s2, .int s1, .ref q0] h Q := by
  exact st_call (pc' := 129) (as := [.ref q0, .int s1, .int s2]) (rest := []) rfl rfl (Nat.le_of_ble_eq_true rfl) rfl rfl (Nat.le_of_ble_eq_true rfl) (kd := 1) (o := 1) rfl rfl (beq_iff_eq.mpr hs0) k
theorem B_Ce_build_129 {d : Nat} {h : PH} {Q : PQ} {r0 : Nat} {r1 : Nat} {x2 : Int32} {x3 : Int32} {x4 : Int32} {x5 : Int32}  (k : wpx d P_Ce_build 59 [.ref r0, .ref r1, .int x2, .int x3, .int (x4 + 1), .int x5] [] h Q) : wpx d P_Ce_build 129 [.ref r0, .ref r1, .int x2, .int x3, .int x4, .int x5] [] h Q := by
  refine st_iinc (pc' := 132) (v := 1) (ls' := [.ref r0, .ref r1, .int x2, .int x3, .int (x4 + 1), .int x5]) rfl rfl rfl (by decide) rfl ?_
  exact st_goto rfl k
theorem B_Ce_build_135 {d : Nat} {h : PH} {Q : PQ} {r0 : Nat} {r1 : Nat} {x2 : Int32} {x3 : Int32} {x4 : Int32} {v5 : Value} {a0 : Nat} {n1 : Nat} (hs0 : h_sh h r0 = some (0, 1)) (hr1 : h_r h r0 6 = some a0) (hs2 : h_sh h a0 = some (1, n1)) (hb3 : vp_in (x3 + (1 : Int32)) n1) (k : wpx d P_Ce_build 32 [.ref r0, .ref r1, .int x2, .int (x3 + 1), .int x4, v5] [] (w_i h a0 ((x3 + (1 : Int32)).toNatClampNeg) (h_i h r0 9)) Q) : wpx d P_Ce_build 135 [.ref r0, .ref r1, .int x2, .int x3, .int x4, v5] [] h Q := by
  refine st_aload (pc' := 136) rfl rfl rfl ?_
  refine st_getfr (x := some a0) (Or.inl rfl) rfl hs0 rfl hr1 (pc' := 139) rfl ?_
  refine st_iload (pc' := 140) rfl rfl rfl ?_
  refine st_ipush (pc' := 141) (v := 1) rfl rfl (by decide) ?_
  refine st_iadd (pc' := 142) rfl rfl ?_
  refine st_aload (pc' := 143) rfl rfl rfl ?_
  refine st_getfi (Or.inl rfl) rfl hs0 rfl (pc' := 146) rfl ?_
  refine st_iastore rfl hs2 hb3 (j := (x3 + (1 : Int32)).toNatClampNeg) rfl (pc' := 147) rfl ?_
  refine st_iinc (pc' := 150) (v := 1) (ls' := [.ref r0, .ref r1, .int x2, .int (x3 + 1), .int x4, v5]) rfl rfl rfl (by decide) rfl ?_
  exact st_goto rfl k
theorem B_Ce_build_153 {d : Nat} {h : PH} {Q : PQ} {r0 : Nat} {r1 : Nat} {x2 : Int32} {x3 : Int32} {v4 : Value} {v5 : Value}  (k : wpx d P_Ce_build 155 [.ref r0, .ref r1, .int x2, .int 0, v4, v5] [] h Q) : wpx d P_Ce_build 153 [.ref r0, .ref r1, .int x2, .int x3, v4, v5] [] h Q := by
  refine st_ipush (pc' := 154) (v := 0) rfl rfl (by decide) ?_
  refine st_istore (pc' := 155) (ls' := [.ref r0, .ref r1, .int x2, .int 0, v4, v5]) rfl rfl (Nat.le_of_ble_eq_true rfl) rfl ?_
  exact k
theorem B_Ce_build_155 {d : Nat} {h : PH} {Q : PQ} {r0 : Nat} {r1 : Nat} {x2 : Int32} {x3 : Int32} {v4 : Value} {v5 : Value}  (kt : (10 : Int32) < x3 → wpx d P_Ce_build 206 [.ref r0, .ref r1, .int x2, .int x3, v4, v5] [] h Q) (kf : ¬ ((10 : Int32) < x3) → wpx d P_Ce_build 161 [.ref r0, .ref r1, .int x2, .int x3, v4, v5] [] h Q) : wpx d P_Ce_build 155 [.ref r0, .ref r1, .int x2, .int x3, v4, v5] [] h Q := by
  refine st_iload (pc' := 156) rfl rfl rfl ?_
  refine st_ipush (pc' := 158) (v := 10) rfl rfl (by decide) ?_
  exact st_icmp_gt (pc' := 161) rfl rfl kt kf
theorem B_Ce_build_161 {d : Nat} {h : PH} {Q : PQ} {r0 : Nat} {r1 : Nat} {x2 : Int32} {x3 : Int32} {v4 : Value} {v5 : Value}  (k : wpx d P_Ce_build 164 [.ref r0, .ref r1, .int x2, .int x3, .int 0, v5] [] h Q) : wpx d P_Ce_build 161 [.ref r0, .ref r1, .int x2, .int x3, v4, v5] [] h Q := by
  refine st_ipush (pc' := 162) (v := 0) rfl rfl (by decide) ?_
  refine st_istore (pc' := 164) (ls' := [.ref r0, .ref r1, .int x2, .int x3, .int 0, v5]) rfl rfl (Nat.le_of_ble_eq_true rfl) rfl ?_
  exact k
theorem B_Ce_build_164 {d : Nat} {h : PH} {Q : PQ} {r0 : Nat} {r1 : Nat} {x2 : Int32} {x3 : Int32} {x4 : Int32} {v5 : Value} (hs0 : h_sh h r0 = some (0, 1)) (kt : (h_i h r0 4) ≤ x4 → wpx d P_Ce_build 200 [.ref r0, .ref r1, .int x2, .int x3, .int x4, v5] [] h Q) (kf : ¬ ((h_i h r0 4) ≤ x4) → wpx d P_Ce_build 173 [.ref r0, .ref r1, .int x2, .int x3, .int x4, v5] [] h Q) : wpx d P_Ce_build 164 [.ref r0, .ref r1, .int x2, .int x3, .int x4, v5] [] h Q := by
  refine st_iload (pc' := 166) rfl rfl rfl ?_
  refine st_aload (pc' := 167) rfl rfl rfl ?_
  refine st_getfi (Or.inl rfl) rfl hs0 rfl (pc' := 170) rfl ?_
  exact st_icmp_ge (pc' := 173) rfl rfl kt kf
theorem B_Ce_build_173 {d : Nat} {h : PH} {Q : PQ} {r0 : Nat} {r1 : Nat} {x2 : Int32} {x3 : Int32} {x4 : Int32} {v5 : Value} {a0 : Nat} {n1 : Nat} (hs0 : h_sh h r0 = some (0, 1)) (hr1 : h_r h r0 1 = some a0) (hs2 : h_sh h a0 = some (1, n1)) (hb3 : vp_in x4 n1) (kt : (10 : Int32) < ((h_i h a0 x4.toNatClampNeg) + x3) → wpx d P_Ce_build 194 [.ref r0, .ref r1, .int x2, .int x3, .int x4, v5] [] h Q) (kf : ¬ ((10 : Int32) < ((h_i h a0 x4.toNatClampNeg) + x3)) → wpx d P_Ce_build 187 [.ref r0, .ref r1, .int x2, .int x3, .int x4, v5] [] h Q) : wpx d P_Ce_build 173 [.ref r0, .ref r1, .int x2, .int x3, .int x4, v5] [] h Q := by
  refine st_aload (pc' := 174) rfl rfl rfl ?_
  refine st_getfr (x := some a0) (Or.inl rfl) rfl hs0 rfl hr1 (pc' := 177) rfl ?_
  refine st_iload (pc' := 179) rfl rfl rfl ?_
  refine st_iaload rfl hs2 hb3 (j := x4.toNatClampNeg) rfl (pc' := 180) rfl ?_
  refine st_iload (pc' := 181) rfl rfl rfl ?_
  refine st_iadd (pc' := 182) rfl rfl ?_
  refine st_ipush (pc' := 184) (v := 10) rfl rfl (by decide) ?_
  exact st_icmp_gt (pc' := 187) rfl rfl kt kf
theorem B_Ce_build_187 {d : Nat} {h : PH} {Q : PQ} {r0 : Nat} {r1 : Nat} {x2 : Int32} {x3 : Int32} {x4 : Int32} {v5 : Value} (hs0 : h_sh h r0 = some (0, 1)) (k : wpm d 21 [.ref r0, .int x4, .int x3] h (fun r h' => wpx d P_Ce_build 194 [.ref r0, .ref r1, .int x2, .int x3, .int x4, v5] (r.toList ++ []) h' Q)) : wpx d P_Ce_build 187 [.ref r0, .ref r1, .int x2, .int x3, .int x4, v5] [] h Q := by
  refine st_aload (pc' := 188) rfl rfl rfl ?_
  refine st_iload (pc' := 190) rfl rfl rfl ?_
  refine st_iload (pc' := 191) rfl rfl rfl ?_
  exact st_call (pc' := 194) (as := [.ref r0, .int x4, .int x3]) (rest := []) rfl rfl (Nat.le_of_ble_eq_true rfl) rfl rfl (Nat.le_of_ble_eq_true rfl) (kd := 1) (o := 1) rfl rfl (beq_iff_eq.mpr hs0) k
theorem B_Ce_build_194 {d : Nat} {h : PH} {Q : PQ} {r0 : Nat} {r1 : Nat} {x2 : Int32} {x3 : Int32} {x4 : Int32} {v5 : Value}  (k : wpx d P_Ce_build 164 [.ref r0, .ref r1, .int x2, .int x3, .int (x4 + 1), v5] [] h Q) : wpx d P_Ce_build 194 [.ref r0, .ref r1, .int x2, .int x3, .int x4, v5] [] h Q := by
  refine st_iinc (pc' := 197) (v := 1) (ls' := [.ref r0, .ref r1, .int x2, .int x3, .int (x4 + 1), v5]) rfl rfl rfl (by decide) rfl ?_
  exact st_goto rfl k
theorem B_Ce_build_200 {d : Nat} {h : PH} {Q : PQ} {r0 : Nat} {r1 : Nat} {x2 : Int32} {x3 : Int32} {x4 : Int32} {v5 : Value}  (k : wpx d P_Ce_build 155 [.ref r0, .ref r1, .int x2, .int (x3 + 1), .int x4, v5] [] h Q) : wpx d P_Ce_build 200 [.ref r0, .ref r1, .int x2, .int x3, .int x4, v5] [] h Q := by
  refine st_iinc (pc' := 203) (v := 1) (ls' := [.ref r0, .ref r1, .int x2, .int (x3 + 1), .int x4, v5]) rfl rfl rfl (by decide) rfl ?_
  exact st_goto rfl k
theorem B_Ce_build_206 {d : Nat} {h : PH} {Q : PQ} {r0 : Nat} {r1 : Nat} {x2 : Int32} {x3 : Int32} {v4 : Value} {v5 : Value}  (k : Q none h) : wpx d P_Ce_build 206 [.ref r0, .ref r1, .int x2, .int x3, v4, v5] [] h Q := by
  exact st_return rfl k
theorem B_Ce_keyBehind_0 {d : Nat} {h : PH} {Q : PQ} {r0 : Nat} {x1 : Int32} {x2 : Int32} {v3 : Value} {v4 : Value} {v5 : Value} {v6 : Value} {v7 : Value} {v8 : Value} {v9 : Value}  (k : wpx d P_Ce_keyBehind 17 [.ref r0, .int x1, .int x2, .int ((x1.toUInt32 >>> ((14 : Int32).toUInt32 &&& Int32.toUInt32 31)).toInt32), .int 0, .int 0, .int 0, .int 0, v8, v9] [] h Q) : wpx d P_Ce_keyBehind 0 [.ref r0, .int x1, .int x2, v3, v4, v5, v6, v7, v8, v9] [] h Q := by
  refine st_iload (pc' := 1) rfl rfl rfl ?_
  refine st_ipush (pc' := 3) (v := 14) rfl rfl (by decide) ?_
  refine st_iushr (pc' := 4) rfl rfl ?_
  refine st_istore (pc' := 5) (ls' := [.ref r0, .int x1, .int x2, .int ((x1.toUInt32 >>> ((14 : Int32).toUInt32 &&& Int32.toUInt32 31)).toInt32), v4, v5, v6, v7, v8, v9]) rfl rfl (Nat.le_of_ble_eq_true rfl) rfl ?_
  refine st_ipush (pc' := 6) (v := 0) rfl rfl (by decide) ?_
  refine st_istore (pc' := 8) (ls' := [.ref r0, .int x1, .int x2, .int ((x1.toUInt32 >>> ((14 : Int32).toUInt32 &&& Int32.toUInt32 31)).toInt32), .int 0, v5, v6, v7, v8, v9]) rfl rfl (Nat.le_of_ble_eq_true rfl) rfl ?_
  refine st_ipush (pc' := 9) (v := 0) rfl rfl (by decide) ?_
  refine st_istore (pc' := 11) (ls' := [.ref r0, .int x1, .int x2, .int ((x1.toUInt32 >>> ((14 : Int32).toUInt32 &&& Int32.toUInt32 31)).toInt32), .int 0, .int 0, v6, v7, v8, v9]) rfl rfl (Nat.le_of_ble_eq_true rfl) rfl ?_
  refine st_ipush (pc' := 12) (v := 0) rfl rfl (by decide) ?_
  refine st_istore (pc' := 14) (ls' := [.ref r0, .int x1, .int x2, .int ((x1.toUInt32 >>> ((14 : Int32).toUInt32 &&& Int32.toUInt32 31)).toInt32), .int 0, .int 0, .int 0, v7, v8, v9]) rfl rfl (Nat.le_of_ble_eq_true rfl) rfl ?_
  refine st_ipush (pc' := 15) (v := 0) rfl rfl (by decide) ?_
  refine st_istore (pc' := 17) (ls' := [.ref r0, .int x1, .int x2, .int ((x1.toUInt32 >>> ((14 : Int32).toUInt32 &&& Int32.toUInt32 31)).toInt32), .int 0, .int 0, .int 0, .int 0, v8, v9]) rfl rfl (Nat.le_of_ble_eq_true rfl) rfl ?_
  exact k
theorem B_Ce_keyBehind_17 {d : Nat} {h : PH} {Q : PQ} {r0 : Nat} {x1 : Int32} {x2 : Int32} {x3 : Int32} {x4 : Int32} {x5 : Int32} {x6 : Int32} {x7 : Int32} {v8 : Value} {v9 : Value}  (kt : (6 : Int32) < x7 → wpx d P_Ce_keyBehind 131 [.ref r0, .int x1, .int x2, .int x3, .int x4, .int x5, .int x6, .int x7, v8, v9] [] h Q) (kf : ¬ ((6 : Int32) < x7) → wpx d P_Ce_keyBehind 24 [.ref r0, .int x1, .int x2, .int x3, .int x4, .int x5, .int x6, .int x7, v8, v9] [] h Q) : wpx d P_Ce_keyBehind 17 [.ref r0, .int x1, .int x2, .int x3, .int x4, .int x5, .int x6, .int x7, v8, v9] [] h Q := by
  refine st_iload (pc' := 19) rfl rfl rfl ?_
  refine st_ipush (pc' := 21) (v := 6) rfl rfl (by decide) ?_
  exact st_icmp_gt (pc' := 24) rfl rfl kt kf
theorem B_Ce_keyBehind_24 {d : Nat} {h : PH} {Q : PQ} {r0 : Nat} {x1 : Int32} {x2 : Int32} {x3 : Int32} {x4 : Int32} {x5 : Int32} {x6 : Int32} {x7 : Int32} {v8 : Value} {v9 : Value}  (kt : ¬ ((((x1.toUInt32 >>> (((2 : Int32) * x7).toUInt32 &&& Int32.toUInt32 31)).toInt32) &&& (3 : Int32)) = 0) → wpx d P_Ce_keyBehind 43 [.ref r0, .int x1, .int x2, .int x3, .int x4, .int x5, .int x6, .int x7, .int (((x1.toUInt32 >>> (((2 : Int32) * x7).toUInt32 &&& Int32.toUInt32 31)).toInt32) &&& (3 : Int32)), v9] [] h Q) (kf : (((x1.toUInt32 >>> (((2 : Int32) * x7).toUInt32 &&& Int32.toUInt32 31)).toInt32) &&& (3 : Int32)) = 0 → wpx d P_Ce_keyBehind 39 [.ref r0, .int x1, .int x2, .int x3, .int x4, .int x5, .int x6, .int x7, .int (((x1.toUInt32 >>> (((2 : Int32) * x7).toUInt32 &&& Int32.toUInt32 31)).toInt32) &&& (3 : Int32)), v9] [] h Q) : wpx d P_Ce_keyBehind 24 [.ref r0, .int x1, .int x2, .int x3, .int x4, .int x5, .int x6, .int x7, v8, v9] [] h Q := by
  refine st_iload (pc' := 25) rfl rfl rfl ?_
  refine st_ipush (pc' := 26) (v := 2) rfl rfl (by decide) ?_
  refine st_iload (pc' := 28) rfl rfl rfl ?_
  refine st_imul (pc' := 29) rfl rfl ?_
  refine st_iushr (pc' := 30) rfl rfl ?_
  refine st_ipush (pc' := 31) (v := 3) rfl rfl (by decide) ?_
  refine st_iand (pc' := 32) rfl rfl ?_
  refine st_istore (pc' := 34) (ls' := [.ref r0, .int x1, .int x2, .int x3, .int x4, .int x5, .int x6, .int x7, .int (((x1.toUInt32 >>> (((2 : Int32) * x7).toUInt32 &&& Int32.toUInt32 31)).toInt32) &&& (3 : Int32)), v9]) rfl rfl (Nat.le_of_ble_eq_true rfl) rfl ?_
  refine st_iload (pc' := 36) rfl rfl rfl ?_
  exact st_if_ne (pc' := 39) rfl rfl kt kf
theorem B_Ce_keyBehind_39 {d : Nat} {h : PH} {Q : PQ} {r0 : Nat} {x1 : Int32} {x2 : Int32} {x3 : Int32} {x4 : Int32} {x5 : Int32} {x6 : Int32} {x7 : Int32} {x8 : Int32} {v9 : Value}  (k : wpx d P_Ce_keyBehind 55 [.ref r0, .int x1, .int x2, .int x3, .int x4, .int x5, .int x6, .int x7, .int x8, v9] [.int (-1)] h Q) : wpx d P_Ce_keyBehind 39 [.ref r0, .int x1, .int x2, .int x3, .int x4, .int x5, .int x6, .int x7, .int x8, v9] [] h Q := by
  refine st_ipush (pc' := 40) (v := (-1)) rfl rfl (by decide) ?_
  exact st_goto rfl k
theorem B_Ce_keyBehind_43 {d : Nat} {h : PH} {Q : PQ} {r0 : Nat} {x1 : Int32} {x2 : Int32} {x3 : Int32} {x4 : Int32} {x5 : Int32} {x6 : Int32} {x7 : Int32} {x8 : Int32} {v9 : Value} (hs0 : h_sh h r0 = some (0, 8)) (k : wpm d 98 [.ref r0, .int x3, .int x7] h (fun r h' => wpx d P_Ce_keyBehind 51 [.ref r0, .int x1, .int x2, .int x3, .int x4, .int x5, .int x6, .int x7, .int x8, v9] (r.toList ++ [.ref r0]) h' Q)) : wpx d P_Ce_keyBehind 43 [.ref r0, .int x1, .int x2, .int x3, .int x4, .int x5, .int x6, .int x7, .int x8, v9] [] h Q := by
  refine st_aload (pc' := 44) rfl rfl rfl ?_
  refine st_aload (pc' := 45) rfl rfl rfl ?_
  refine st_iload (pc' := 46) rfl rfl rfl ?_
  refine st_iload (pc' := 48) rfl rfl rfl ?_
  exact st_call (pc' := 51) (as := [.ref r0, .int x3, .int x7]) (rest := [.ref r0]) rfl rfl (Nat.le_of_ble_eq_true rfl) rfl rfl (Nat.le_of_ble_eq_true rfl) (kd := 1) (o := 8) rfl rfl (beq_iff_eq.mpr hs0) k
theorem B_Ce_keyBehind_51 {d : Nat} {h : PH} {Q : PQ} {r0 : Nat} {x1 : Int32} {x2 : Int32} {x3 : Int32} {x4 : Int32} {x5 : Int32} {x6 : Int32} {x7 : Int32} {x8 : Int32} {v9 : Value} {q0 : Nat} {s1 : Int32} (hs0 : h_sh h q0 = some (0, 8)) (k : wpm d 97 [.ref q0, .int s1, .int x2] h (fun r h' => wpx d P_Ce_keyBehind 55 [.ref r0, .int x1, .int x2, .int x3, .int x4, .int x5, .int x6, .int x7, .int x8, v9] (r.toList ++ []) h' Q)) : wpx d P_Ce_keyBehind 51 [.ref r0, .int x1, .int x2, .int x3, .int x4, .int x5, .int x6, .int x7, .int x8, v9] [.int s1, .ref q0] h Q := by
  refine st_iload (pc' := 52) rfl rfl rfl ?_
  exact st_call (pc' := 55) (as := [.ref q0, .int s1, .int x2]) (rest := []) rfl rfl (Nat.le_of_ble_eq_true rfl) rfl rfl (Nat.le_of_ble_eq_true rfl) (kd := 1) (o := 8) rfl rfl (beq_iff_eq.mpr hs0) k
theorem B_Ce_keyBehind_55 {d : Nat} {h : PH} {Q : PQ} {r0 : Nat} {x1 : Int32} {x2 : Int32} {x3 : Int32} {x4 : Int32} {x5 : Int32} {x6 : Int32} {x7 : Int32} {x8 : Int32} {v9 : Value} {s0 : Int32}  (kt : s0 = ((-1) : Int32) → wpx d P_Ce_keyBehind 84 [.ref r0, .int x1, .int x2, .int x3, .int x4, .int x5, .int x6, .int x7, .int x8, .int s0] [] h Q) (kf : ¬ (s0 = ((-1) : Int32)) → wpx d P_Ce_keyBehind 63 [.ref r0, .int x1, .int x2, .int x3, .int x4, .int x5, .int x6, .int x7, .int x8, .int s0] [] h Q) : wpx d P_Ce_keyBehind 55 [.ref r0, .int x1, .int x2, .int x3, .int x4, .int x5, .int x6, .int x7, .int x8, v9] [.int s0] h Q := by
  refine st_istore (pc' := 57) (ls' := [.ref r0, .int x1, .int x2, .int x3, .int x4, .int x5, .int x6, .int x7, .int x8, .int s0]) rfl rfl (Nat.le_of_ble_eq_true rfl) rfl ?_
  refine st_iload (pc' := 59) rfl rfl rfl ?_
  refine st_ipush (pc' := 60) (v := (-1)) rfl rfl (by decide) ?_
  exact st_icmp_eq (pc' := 63) rfl rfl kt kf
theorem B_Ce_keyBehind_63 {d : Nat} {h : PH} {Q : PQ} {r0 : Nat} {x1 : Int32} {x2 : Int32} {x3 : Int32} {x4 : Int32} {x5 : Int32} {x6 : Int32} {x7 : Int32} {x8 : Int32} {x9 : Int32} {a0 : Nat} {n1 : Nat} (hs0 : h_sh h r0 = some (0, 8)) (hr1 : h_r h r0 3 = some a0) (hs2 : h_sh h a0 = some (3, n1)) (hb3 : vp_in x9 n1) (kt : (h_i h a0 x9.toNatClampNeg) = 0 → wpx d P_Ce_keyBehind 84 [.ref r0, .int x1, .int x2, .int x3, .int x4, .int x5, .int x6, .int x7, .int x8, .int x9] [] h Q) (kf : ¬ ((h_i h a0 x9.toNatClampNeg) = 0) → wpx d P_Ce_keyBehind 73 [.ref r0, .int x1, .int x2, .int x3, .int x4, .int x5, .int x6, .int x7, .int x8, .int x9] [] h Q) : wpx d P_Ce_keyBehind 63 [.ref r0, .int x1, .int x2, .int x3, .int x4, .int x5, .int x6, .int x7, .int x8, .int x9] [] h Q := by
  refine st_aload (pc' := 64) rfl rfl rfl ?_
  refine st_getfr (x := some a0) (Or.inr rfl) rfl hs0 rfl hr1 (pc' := 67) rfl ?_
  refine st_iload (pc' := 69) rfl rfl rfl ?_
  refine st_baload rfl (Or.inr hs2) hb3 (j := x9.toNatClampNeg) rfl (pc' := 70) rfl ?_
  exact st_if_eq (pc' := 73) rfl rfl kt kf
theorem B_Ce_keyBehind_73 {d : Nat} {h : PH} {Q : PQ} {r0 : Nat} {x1 : Int32} {x2 : Int32} {x3 : Int32} {x4 : Int32} {x5 : Int32} {x6 : Int32} {x7 : Int32} {x8 : Int32} {x9 : Int32}  (k : wpx d P_Ce_keyBehind 84 [.ref r0, .int x1, .int x2, .int x3, .int x4, .int x5, .int (if (x6 + x8) < (2 : Int32) then (x6 + x8) else (2 : Int32)), .int x7, .int x8, .int x9] [] h Q) : wpx d P_Ce_keyBehind 73 [.ref r0, .int x1, .int x2, .int x3, .int x4, .int x5, .int x6, .int x7, .int x8, .int x9] [] h Q := by
  refine st_ipush (pc' := 74) (v := 2) rfl rfl (by decide) ?_
  refine st_iload (pc' := 76) rfl rfl rfl ?_
  refine st_iload (pc' := 78) rfl rfl rfl ?_
  refine st_iadd (pc' := 79) rfl rfl ?_
  refine st_mmin (pc' := 82) rfl rfl (Nat.le_of_ble_eq_true rfl) ?_
  refine st_istore (pc' := 84) (ls' := [.ref r0, .int x1, .int x2, .int x3, .int x4, .int x5, .int (if (x6 + x8) < (2 : Int32) then (x6 + x8) else (2 : Int32)), .int x7, .int x8, .int x9]) rfl rfl (Nat.le_of_ble_eq_true rfl) rfl ?_
  exact k
theorem B_Ce_keyBehind_84 {d : Nat} {h : PH} {Q : PQ} {r0 : Nat} {x1 : Int32} {x2 : Int32} {x3 : Int32} {x4 : Int32} {x5 : Int32} {x6 : Int32} {x7 : Int32} {x8 : Int32} {x9 : Int32}  (kt : x9 = ((-1) : Int32) → wpx d P_Ce_keyBehind 125 [.ref r0, .int x1, .int x2, .int x3, .int x4, .int x5, .int x6, .int x7, .int x8, .int x9] [] h Q) (kf : ¬ (x9 = ((-1) : Int32)) → wpx d P_Ce_keyBehind 90 [.ref r0, .int x1, .int x2, .int x3, .int x4, .int x5, .int x6, .int x7, .int x8, .int x9] [] h Q) : wpx d P_Ce_keyBehind 84 [.ref r0, .int x1, .int x2, .int x3, .int x4, .int x5, .int x6, .int x7, .int x8, .int x9] [] h Q := by
  refine st_iload (pc' := 86) rfl rfl rfl ?_
  refine st_ipush (pc' := 87) (v := (-1)) rfl rfl (by decide) ?_
  exact st_icmp_eq (pc' := 90) rfl rfl kt kf
theorem B_Ce_keyBehind_90 {d : Nat} {h : PH} {Q : PQ} {r0 : Nat} {x1 : Int32} {x2 : Int32} {x3 : Int32} {x4 : Int32} {x5 : Int32} {x6 : Int32} {x7 : Int32} {x8 : Int32} {x9 : Int32} {a0 : Nat} {n1 : Nat} (hs0 : h_sh h r0 = some (0, 8)) (hr1 : h_r h r0 4 = some a0) (hs2 : h_sh h a0 = some (3, n1)) (hb3 : vp_in x9 n1) (kt : (h_i h a0 x9.toNatClampNeg) = 0 → wpx d P_Ce_keyBehind 125 [.ref r0, .int x1, .int x2, .int x3, .int x4, .int x5, .int x6, .int x7, .int x8, .int x9] [] h Q) (kf : ¬ ((h_i h a0 x9.toNatClampNeg) = 0) → wpx d P_Ce_keyBehind 100 [.ref r0, .int x1, .int x2, .int x3, .int x4, .int x5, .int x6, .int x7, .int x8, .int x9] [] h Q) : wpx d P_Ce_keyBehind 90 [.ref r0, .int x1, .int x2, .int x3, .int x4, .int x5, .int x6, .int x7, .int x8, .int x9] [] h Q := by
  refine st_aload (pc' := 91) rfl rfl rfl ?_
  refine st_getfr (x := some a0) (Or.inr rfl) rfl hs0 rfl hr1 (pc' := 94) rfl ?_
  refine st_iload (pc' := 96) rfl rfl rfl ?_
  refine st_baload rfl (Or.inr hs2) hb3 (j := x9.toNatClampNeg) rfl (pc' := 97) rfl ?_
  exact st_if_eq (pc' := 100) rfl rfl kt kf
theorem B_Ce_keyBehind_100 {d : Nat} {h : PH} {Q : PQ} {r0 : Nat} {x1 : Int32} {x2 : Int32} {x3 : Int32} {x4 : Int32} {x5 : Int32} {x6 : Int32} {x7 : Int32} {x8 : Int32} {x9 : Int32}  (kt : (6 : Int32) ≤ x7 → wpx d P_Ce_keyBehind 125 [.ref r0, .int x1, .int x2, .int x3, .int x4, .int x5, .int x6, .int x7, .int x8, .int x9] [] h Q) (kf : ¬ ((6 : Int32) ≤ x7) → wpx d P_Ce_keyBehind 107 [.ref r0, .int x1, .int x2, .int x3, .int x4, .int x5, .int x6, .int x7, .int x8, .int x9] [] h Q) : wpx d P_Ce_keyBehind 100 [.ref r0, .int x1, .int x2, .int x3, .int x4, .int x5, .int x6, .int x7, .int x8, .int x9] [] h Q := by
  refine st_iload (pc' := 102) rfl rfl rfl ?_
  refine st_ipush (pc' := 104) (v := 6) rfl rfl (by decide) ?_
  exact st_icmp_ge (pc' := 107) rfl rfl kt kf
theorem B_Ce_keyBehind_107 {d : Nat} {h : PH} {Q : PQ} {r0 : Nat} {x1 : Int32} {x2 : Int32} {x3 : Int32} {x4 : Int32} {x5 : Int32} {x6 : Int32} {x7 : Int32} {x8 : Int32} {x9 : Int32}  (k : wpx d P_Ce_keyBehind 125 [.ref r0, .int x1, .int x2, .int x3, .int x9, .int (x5 ||| (x8 <<< (((2 : Int32) * (x7 + (1 : Int32))) &&& 31))), .int x6, .int x7, .int x8, .int x9] [] h Q) : wpx d P_Ce_keyBehind 107 [.ref r0, .int x1, .int x2, .int x3, .int x4, .int x5, .int x6, .int x7, .int x8, .int x9] [] h Q := by
  refine st_iload (pc' := 109) rfl rfl rfl ?_
  refine st_iload (pc' := 111) rfl rfl rfl ?_
  refine st_ipush (pc' := 112) (v := 2) rfl rfl (by decide) ?_
  refine st_iload (pc' := 114) rfl rfl rfl ?_
  refine st_ipush (pc' := 115) (v := 1) rfl rfl (by decide) ?_
  refine st_iadd (pc' := 116) rfl rfl ?_
  refine st_imul (pc' := 117) rfl rfl ?_
  refine st_ishl (pc' := 118) rfl rfl ?_
  refine st_ior (pc' := 119) rfl rfl ?_
  refine st_istore (pc' := 121) (ls' := [.ref r0, .int x1, .int x2, .int x3, .int x4, .int (x5 ||| (x8 <<< (((2 : Int32) * (x7 + (1 : Int32))) &&& 31))), .int x6, .int x7, .int x8, .int x9]) rfl rfl (Nat.le_of_ble_eq_true rfl) rfl ?_
  refine st_iload (pc' := 123) rfl rfl rfl ?_
  refine st_istore (pc' := 125) (ls' := [.ref r0, .int x1, .int x2, .int x3, .int x9, .int (x5 ||| (x8 <<< (((2 : Int32) * (x7 + (1 : Int32))) &&& 31))), .int x6, .int x7, .int x8, .int x9]) rfl rfl (Nat.le_of_ble_eq_true rfl) rfl ?_
  exact k
theorem B_Ce_keyBehind_125 {d : Nat} {h : PH} {Q : PQ} {r0 : Nat} {x1 : Int32} {x2 : Int32} {x3 : Int32} {x4 : Int32} {x5 : Int32} {x6 : Int32} {x7 : Int32} {x8 : Int32} {x9 : Int32}  (k : wpx d P_Ce_keyBehind 17 [.ref r0, .int x1, .int x2, .int x3, .int x4, .int x5, .int x6, .int (x7 + 1), .int x8, .int x9] [] h Q) : wpx d P_Ce_keyBehind 125 [.ref r0, .int x1, .int x2, .int x3, .int x4, .int x5, .int x6, .int x7, .int x8, .int x9] [] h Q := by
  refine st_iinc (pc' := 128) (v := 1) (ls' := [.ref r0, .int x1, .int x2, .int x3, .int x4, .int x5, .int x6, .int (x7 + 1), .int x8, .int x9]) rfl rfl rfl (by decide) rfl ?_
  exact st_goto rfl k
theorem B_Ce_keyBehind_131 {d : Nat} {h : PH} {Q : PQ} {r0 : Nat} {x1 : Int32} {x2 : Int32} {x3 : Int32} {x4 : Int32} {x5 : Int32} {x6 : Int32} {x7 : Int32} {v8 : Value} {v9 : Value}  (k : Q (some (.int (((x4 <<< ((14 : Int32) &&& 31)) ||| x5) ||| x6))) h) : wpx d P_Ce_keyBehind 131 [.ref r0, .int x1, .int x2, .int x3, .int x4, .int x5, .int x6, .int x7, v8, v9] [] h Q := by
  refine st_iload (pc' := 133) rfl rfl rfl ?_
  refine st_ipush (pc' := 135) (v := 14) rfl rfl (by decide) ?_
  refine st_ishl (pc' := 136) rfl rfl ?_
  refine st_iload (pc' := 138) rfl rfl rfl ?_
  refine st_ior (pc' := 139) rfl rfl ?_
  refine st_iload (pc' := 141) rfl rfl rfl ?_
  refine st_ior (pc' := 142) rfl rfl ?_
  exact st_ireturn (ty := .int) rfl rfl rfl k
theorem B_Ce_stateOf_0 {d : Nat} {h : PH} {Q : PQ} {r0 : Nat} {x1 : Int32} {x2 : Int32} {v3 : Value} {v4 : Value} {v5 : Value} {a0 : Nat} {n1 : Nat} (hs0 : h_sh h r0 = some (0, 1)) (hr1 : h_r h r0 5 = some a0) (hs2 : h_sh h a0 = some (1, n1)) (k : wpx d P_Ce_stateOf 22 [.ref r0, .int x1, .int x2, .int ((Int32.ofNat n1) - (1 : Int32)), .int ((((x1 * (-1640531535 : Int32)).toUInt32 >>> ((8 : Int32).toUInt32 &&& Int32.toUInt32 31)).toInt32) &&& ((Int32.ofNat n1) - (1 : Int32))), .int 0] [] h Q) : wpx d P_Ce_stateOf 0 [.ref r0, .int x1, .int x2, v3, v4, v5] [] h Q := by
  refine st_aload (pc' := 1) rfl rfl rfl ?_
  refine st_getfr (x := some a0) (Or.inl rfl) rfl hs0 rfl hr1 (pc' := 4) rfl ?_
  refine st_alen rfl hs2 (by decide) (pc' := 5) rfl ?_
  refine st_ipush (pc' := 6) (v := 1) rfl rfl (by decide) ?_
  refine st_isub (pc' := 7) rfl rfl ?_
  refine st_istore (pc' := 8) (ls' := [.ref r0, .int x1, .int x2, .int ((Int32.ofNat n1) - (1 : Int32)), v4, v5]) rfl rfl (Nat.le_of_ble_eq_true rfl) rfl ?_
  refine st_iload (pc' := 9) rfl rfl rfl ?_
  refine st_ldc (pc' := 11) (v := (-1640531535)) rfl rfl (by decide) ?_
  refine st_imul (pc' := 12) rfl rfl ?_
  refine st_ipush (pc' := 14) (v := 8) rfl rfl (by decide) ?_
  refine st_iushr (pc' := 15) rfl rfl ?_
  refine st_iload (pc' := 16) rfl rfl rfl ?_
  refine st_iand (pc' := 17) rfl rfl ?_
  refine st_istore (pc' := 19) (ls' := [.ref r0, .int x1, .int x2, .int ((Int32.ofNat n1) - (1 : Int32)), .int ((((x1 * (-1640531535 : Int32)).toUInt32 >>> ((8 : Int32).toUInt32 &&& Int32.toUInt32 31)).toInt32) &&& ((Int32.ofNat n1) - (1 : Int32))), v5]) rfl rfl (Nat.le_of_ble_eq_true rfl) rfl ?_
  refine st_ipush (pc' := 20) (v := 0) rfl rfl (by decide) ?_
  refine st_istore (pc' := 22) (ls' := [.ref r0, .int x1, .int x2, .int ((Int32.ofNat n1) - (1 : Int32)), .int ((((x1 * (-1640531535 : Int32)).toUInt32 >>> ((8 : Int32).toUInt32 &&& Int32.toUInt32 31)).toInt32) &&& ((Int32.ofNat n1) - (1 : Int32))), .int 0]) rfl rfl (Nat.le_of_ble_eq_true rfl) rfl ?_
  exact k
theorem B_Ce_stateOf_22 {d : Nat} {h : PH} {Q : PQ} {r0 : Nat} {x1 : Int32} {x2 : Int32} {x3 : Int32} {x4 : Int32} {x5 : Int32}  (kt : x3 < x5 → wpx d P_Ce_stateOf 80 [.ref r0, .int x1, .int x2, .int x3, .int x4, .int x5] [] h Q) (kf : ¬ (x3 < x5) → wpx d P_Ce_stateOf 28 [.ref r0, .int x1, .int x2, .int x3, .int x4, .int x5] [] h Q) : wpx d P_Ce_stateOf 22 [.ref r0, .int x1, .int x2, .int x3, .int x4, .int x5] [] h Q := by
  refine st_iload (pc' := 24) rfl rfl rfl ?_
  refine st_iload (pc' := 25) rfl rfl rfl ?_
  exact st_icmp_gt (pc' := 28) rfl rfl kt kf
theorem B_Ce_stateOf_28 {d : Nat} {h : PH} {Q : PQ} {r0 : Nat} {x1 : Int32} {x2 : Int32} {x3 : Int32} {x4 : Int32} {x5 : Int32} {a0 : Nat} {n1 : Nat} (hs0 : h_sh h r0 = some (0, 1)) (hr1 : h_r h r0 5 = some a0) (hs2 : h_sh h a0 = some (1, n1)) (hb3 : vp_in x4 n1) (kt : (h_i h a0 x4.toNatClampNeg) = 0 → wpx d P_Ce_stateOf 80 [.ref r0, .int x1, .int x2, .int x3, .int x4, .int x5] [] h Q) (kf : ¬ ((h_i h a0 x4.toNatClampNeg) = 0) → wpx d P_Ce_stateOf 38 [.ref r0, .int x1, .int x2, .int x3, .int x4, .int x5] [] h Q) : wpx d P_Ce_stateOf 28 [.ref r0, .int x1, .int x2, .int x3, .int x4, .int x5] [] h Q := by
  refine st_aload (pc' := 29) rfl rfl rfl ?_
  refine st_getfr (x := some a0) (Or.inl rfl) rfl hs0 rfl hr1 (pc' := 32) rfl ?_
  refine st_iload (pc' := 34) rfl rfl rfl ?_
  refine st_iaload rfl hs2 hb3 (j := x4.toNatClampNeg) rfl (pc' := 35) rfl ?_
  exact st_if_eq (pc' := 38) rfl rfl kt kf
theorem B_Ce_stateOf_38 {d : Nat} {h : PH} {Q : PQ} {r0 : Nat} {x1 : Int32} {x2 : Int32} {x3 : Int32} {x4 : Int32} {x5 : Int32} {a0 : Nat} {a1 : Nat} {n2 : Nat} {n3 : Nat} (hs0 : h_sh h r0 = some (0, 1)) (hr1 : h_r h r0 0 = some a0) (hr2 : h_r h r0 5 = some a1) (hs3 : h_sh h a1 = some (1, n2)) (hb4 : vp_in x4 n2) (hs5 : h_sh h a0 = some (1, n3)) (hb6 : vp_in ((h_i h a1 x4.toNatClampNeg) - (1 : Int32)) n3) (kt : ¬ ((h_i h a0 ((h_i h a1 x4.toNatClampNeg) - (1 : Int32)).toNatClampNeg) = x1) → wpx d P_Ce_stateOf 66 [.ref r0, .int x1, .int x2, .int x3, .int x4, .int x5] [] h Q) (kf : (h_i h a0 ((h_i h a1 x4.toNatClampNeg) - (1 : Int32)).toNatClampNeg) = x1 → wpx d P_Ce_stateOf 56 [.ref r0, .int x1, .int x2, .int x3, .int x4, .int x5] [] h Q) : wpx d P_Ce_stateOf 38 [.ref r0, .int x1, .int x2, .int x3, .int x4, .int x5] [] h Q := by
  refine st_aload (pc' := 39) rfl rfl rfl ?_
  refine st_getfr (x := some a0) (Or.inl rfl) rfl hs0 rfl hr1 (pc' := 42) rfl ?_
  refine st_aload (pc' := 43) rfl rfl rfl ?_
  refine st_getfr (x := some a1) (Or.inl rfl) rfl hs0 rfl hr2 (pc' := 46) rfl ?_
  refine st_iload (pc' := 48) rfl rfl rfl ?_
  refine st_iaload rfl hs3 hb4 (j := x4.toNatClampNeg) rfl (pc' := 49) rfl ?_
  refine st_ipush (pc' := 50) (v := 1) rfl rfl (by decide) ?_
  refine st_isub (pc' := 51) rfl rfl ?_
  refine st_iaload rfl hs5 hb6 (j := ((h_i h a1 x4.toNatClampNeg) - (1 : Int32)).toNatClampNeg) rfl (pc' := 52) rfl ?_
  refine st_iload (pc' := 53) rfl rfl rfl ?_
  exact st_icmp_ne (pc' := 56) rfl rfl kt kf
theorem B_Ce_stateOf_56 {d : Nat} {h : PH} {Q : PQ} {r0 : Nat} {x1 : Int32} {x2 : Int32} {x3 : Int32} {x4 : Int32} {x5 : Int32} {a0 : Nat} {n1 : Nat} (hs0 : h_sh h r0 = some (0, 1)) (hr1 : h_r h r0 5 = some a0) (hs2 : h_sh h a0 = some (1, n1)) (hb3 : vp_in x4 n1) (k : Q (some (.int ((h_i h a0 x4.toNatClampNeg) - (1 : Int32)))) h) : wpx d P_Ce_stateOf 56 [.ref r0, .int x1, .int x2, .int x3, .int x4, .int x5] [] h Q := by
  refine st_aload (pc' := 57) rfl rfl rfl ?_
  refine st_getfr (x := some a0) (Or.inl rfl) rfl hs0 rfl hr1 (pc' := 60) rfl ?_
  refine st_iload (pc' := 62) rfl rfl rfl ?_
  refine st_iaload rfl hs2 hb3 (j := x4.toNatClampNeg) rfl (pc' := 63) rfl ?_
  refine st_ipush (pc' := 64) (v := 1) rfl rfl (by decide) ?_
  refine st_isub (pc' := 65) rfl rfl ?_
  exact st_ireturn (ty := .int) rfl rfl rfl k
theorem B_Ce_stateOf_66 {d : Nat} {h : PH} {Q : PQ} {r0 : Nat} {x1 : Int32} {x2 : Int32} {x3 : Int32} {x4 : Int32} {x5 : Int32}  (k : wpx d P_Ce_stateOf 22 [.ref r0, .int x1, .int x2, .int x3, .int ((x4 + (1 : Int32)) &&& x3), .int (x5 + 1)] [] h Q) : wpx d P_Ce_stateOf 66 [.ref r0, .int x1, .int x2, .int x3, .int x4, .int x5] [] h Q := by
  refine st_iload (pc' := 68) rfl rfl rfl ?_
  refine st_ipush (pc' := 69) (v := 1) rfl rfl (by decide) ?_
  refine st_iadd (pc' := 70) rfl rfl ?_
  refine st_iload (pc' := 71) rfl rfl rfl ?_
  refine st_iand (pc' := 72) rfl rfl ?_
  refine st_istore (pc' := 74) (ls' := [.ref r0, .int x1, .int x2, .int x3, .int ((x4 + (1 : Int32)) &&& x3), .int x5]) rfl rfl (Nat.le_of_ble_eq_true rfl) rfl ?_
  refine st_iinc (pc' := 77) (v := 1) (ls' := [.ref r0, .int x1, .int x2, .int x3, .int ((x4 + (1 : Int32)) &&& x3), .int (x5 + 1)]) rfl rfl rfl (by decide) rfl ?_
  exact st_goto rfl k
theorem B_Ce_stateOf_80 {d : Nat} {h : PH} {Q : PQ} {r0 : Nat} {x1 : Int32} {x2 : Int32} {x3 : Int32} {x4 : Int32} {x5 : Int32} {a0 : Nat} {n1 : Nat} (hs0 : h_sh h r0 = some (0, 1)) (hr1 : h_r h r0 0 = some a0) (hs2 : h_sh h a0 = some (1, n1)) (kt : (h_i h r0 4) < (Int32.ofNat n1) → wpx d P_Ce_stateOf 96 [.ref r0, .int x1, .int x2, .int x3, .int x4, .int x5] [] h Q) (kf : ¬ ((h_i h r0 4) < (Int32.ofNat n1)) → wpx d P_Ce_stateOf 92 [.ref r0, .int x1, .int x2, .int x3, .int x4, .int x5] [] h Q) : wpx d P_Ce_stateOf 80 [.ref r0, .int x1, .int x2, .int x3, .int x4, .int x5] [] h Q := by
  refine st_aload (pc' := 81) rfl rfl rfl ?_
  refine st_getfi (Or.inl rfl) rfl hs0 rfl (pc' := 84) rfl ?_
  refine st_aload (pc' := 85) rfl rfl rfl ?_
  refine st_getfr (x := some a0) (Or.inl rfl) rfl hs0 rfl hr1 (pc' := 88) rfl ?_
  refine st_alen rfl hs2 (by decide) (pc' := 89) rfl ?_
  exact st_icmp_lt (pc' := 92) rfl rfl kt kf
theorem B_Ce_stateOf_92 {d : Nat} {h : PH} {Q : PQ} {r0 : Nat} {x1 : Int32} {x2 : Int32} {x3 : Int32} {x4 : Int32} {x5 : Int32} (hs0 : h_sh h r0 = some (0, 1)) (k : wpm d 18 [.ref r0] h (fun r h' => wpx d P_Ce_stateOf 96 [.ref r0, .int x1, .int x2, .int x3, .int x4, .int x5] (r.toList ++ []) h' Q)) : wpx d P_Ce_stateOf 92 [.ref r0, .int x1, .int x2, .int x3, .int x4, .int x5] [] h Q := by
  refine st_aload (pc' := 93) rfl rfl rfl ?_
  exact st_call (pc' := 96) (as := [.ref r0]) (rest := []) rfl rfl (Nat.le_of_ble_eq_true rfl) rfl rfl (Nat.le_of_ble_eq_true rfl) (kd := 1) (o := 1) rfl rfl (beq_iff_eq.mpr hs0) k
theorem B_Ce_stateOf_96 {d : Nat} {h : PH} {Q : PQ} {r0 : Nat} {x1 : Int32} {x2 : Int32} {x3 : Int32} {x4 : Int32} {x5 : Int32} {a0 : Nat} {n1 : Nat} {a2 : Nat} {n3 : Nat} (hs0 : h_sh h r0 = some (0, 1)) (hr1 : h_r h r0 0 = some a0) (hs2 : h_sh h a0 = some (1, n1)) (hb3 : vp_in (h_i h r0 4) n1) (hr4 : h_r h r0 1 = some a2) (hs5 : h_sh h a2 = some (1, n3)) (hb6 : vp_in (h_i (w_i h a0 ((h_i h r0 4).toNatClampNeg) x1) r0 4) n3) (k : wpx d P_Ce_stateOf 126 [.ref r0, .int x1, .int x2, .int x3, .int x4, .int x5] [] (w_i (w_i (w_i h a0 ((h_i h r0 4).toNatClampNeg) x1) a2 ((h_i (w_i h a0 ((h_i h r0 4).toNatClampNeg) x1) r0 4).toNatClampNeg) x2) r0 4 ((h_i (w_i (w_i h a0 ((h_i h r0 4).toNatClampNeg) x1) a2 ((h_i (w_i h a0 ((h_i h r0 4).toNatClampNeg) x1) r0 4).toNatClampNeg) x2) r0 4) + (1 : Int32))) Q) : wpx d P_Ce_stateOf 96 [.ref r0, .int x1, .int x2, .int x3, .int x4, .int x5] [] h Q := by
  refine st_aload (pc' := 97) rfl rfl rfl ?_
  refine st_getfr (x := some a0) (Or.inl rfl) rfl hs0 rfl hr1 (pc' := 100) rfl ?_
  refine st_aload (pc' := 101) rfl rfl rfl ?_
  refine st_getfi (Or.inl rfl) rfl hs0 rfl (pc' := 104) rfl ?_
  refine st_iload (pc' := 105) rfl rfl rfl ?_
  refine st_iastore rfl hs2 hb3 (j := (h_i h r0 4).toNatClampNeg) rfl (pc' := 106) rfl ?_
  refine st_aload (pc' := 107) rfl rfl rfl ?_
  refine st_getfr (x := some a2) (Or.inl rfl) rfl hs0 rfl hr4 (pc' := 110) rfl ?_
  refine st_aload (pc' := 111) rfl rfl rfl ?_
  refine st_getfi (Or.inl rfl) rfl hs0 rfl (pc' := 114) rfl ?_
  refine st_iload (pc' := 115) rfl rfl rfl ?_
  refine st_iastore rfl hs5 hb6 (j := (h_i (w_i h a0 ((h_i h r0 4).toNatClampNeg) x1) r0 4).toNatClampNeg) rfl (pc' := 116) rfl ?_
  refine st_aload (pc' := 117) rfl rfl rfl ?_
  refine st_dup (pc' := 118) rfl rfl rfl ?_
  refine st_getfi (Or.inl rfl) rfl hs0 rfl (pc' := 121) rfl ?_
  refine st_ipush (pc' := 122) (v := 1) rfl rfl (by decide) ?_
  refine st_iadd (pc' := 123) rfl rfl ?_
  refine st_putf (h' := w_i (w_i (w_i h a0 ((h_i h r0 4).toNatClampNeg) x1) a2 ((h_i (w_i h a0 ((h_i h r0 4).toNatClampNeg) x1) r0 4).toNatClampNeg) x2) r0 4 ((h_i (w_i (w_i h a0 ((h_i h r0 4).toNatClampNeg) x1) a2 ((h_i (w_i h a0 ((h_i h r0 4).toNatClampNeg) x1) r0 4).toNatClampNeg) x2) r0 4) + (1 : Int32))) (Or.inl rfl) rfl hs0 rfl rfl rfl (pc' := 126) rfl ?_
  exact k
theorem B_Ce_stateOf_153 {d : Nat} {h : PH} {Q : PQ} {r0 : Nat} {x1 : Int32} {x2 : Int32} {x3 : Int32} {x4 : Int32} {x5 : Int32} (hs0 : h_sh h r0 = some (0, 1)) (k : wpm d 19 [.ref r0] h (fun r h' => wpx d P_Ce_stateOf 157 [.ref r0, .int x1, .int x2, .int x3, .int x4, .int x5] (r.toList ++ []) h' Q)) : wpx d P_Ce_stateOf 153 [.ref r0, .int x1, .int x2, .int x3, .int x4, .int x5] [] h Q := by
  refine st_aload (pc' := 154) rfl rfl rfl ?_
  exact st_call (pc' := 157) (as := [.ref r0]) (rest := []) rfl rfl (Nat.le_of_ble_eq_true rfl) rfl rfl (Nat.le_of_ble_eq_true rfl) (kd := 1) (o := 1) rfl rfl (beq_iff_eq.mpr hs0) k
theorem B_Ce_stateOf_157 {d : Nat} {h : PH} {Q : PQ} {r0 : Nat} {x1 : Int32} {x2 : Int32} {x3 : Int32} {x4 : Int32} {x5 : Int32} (hs0 : h_sh h r0 = some (0, 1)) (k : Q (some (.int ((h_i h r0 4) - (1 : Int32)))) h) : wpx d P_Ce_stateOf 157 [.ref r0, .int x1, .int x2, .int x3, .int x4, .int x5] [] h Q := by
  refine st_aload (pc' := 158) rfl rfl rfl ?_
  refine st_getfi (Or.inl rfl) rfl hs0 rfl (pc' := 161) rfl ?_
  refine st_ipush (pc' := 162) (v := 1) rfl rfl (by decide) ?_
  refine st_isub (pc' := 163) rfl rfl ?_
  exact st_ireturn (ty := .int) rfl rfl rfl k
theorem B_Ce_stateOf_126 {d : Nat} {h : PH} {Q : PQ} {r0 : Nat} {x1 : Int32} {x2 : Int32} {x3 : Int32} {x4 : Int32} {x5 : Int32} {a0 : Nat} {n1 : Nat} (hs0 : h_sh h r0 = some (0, 1)) (hr1 : h_r h r0 5 = some a0) (hs2 : h_sh h a0 = some (1, n1)) (hb3 : vp_in x4 n1) (kt : ((4 : Int32) * (h_i (w_i h a0 x4.toNatClampNeg (h_i h r0 4)) r0 4)) ≤ ((3 : Int32) * (Int32.ofNat n1)) → wpx d P_Ce_stateOf 157 [.ref r0, .int x1, .int x2, .int x3, .int x4, .int x5] [] (w_i h a0 x4.toNatClampNeg (h_i h r0 4)) Q) (kf : ¬ (((4 : Int32) * (h_i (w_i h a0 x4.toNatClampNeg (h_i h r0 4)) r0 4)) ≤ ((3 : Int32) * (Int32.ofNat n1))) → wpx d P_Ce_stateOf 153 [.ref r0, .int x1, .int x2, .int x3, .int x4, .int x5] [] (w_i h a0 x4.toNatClampNeg (h_i h r0 4)) Q) : wpx d P_Ce_stateOf 126 [.ref r0, .int x1, .int x2, .int x3, .int x4, .int x5] [] h Q := by
  refine st_aload (pc' := 127) rfl rfl rfl ?_
  refine st_getfr (x := some a0) (Or.inl rfl) rfl hs0 rfl hr1 (pc' := 130) rfl ?_
  refine st_iload (pc' := 132) rfl rfl rfl ?_
  refine st_aload (pc' := 133) rfl rfl rfl ?_
  refine st_getfi (Or.inl rfl) rfl hs0 rfl (pc' := 136) rfl ?_
  refine st_iastore rfl hs2 hb3 (j := x4.toNatClampNeg) rfl (pc' := 137) rfl ?_
  refine st_ipush (pc' := 138) (v := 4) rfl rfl (by decide) ?_
  refine st_aload (pc' := 139) rfl rfl rfl ?_
  refine st_getfi (Or.inl rfl) rfl hs0 rfl (pc' := 142) rfl ?_
  refine st_imul (pc' := 143) rfl rfl ?_
  refine st_ipush (pc' := 144) (v := 3) rfl rfl (by decide) ?_
  refine st_aload (pc' := 145) rfl rfl rfl ?_
  refine st_getfr (x := some a0) (Or.inl rfl) rfl hs0 rfl hr1 (pc' := 148) rfl ?_
  refine st_alen rfl hs2 (by decide) (pc' := 149) rfl ?_
  refine st_imul (pc' := 150) rfl rfl ?_
  exact st_icmp_le (pc' := 153) rfl rfl kt kf
theorem B_Ce_growStates_0 {d : Nat} {h : PH} {Q : PQ} {r0 : Nat} {v1 : Value} {a0 : Nat} {n1 : Nat} (hs0 : h_sh h r0 = some (0, 1)) (hr1 : h_r h r0 0 = some a0) (hs2 : h_sh h a0 = some (1, n1)) (k : wpm d 285 [.ref a0, .int ((2 : Int32) * (Int32.ofNat n1))] h (fun r h' => wpx d P_Ce_growStates 17 [.ref r0, .int ((2 : Int32) * (Int32.ofNat n1))] (r.toList ++ [.ref r0]) h' Q)) : wpx d P_Ce_growStates 0 [.ref r0, v1] [] h Q := by
  refine st_ipush (pc' := 1) (v := 2) rfl rfl (by decide) ?_
  refine st_aload (pc' := 2) rfl rfl rfl ?_
  refine st_getfr (x := some a0) (Or.inl rfl) rfl hs0 rfl hr1 (pc' := 5) rfl ?_
  refine st_alen rfl hs2 (by decide) (pc' := 6) rfl ?_
  refine st_imul (pc' := 7) rfl rfl ?_
  refine st_istore (pc' := 8) (ls' := [.ref r0, .int ((2 : Int32) * (Int32.ofNat n1))]) rfl rfl (Nat.le_of_ble_eq_true rfl) rfl ?_
  refine st_aload (pc' := 9) rfl rfl rfl ?_
  refine st_aload (pc' := 10) rfl rfl rfl ?_
  refine st_getfr (x := some a0) (Or.inl rfl) rfl hs0 rfl hr1 (pc' := 13) rfl ?_
  refine st_iload (pc' := 14) rfl rfl rfl ?_
  exact st_call (pc' := 17) (as := [.ref a0, .int ((2 : Int32) * (Int32.ofNat n1))]) (rest := [.ref r0]) rfl rfl (Nat.le_of_ble_eq_true rfl) rfl rfl (Nat.le_of_ble_eq_true rfl) (kd := 0) (o := 16) rfl rfl rfl k
theorem B_Ce_growStates_17 {d : Nat} {h : PH} {Q : PQ} {r0 : Nat} {x1 : Int32} {q0 : Nat} {q1 : Nat} {a0 : Nat} (hs0 : h_sh h q0 = some (0, 1)) (hs1 : h_sh h r0 = some (0, 1)) (hr2 : h_r (w_r h q0 0 (some q1)) r0 1 = some a0) (k : wpm d 285 [.ref a0, .int x1] (w_r h q0 0 (some q1)) (fun r h' => wpx d P_Ce_growStates 29 [.ref r0, .int x1] (r.toList ++ [.ref r0]) h' Q)) : wpx d P_Ce_growStates 17 [.ref r0, .int x1] [.ref q1, .ref q0] h Q := by
  refine st_putf (h' := w_r h q0 0 (some q1)) (Or.inl rfl) rfl hs0 rfl rfl rfl (pc' := 20) rfl ?_
  refine st_aload (pc' := 21) rfl rfl rfl ?_
  refine st_aload (pc' := 22) rfl rfl rfl ?_
  refine st_getfr (x := some a0) (Or.inl rfl) rfl hs1 rfl hr2 (pc' := 25) rfl ?_
  refine st_iload (pc' := 26) rfl rfl rfl ?_
  exact st_call (pc' := 29) (as := [.ref a0, .int x1]) (rest := [.ref r0]) rfl rfl (Nat.le_of_ble_eq_true rfl) rfl rfl (Nat.le_of_ble_eq_true rfl) (kd := 0) (o := 16) rfl rfl rfl k
theorem B_Ce_growStates_29 {d : Nat} {h : PH} {Q : PQ} {r0 : Nat} {x1 : Int32} {q0 : Nat} {q1 : Nat} {a0 : Nat} (hs0 : h_sh h q0 = some (0, 1)) (hs1 : h_sh h r0 = some (0, 1)) (hr2 : h_r (w_r h q0 1 (some q1)) r0 6 = some a0) (k : wpm d 285 [.ref a0, .int (x1 + (1 : Int32))] (w_r h q0 1 (some q1)) (fun r h' => wpx d P_Ce_growStates 43 [.ref r0, .int x1] (r.toList ++ [.ref r0]) h' Q)) : wpx d P_Ce_growStates 29 [.ref r0, .int x1] [.ref q1, .ref q0] h Q := by
  refine st_putf (h' := w_r h q0 1 (some q1)) (Or.inl rfl) rfl hs0 rfl rfl rfl (pc' := 32) rfl ?_
  refine st_aload (pc' := 33) rfl rfl rfl ?_
  refine st_aload (pc' := 34) rfl rfl rfl ?_
  refine st_getfr (x := some a0) (Or.inl rfl) rfl hs1 rfl hr2 (pc' := 37) rfl ?_
  refine st_iload (pc' := 38) rfl rfl rfl ?_
  refine st_ipush (pc' := 39) (v := 1) rfl rfl (by decide) ?_
  refine st_iadd (pc' := 40) rfl rfl ?_
  exact st_call (pc' := 43) (as := [.ref a0, .int (x1 + (1 : Int32))]) (rest := [.ref r0]) rfl rfl (Nat.le_of_ble_eq_true rfl) rfl rfl (Nat.le_of_ble_eq_true rfl) (kd := 0) (o := 16) rfl rfl rfl k
theorem B_Ce_growStates_43 {d : Nat} {h : PH} {Q : PQ} {r0 : Nat} {x1 : Int32} {q0 : Nat} {q1 : Nat} (hs0 : h_sh h q0 = some (0, 1)) (hz1 : ¬ ((x1 * (11 : Int32)) < 0 ∨ 60000000 < (x1 * (11 : Int32)).toNatClampNeg)) (hs2 : h_sh (h_new (w_r h q0 6 (some q1)) (4, (x1 * (11 : Int32)).toNatClampNeg) ((x1 * (11 : Int32)).toNatClampNeg)) r0 = some (0, 1)) (hs3 : h_sh (h_new (w_r (h_new (w_r h q0 6 (some q1)) (4, (x1 * (11 : Int32)).toNatClampNeg) ((x1 * (11 : Int32)).toNatClampNeg)) r0 2 (some (h_ct (w_r h q0 6 (some q1))))) (4, (x1 * (11 : Int32)).toNatClampNeg) ((x1 * (11 : Int32)).toNatClampNeg)) r0 = some (0, 1)) (k : wpx d P_Ce_growStates 66 [.ref r0, .int x1] [] (w_r (h_new (w_r (h_new (w_r h q0 6 (some q1)) (4, (x1 * (11 : Int32)).toNatClampNeg) ((x1 * (11 : Int32)).toNatClampNeg)) r0 2 (some (h_ct (w_r h q0 6 (some q1))))) (4, (x1 * (11 : Int32)).toNatClampNeg) ((x1 * (11 : Int32)).toNatClampNeg)) r0 3 (some (h_ct (w_r (h_new (w_r h q0 6 (some q1)) (4, (x1 * (11 : Int32)).toNatClampNeg) ((x1 * (11 : Int32)).toNatClampNeg)) r0 2 (some (h_ct (w_r h q0 6 (some q1)))))))) Q) : wpx d P_Ce_growStates 43 [.ref r0, .int x1] [.ref q1, .ref q0] h Q := by
  refine st_putf (h' := w_r h q0 6 (some q1)) (Or.inl rfl) rfl hs0 rfl rfl rfl (pc' := 46) rfl ?_
  refine st_aload (pc' := 47) rfl rfl rfl ?_
  refine st_iload (pc' := 48) rfl rfl rfl ?_
  refine st_ipush (pc' := 50) (v := 11) rfl rfl (by decide) ?_
  refine st_imul (pc' := 51) rfl rfl ?_
  refine st_newL rfl hz1 (j := (x1 * (11 : Int32)).toNatClampNeg) rfl (pc' := 53) rfl ?_
  refine st_putf (h' := w_r (h_new (w_r h q0 6 (some q1)) (4, (x1 * (11 : Int32)).toNatClampNeg) ((x1 * (11 : Int32)).toNatClampNeg)) r0 2 (some (h_ct (w_r h q0 6 (some q1))))) (Or.inl rfl) rfl hs2 rfl rfl rfl (pc' := 56) rfl ?_
  refine st_aload (pc' := 57) rfl rfl rfl ?_
  refine st_iload (pc' := 58) rfl rfl rfl ?_
  refine st_ipush (pc' := 60) (v := 11) rfl rfl (by decide) ?_
  refine st_imul (pc' := 61) rfl rfl ?_
  refine st_newL rfl hz1 (j := (x1 * (11 : Int32)).toNatClampNeg) rfl (pc' := 63) rfl ?_
  refine st_putf (h' := w_r (h_new (w_r (h_new (w_r h q0 6 (some q1)) (4, (x1 * (11 : Int32)).toNatClampNeg) ((x1 * (11 : Int32)).toNatClampNeg)) r0 2 (some (h_ct (w_r h q0 6 (some q1))))) (4, (x1 * (11 : Int32)).toNatClampNeg) ((x1 * (11 : Int32)).toNatClampNeg)) r0 3 (some (h_ct (w_r (h_new (w_r h q0 6 (some q1)) (4, (x1 * (11 : Int32)).toNatClampNeg) ((x1 * (11 : Int32)).toNatClampNeg)) r0 2 (some (h_ct (w_r h q0 6 (some q1)))))))) (Or.inl rfl) rfl hs3 rfl rfl rfl (pc' := 66) rfl ?_
  exact k
theorem B_Ce_growStates_66 {d : Nat} {h : PH} {Q : PQ} {r0 : Nat} {x1 : Int32}  (k : Q none h) : wpx d P_Ce_growStates 66 [.ref r0, .int x1] [] h Q := by
  exact st_return rfl k
theorem B_Ce_growSlots_0 {d : Nat} {h : PH} {Q : PQ} {r0 : Nat} {v1 : Value} {v2 : Value} {v3 : Value} {v4 : Value} {a0 : Nat} {n1 : Nat} {a2 : Nat} {n3 : Nat} (hs0 : h_sh h r0 = some (0, 1)) (hr1 : h_r h r0 5 = some a0) (hs2 : h_sh h a0 = some (1, n1)) (hz3 : ¬ (((2 : Int32) * (Int32.ofNat n1)) < 0 ∨ 60000000 < ((2 : Int32) * (Int32.ofNat n1)).toNatClampNeg)) (hs4 : h_sh (h_new h (1, ((2 : Int32) * (Int32.ofNat n1)).toNatClampNeg) (((2 : Int32) * (Int32.ofNat n1)).toNatClampNeg)) r0 = some (0, 1)) (hr5 : h_r (w_r (h_new h (1, ((2 : Int32) * (Int32.ofNat n1)).toNatClampNeg) (((2 : Int32) * (Int32.ofNat n1)).toNatClampNeg)) r0 5 (some (h_ct h))) r0 5 = some a2) (hs6 : h_sh (h_new h (1, ((2 : Int32) * (Int32.ofNat n1)).toNatClampNeg) (((2 : Int32) * (Int32.ofNat n1)).toNatClampNeg)) a2 = some (1, n3)) (k : wpx d P_Ce_growSlots 23 [.ref r0, .int ((Int32.ofNat n3) - (1 : Int32)), .int 0, v3, v4] [] (w_r (h_new h (1, ((2 : Int32) * (Int32.ofNat n1)).toNatClampNeg) (((2 : Int32) * (Int32.ofNat n1)).toNatClampNeg)) r0 5 (some (h_ct h))) Q) : wpx d P_Ce_growSlots 0 [.ref r0, v1, v2, v3, v4] [] h Q := by
  refine st_aload (pc' := 1) rfl rfl rfl ?_
  refine st_ipush (pc' := 2) (v := 2) rfl rfl (by decide) ?_
  refine st_aload (pc' := 3) rfl rfl rfl ?_
  refine st_getfr (x := some a0) (Or.inl rfl) rfl hs0 rfl hr1 (pc' := 6) rfl ?_
  refine st_alen rfl hs2 (by decide) (pc' := 7) rfl ?_
  refine st_imul (pc' := 8) rfl rfl ?_
  refine st_newI rfl hz3 (j := ((2 : Int32) * (Int32.ofNat n1)).toNatClampNeg) rfl (pc' := 10) rfl ?_
  refine st_putf (h' := w_r (h_new h (1, ((2 : Int32) * (Int32.ofNat n1)).toNatClampNeg) (((2 : Int32) * (Int32.ofNat n1)).toNatClampNeg)) r0 5 (some (h_ct h))) (Or.inl rfl) rfl hs4 rfl rfl rfl (pc' := 13) rfl ?_
  refine st_aload (pc' := 14) rfl rfl rfl ?_
  refine st_getfr (x := some a2) (Or.inl rfl) rfl hs4 rfl hr5 (pc' := 17) rfl ?_
  refine st_alen rfl hs6 (by decide) (pc' := 18) rfl ?_
  refine st_ipush (pc' := 19) (v := 1) rfl rfl (by decide) ?_
  refine st_isub (pc' := 20) rfl rfl ?_
  refine st_istore (pc' := 21) (ls' := [.ref r0, .int ((Int32.ofNat n3) - (1 : Int32)), v2, v3, v4]) rfl rfl (Nat.le_of_ble_eq_true rfl) rfl ?_
  refine st_ipush (pc' := 22) (v := 0) rfl rfl (by decide) ?_
  refine st_istore (pc' := 23) (ls' := [.ref r0, .int ((Int32.ofNat n3) - (1 : Int32)), .int 0, v3, v4]) rfl rfl (Nat.le_of_ble_eq_true rfl) rfl ?_
  exact k
theorem B_Ce_growSlots_23 {d : Nat} {h : PH} {Q : PQ} {r0 : Nat} {x1 : Int32} {x2 : Int32} {v3 : Value} {v4 : Value} (hs0 : h_sh h r0 = some (0, 1)) (kt : (h_i h r0 4) ≤ x2 → wpx d P_Ce_growSlots 91 [.ref r0, .int x1, .int x2, v3, v4] [] h Q) (kf : ¬ ((h_i h r0 4) ≤ x2) → wpx d P_Ce_growSlots 31 [.ref r0, .int x1, .int x2, v3, v4] [] h Q) : wpx d P_Ce_growSlots 23 [.ref r0, .int x1, .int x2, v3, v4] [] h Q := by
  refine st_iload (pc' := 24) rfl rfl rfl ?_
  refine st_aload (pc' := 25) rfl rfl rfl ?_
  refine st_getfi (Or.inl rfl) rfl hs0 rfl (pc' := 28) rfl ?_
  exact st_icmp_ge (pc' := 31) rfl rfl kt kf
theorem B_Ce_growSlots_31 {d : Nat} {h : PH} {Q : PQ} {r0 : Nat} {x1 : Int32} {x2 : Int32} {v3 : Value} {v4 : Value} {a0 : Nat} {n1 : Nat} (hs0 : h_sh h r0 = some (0, 1)) (hr1 : h_r h r0 0 = some a0) (hs2 : h_sh h a0 = some (1, n1)) (hb3 : vp_in x2 n1) (k : wpx d P_Ce_growSlots 49 [.ref r0, .int x1, .int x2, .int (((((h_i h a0 x2.toNatClampNeg) * (-1640531535 : Int32)).toUInt32 >>> ((8 : Int32).toUInt32 &&& Int32.toUInt32 31)).toInt32) &&& x1), .int 0] [] h Q) : wpx d P_Ce_growSlots 31 [.ref r0, .int x1, .int x2, v3, v4] [] h Q := by
  refine st_aload (pc' := 32) rfl rfl rfl ?_
  refine st_getfr (x := some a0) (Or.inl rfl) rfl hs0 rfl hr1 (pc' := 35) rfl ?_
  refine st_iload (pc' := 36) rfl rfl rfl ?_
  refine st_iaload rfl hs2 hb3 (j := x2.toNatClampNeg) rfl (pc' := 37) rfl ?_
  refine st_ldc (pc' := 39) (v := (-1640531535)) rfl rfl (by decide) ?_
  refine st_imul (pc' := 40) rfl rfl ?_
  refine st_ipush (pc' := 42) (v := 8) rfl rfl (by decide) ?_
  refine st_iushr (pc' := 43) rfl rfl ?_
  refine st_iload (pc' := 44) rfl rfl rfl ?_
  refine st_iand (pc' := 45) rfl rfl ?_
  refine st_istore (pc' := 46) (ls' := [.ref r0, .int x1, .int x2, .int (((((h_i h a0 x2.toNatClampNeg) * (-1640531535 : Int32)).toUInt32 >>> ((8 : Int32).toUInt32 &&& Int32.toUInt32 31)).toInt32) &&& x1), v4]) rfl rfl (Nat.le_of_ble_eq_true rfl) rfl ?_
  refine st_ipush (pc' := 47) (v := 0) rfl rfl (by decide) ?_
  refine st_istore (pc' := 49) (ls' := [.ref r0, .int x1, .int x2, .int (((((h_i h a0 x2.toNatClampNeg) * (-1640531535 : Int32)).toUInt32 >>> ((8 : Int32).toUInt32 &&& Int32.toUInt32 31)).toInt32) &&& x1), .int 0]) rfl rfl (Nat.le_of_ble_eq_true rfl) rfl ?_
  exact k
theorem B_Ce_growSlots_49 {d : Nat} {h : PH} {Q : PQ} {r0 : Nat} {x1 : Int32} {x2 : Int32} {x3 : Int32} {x4 : Int32}  (kt : x1 < x4 → wpx d P_Ce_growSlots 76 [.ref r0, .int x1, .int x2, .int x3, .int x4] [] h Q) (kf : ¬ (x1 < x4) → wpx d P_Ce_growSlots 55 [.ref r0, .int x1, .int x2, .int x3, .int x4] [] h Q) : wpx d P_Ce_growSlots 49 [.ref r0, .int x1, .int x2, .int x3, .int x4] [] h Q := by
  refine st_iload (pc' := 51) rfl rfl rfl ?_
  refine st_iload (pc' := 52) rfl rfl rfl ?_
  exact st_icmp_gt (pc' := 55) rfl rfl kt kf
theorem B_Ce_growSlots_55 {d : Nat} {h : PH} {Q : PQ} {r0 : Nat} {x1 : Int32} {x2 : Int32} {x3 : Int32} {x4 : Int32} {a0 : Nat} {n1 : Nat} (hs0 : h_sh h r0 = some (0, 1)) (hr1 : h_r h r0 5 = some a0) (hs2 : h_sh h a0 = some (1, n1)) (hb3 : vp_in x3 n1) (kt : (h_i h a0 x3.toNatClampNeg) = 0 → wpx d P_Ce_growSlots 76 [.ref r0, .int x1, .int x2, .int x3, .int x4] [] h Q) (kf : ¬ ((h_i h a0 x3.toNatClampNeg) = 0) → wpx d P_Ce_growSlots 64 [.ref r0, .int x1, .int x2, .int x3, .int x4] [] h Q) : wpx d P_Ce_growSlots 55 [.ref r0, .int x1, .int x2, .int x3, .int x4] [] h Q := by
  refine st_aload (pc' := 56) rfl rfl rfl ?_
  refine st_getfr (x := some a0) (Or.inl rfl) rfl hs0 rfl hr1 (pc' := 59) rfl ?_
  refine st_iload (pc' := 60) rfl rfl rfl ?_
  refine st_iaload rfl hs2 hb3 (j := x3.toNatClampNeg) rfl (pc' := 61) rfl ?_
  exact st_if_eq (pc' := 64) rfl rfl kt kf
theorem B_Ce_growSlots_64 {d : Nat} {h : PH} {Q : PQ} {r0 : Nat} {x1 : Int32} {x2 : Int32} {x3 : Int32} {x4 : Int32}  (k : wpx d P_Ce_growSlots 49 [.ref r0, .int x1, .int x2, .int ((x3 + (1 : Int32)) &&& x1), .int (x4 + 1)] [] h Q) : wpx d P_Ce_growSlots 64 [.ref r0, .int x1, .int x2, .int x3, .int x4] [] h Q := by
  refine st_iload (pc' := 65) rfl rfl rfl ?_
  refine st_ipush (pc' := 66) (v := 1) rfl rfl (by decide) ?_
  refine st_iadd (pc' := 67) rfl rfl ?_
  refine st_iload (pc' := 68) rfl rfl rfl ?_
  refine st_iand (pc' := 69) rfl rfl ?_
  refine st_istore (pc' := 70) (ls' := [.ref r0, .int x1, .int x2, .int ((x3 + (1 : Int32)) &&& x1), .int x4]) rfl rfl (Nat.le_of_ble_eq_true rfl) rfl ?_
  refine st_iinc (pc' := 73) (v := 1) (ls' := [.ref r0, .int x1, .int x2, .int ((x3 + (1 : Int32)) &&& x1), .int (x4 + 1)]) rfl rfl rfl (by decide) rfl ?_
  exact st_goto rfl k
theorem B_Ce_growSlots_76 {d : Nat} {h : PH} {Q : PQ} {r0 : Nat} {x1 : Int32} {x2 : Int32} {x3 : Int32} {x4 : Int32} {a0 : Nat} {n1 : Nat} (hs0 : h_sh h r0 = some (0, 1)) (hr1 : h_r h r0 5 = some a0) (hs2 : h_sh h a0 = some (1, n1)) (hb3 : vp_in x3 n1) (k : wpx d P_Ce_growSlots 23 [.ref r0, .int x1, .int (x2 + 1), .int x3, .int x4] [] (w_i h a0 x3.toNatClampNeg (x2 + (1 : Int32))) Q) : wpx d P_Ce_growSlots 76 [.ref r0, .int x1, .int x2, .int x3, .int x4] [] h Q := by
  refine st_aload (pc' := 77) rfl rfl rfl ?_
  refine st_getfr (x := some a0) (Or.inl rfl) rfl hs0 rfl hr1 (pc' := 80) rfl ?_
  refine st_iload (pc' := 81) rfl rfl rfl ?_
  refine st_iload (pc' := 82) rfl rfl rfl ?_
  refine st_ipush (pc' := 83) (v := 1) rfl rfl (by decide) ?_
  refine st_iadd (pc' := 84) rfl rfl ?_
  refine st_iastore rfl hs2 hb3 (j := x3.toNatClampNeg) rfl (pc' := 85) rfl ?_
  refine st_iinc (pc' := 88) (v := 1) (ls' := [.ref r0, .int x1, .int (x2 + 1), .int x3, .int x4]) rfl rfl rfl (by decide) rfl ?_
  exact st_goto rfl k
theorem B_Ce_growSlots_91 {d : Nat} {h : PH} {Q : PQ} {r0 : Nat} {x1 : Int32} {x2 : Int32} {v3 : Value} {v4 : Value}  (k : Q none h) : wpx d P_Ce_growSlots 91 [.ref r0, .int x1, .int x2, v3, v4] [] h Q := by
  exact st_return rfl k
theorem B_Ce_addEdge_0 {d : Nat} {h : PH} {Q : PQ} {r0 : Nat} {x1 : Int32} {x2 : Int32} {a0 : Nat} {n1 : Nat} (hs0 : h_sh h r0 = some (0, 1)) (hr1 : h_r h r0 8 = some a0) (hs2 : h_sh h a0 = some (1, n1)) (kt : (h_i h r0 9) < (Int32.ofNat n1) → wpx d P_Ce_addEdge 48 [.ref r0, .int x1, .int x2] [] h Q) (kf : ¬ ((h_i h r0 9) < (Int32.ofNat n1)) → wpx d P_Ce_addEdge 12 [.ref r0, .int x1, .int x2] [] h Q) : wpx d P_Ce_addEdge 0 [.ref r0, .int x1, .int x2] [] h Q := by
  refine st_aload (pc' := 1) rfl rfl rfl ?_
  refine st_getfi (Or.inl rfl) rfl hs0 rfl (pc' := 4) rfl ?_
  refine st_aload (pc' := 5) rfl rfl rfl ?_
  refine st_getfr (x := some a0) (Or.inl rfl) rfl hs0 rfl hr1 (pc' := 8) rfl ?_
  refine st_alen rfl hs2 (by decide) (pc' := 9) rfl ?_
  exact st_icmp_lt (pc' := 12) rfl rfl kt kf
theorem B_Ce_addEdge_12 {d : Nat} {h : PH} {Q : PQ} {r0 : Nat} {x1 : Int32} {x2 : Int32} {a0 : Nat} {n1 : Nat} (hs0 : h_sh h r0 = some (0, 1)) (hr1 : h_r h r0 8 = some a0) (hs2 : h_sh h a0 = some (1, n1)) (k : wpm d 285 [.ref a0, .int ((2 : Int32) * (Int32.ofNat n1))] h (fun r h' => wpx d P_Ce_addEdge 27 [.ref r0, .int x1, .int x2] (r.toList ++ [.ref r0]) h' Q)) : wpx d P_Ce_addEdge 12 [.ref r0, .int x1, .int x2] [] h Q := by
  refine st_aload (pc' := 13) rfl rfl rfl ?_
  refine st_aload (pc' := 14) rfl rfl rfl ?_
  refine st_getfr (x := some a0) (Or.inl rfl) rfl hs0 rfl hr1 (pc' := 17) rfl ?_
  refine st_ipush (pc' := 18) (v := 2) rfl rfl (by decide) ?_
  refine st_aload (pc' := 19) rfl rfl rfl ?_
  refine st_getfr (x := some a0) (Or.inl rfl) rfl hs0 rfl hr1 (pc' := 22) rfl ?_
  refine st_alen rfl hs2 (by decide) (pc' := 23) rfl ?_
  refine st_imul (pc' := 24) rfl rfl ?_
  exact st_call (pc' := 27) (as := [.ref a0, .int ((2 : Int32) * (Int32.ofNat n1))]) (rest := [.ref r0]) rfl rfl (Nat.le_of_ble_eq_true rfl) rfl rfl (Nat.le_of_ble_eq_true rfl) (kd := 0) (o := 16) rfl rfl rfl k
theorem B_Ce_addEdge_27 {d : Nat} {h : PH} {Q : PQ} {r0 : Nat} {x1 : Int32} {x2 : Int32} {q0 : Nat} {q1 : Nat} {a0 : Nat} {n1 : Nat} (hs0 : h_sh h q0 = some (0, 1)) (hs1 : h_sh h r0 = some (0, 1)) (hr2 : h_r (w_r h q0 8 (some q1)) r0 7 = some a0) (hs3 : h_sh h a0 = some (2, n1)) (k : wpm d 284 [.ref a0, .int ((2 : Int32) * (Int32.ofNat n1))] (w_r h q0 8 (some q1)) (fun r h' => wpx d P_Ce_addEdge 45 [.ref r0, .int x1, .int x2] (r.toList ++ [.ref r0]) h' Q)) : wpx d P_Ce_addEdge 27 [.ref r0, .int x1, .int x2] [.ref q1, .ref q0] h Q := by
  refine st_putf (h' := w_r h q0 8 (some q1)) (Or.inl rfl) rfl hs0 rfl rfl rfl (pc' := 30) rfl ?_
  refine st_aload (pc' := 31) rfl rfl rfl ?_
  refine st_aload (pc' := 32) rfl rfl rfl ?_
  refine st_getfr (x := some a0) (Or.inl rfl) rfl hs1 rfl hr2 (pc' := 35) rfl ?_
  refine st_ipush (pc' := 36) (v := 2) rfl rfl (by decide) ?_
  refine st_aload (pc' := 37) rfl rfl rfl ?_
  refine st_getfr (x := some a0) (Or.inl rfl) rfl hs1 rfl hr2 (pc' := 40) rfl ?_
  refine st_alen rfl hs3 (by decide) (pc' := 41) rfl ?_
  refine st_imul (pc' := 42) rfl rfl ?_
  exact st_call (pc' := 45) (as := [.ref a0, .int ((2 : Int32) * (Int32.ofNat n1))]) (rest := [.ref r0]) rfl rfl (Nat.le_of_ble_eq_true rfl) rfl rfl (Nat.le_of_ble_eq_true rfl) (kd := 0) (o := 16) rfl rfl rfl k
theorem B_Ce_addEdge_45 {d : Nat} {h : PH} {Q : PQ} {r0 : Nat} {x1 : Int32} {x2 : Int32} {q0 : Nat} {q1 : Nat} (hs0 : h_sh h q0 = some (0, 1)) (k : wpx d P_Ce_addEdge 48 [.ref r0, .int x1, .int x2] [] (w_r h q0 7 (some q1)) Q) : wpx d P_Ce_addEdge 45 [.ref r0, .int x1, .int x2] [.ref q1, .ref q0] h Q := by
  refine st_putf (h' := w_r h q0 7 (some q1)) (Or.inl rfl) rfl hs0 rfl rfl rfl (pc' := 48) rfl ?_
  exact k
theorem B_Ce_addEdge_48 {d : Nat} {h : PH} {Q : PQ} {r0 : Nat} {x1 : Int32} {x2 : Int32} {a0 : Nat} {n1 : Nat} {a2 : Nat} {n3 : Nat} (hs0 : h_sh h r0 = some (0, 1)) (hr1 : h_r h r0 7 = some a0) (hs2 : h_sh h a0 = some (2, n1)) (hb3 : vp_in (h_i h r0 9) n1) (hr4 : h_r h r0 8 = some a2) (hs5 : h_sh h a2 = some (1, n3)) (hb6 : vp_in (h_i (w_i h a0 ((h_i h r0 9).toNatClampNeg) x1.toInt8.toInt32.toInt8.toInt32) r0 9) n3) (k : wpx d P_Ce_addEdge 79 [.ref r0, .int x1, .int x2] [] (w_i (w_i (w_i h a0 ((h_i h r0 9).toNatClampNeg) x1.toInt8.toInt32.toInt8.toInt32) a2 ((h_i (w_i h a0 ((h_i h r0 9).toNatClampNeg) x1.toInt8.toInt32.toInt8.toInt32) r0 9).toNatClampNeg) x2) r0 9 ((h_i (w_i (w_i h a0 ((h_i h r0 9).toNatClampNeg) x1.toInt8.toInt32.toInt8.toInt32) a2 ((h_i (w_i h a0 ((h_i h r0 9).toNatClampNeg) x1.toInt8.toInt32.toInt8.toInt32) r0 9).toNatClampNeg) x2) r0 9) + (1 : Int32))) Q) : wpx d P_Ce_addEdge 48 [.ref r0, .int x1, .int x2] [] h Q := by
  refine st_aload (pc' := 49) rfl rfl rfl ?_
  refine st_getfr (x := some a0) (Or.inl rfl) rfl hs0 rfl hr1 (pc' := 52) rfl ?_
  refine st_aload (pc' := 53) rfl rfl rfl ?_
  refine st_getfi (Or.inl rfl) rfl hs0 rfl (pc' := 56) rfl ?_
  refine st_iload (pc' := 57) rfl rfl rfl ?_
  refine st_i2b (pc' := 58) rfl rfl ?_
  refine st_bastore rfl hs2 hb3 (j := (h_i h r0 9).toNatClampNeg) rfl (pc' := 59) rfl ?_
  refine st_aload (pc' := 60) rfl rfl rfl ?_
  refine st_getfr (x := some a2) (Or.inl rfl) rfl hs0 rfl hr4 (pc' := 63) rfl ?_
  refine st_aload (pc' := 64) rfl rfl rfl ?_
  refine st_getfi (Or.inl rfl) rfl hs0 rfl (pc' := 67) rfl ?_
  refine st_iload (pc' := 68) rfl rfl rfl ?_
  refine st_iastore rfl hs5 hb6 (j := (h_i (w_i h a0 ((h_i h r0 9).toNatClampNeg) x1.toInt8.toInt32.toInt8.toInt32) r0 9).toNatClampNeg) rfl (pc' := 69) rfl ?_
  refine st_aload (pc' := 70) rfl rfl rfl ?_
  refine st_dup (pc' := 71) rfl rfl rfl ?_
  refine st_getfi (Or.inl rfl) rfl hs0 rfl (pc' := 74) rfl ?_
  refine st_ipush (pc' := 75) (v := 1) rfl rfl (by decide) ?_
  refine st_iadd (pc' := 76) rfl rfl ?_
  refine st_putf (h' := w_i (w_i (w_i h a0 ((h_i h r0 9).toNatClampNeg) x1.toInt8.toInt32.toInt8.toInt32) a2 ((h_i (w_i h a0 ((h_i h r0 9).toNatClampNeg) x1.toInt8.toInt32.toInt8.toInt32) r0 9).toNatClampNeg) x2) r0 9 ((h_i (w_i (w_i h a0 ((h_i h r0 9).toNatClampNeg) x1.toInt8.toInt32.toInt8.toInt32) a2 ((h_i (w_i h a0 ((h_i h r0 9).toNatClampNeg) x1.toInt8.toInt32.toInt8.toInt32) r0 9).toNatClampNeg) x2) r0 9) + (1 : Int32))) (Or.inl rfl) rfl hs0 rfl rfl rfl (pc' := 79) rfl ?_
  exact k
theorem B_Ce_addEdge_79 {d : Nat} {h : PH} {Q : PQ} {r0 : Nat} {x1 : Int32} {x2 : Int32}  (k : Q none h) : wpx d P_Ce_addEdge 79 [.ref r0, .int x1, .int x2] [] h Q := by
  exact st_return rfl k
theorem B_Ce_countFrom_0 {d : Nat} {h : PH} {Q : PQ} {r0 : Nat} {x1 : Int32} {x2 : Int32} {v3 : Value} {v4 : Value}  (kt : ¬ (x2 = 0) → wpx d P_Ce_countFrom 55 [.ref r0, .int x1, .int x2, .int ((x1 * (11 : Int32)) + x2), v4] [] h Q) (kf : x2 = 0 → wpx d P_Ce_countFrom 11 [.ref r0, .int x1, .int x2, .int ((x1 * (11 : Int32)) + x2), v4] [] h Q) : wpx d P_Ce_countFrom 0 [.ref r0, .int x1, .int x2, v3, v4] [] h Q := by
  refine st_iload (pc' := 1) rfl rfl rfl ?_
  refine st_ipush (pc' := 3) (v := 11) rfl rfl (by decide) ?_
  refine st_imul (pc' := 4) rfl rfl ?_
  refine st_iload (pc' := 5) rfl rfl rfl ?_
  refine st_iadd (pc' := 6) rfl rfl ?_
  refine st_istore (pc' := 7) (ls' := [.ref r0, .int x1, .int x2, .int ((x1 * (11 : Int32)) + x2), v4]) rfl rfl (Nat.le_of_ble_eq_true rfl) rfl ?_
  refine st_iload (pc' := 8) rfl rfl rfl ?_
  exact st_if_ne (pc' := 11) rfl rfl kt kf
theorem B_Ce_countFrom_11 {d : Nat} {h : PH} {Q : PQ} {r0 : Nat} {x1 : Int32} {x2 : Int32} {x3 : Int32} {v4 : Value} {a0 : Nat} {n1 : Nat} {a2 : Nat} (hs0 : h_sh h r0 = some (0, 1)) (hr1 : h_r h r0 0 = some a0) (hs2 : h_sh h a0 = some (1, n1)) (hb3 : vp_in x1 n1) (hr4 : h_r h r0 2 = some a2) (kt : ((h_i h a0 x1.toNatClampNeg) &&& (3 : Int32)) ≤ 0 → wpx d P_Ce_countFrom 35 [.ref r0, .int x1, .int x2, .int x3, .int ((h_i h a0 x1.toNatClampNeg) &&& (3 : Int32))] [.int x3, .ref a2] h Q) (kf : ¬ (((h_i h a0 x1.toNatClampNeg) &&& (3 : Int32)) ≤ 0) → wpx d P_Ce_countFrom 31 [.ref r0, .int x1, .int x2, .int x3, .int ((h_i h a0 x1.toNatClampNeg) &&& (3 : Int32))] [.int x3, .ref a2] h Q) : wpx d P_Ce_countFrom 11 [.ref r0, .int x1, .int x2, .int x3, v4] [] h Q := by
  refine st_aload (pc' := 12) rfl rfl rfl ?_
  refine st_getfr (x := some a0) (Or.inl rfl) rfl hs0 rfl hr1 (pc' := 15) rfl ?_
  refine st_iload (pc' := 16) rfl rfl rfl ?_
  refine st_iaload rfl hs2 hb3 (j := x1.toNatClampNeg) rfl (pc' := 17) rfl ?_
  refine st_ipush (pc' := 18) (v := 3) rfl rfl (by decide) ?_
  refine st_iand (pc' := 19) rfl rfl ?_
  refine st_istore (pc' := 21) (ls' := [.ref r0, .int x1, .int x2, .int x3, .int ((h_i h a0 x1.toNatClampNeg) &&& (3 : Int32))]) rfl rfl (Nat.le_of_ble_eq_true rfl) rfl ?_
  refine st_aload (pc' := 22) rfl rfl rfl ?_
  refine st_getfr (x := some a2) (Or.inl rfl) rfl hs0 rfl hr4 (pc' := 25) rfl ?_
  refine st_iload (pc' := 26) rfl rfl rfl ?_
  refine st_iload (pc' := 28) rfl rfl rfl ?_
  exact st_if_le (pc' := 31) rfl rfl kt kf
theorem B_Ce_countFrom_31 {d : Nat} {h : PH} {Q : PQ} {r0 : Nat} {x1 : Int32} {x2 : Int32} {x3 : Int32} {x4 : Int32} {q0 : Nat} {s1 : Int32}  (k : wpx d P_Ce_countFrom 36 [.ref r0, .int x1, .int x2, .int x3, .int x4] [.long 1, .int s1, .ref q0] h Q) : wpx d P_Ce_countFrom 31 [.ref r0, .int x1, .int x2, .int x3, .int x4] [.int s1, .ref q0] h Q := by
  refine st_lpush (pc' := 32) (v := 1) rfl rfl (by decide) ?_
  exact st_goto rfl k
theorem B_Ce_countFrom_35 {d : Nat} {h : PH} {Q : PQ} {r0 : Nat} {x1 : Int32} {x2 : Int32} {x3 : Int32} {x4 : Int32} {q0 : Nat} {s1 : Int32}  (k : wpx d P_Ce_countFrom 36 [.ref r0, .int x1, .int x2, .int x3, .int x4] [.long 0, .int s1, .ref q0] h Q) : wpx d P_Ce_countFrom 35 [.ref r0, .int x1, .int x2, .int x3, .int x4] [.int s1, .ref q0] h Q := by
  refine st_lpush (pc' := 36) (v := 0) rfl rfl (by decide) ?_
  exact k
theorem B_Ce_countFrom_36 {d : Nat} {h : PH} {Q : PQ} {r0 : Nat} {x1 : Int32} {x2 : Int32} {x3 : Int32} {x4 : Int32} {q0 : Nat} {s1 : Int32} {t2 : Int64} {n0 : Nat} {a1 : Nat} (hs0 : h_sh h q0 = some (4, n0)) (hb1 : vp_in s1 n0) (hs2 : h_sh h r0 = some (0, 1)) (hr3 : h_r h r0 3 = some a1) (kt : ¬ (x4 = (1 : Int32)) → wpx d P_Ce_countFrom 52 [.ref r0, .int x1, .int x2, .int x3, .int x4] [.int x3, .ref a1] (w_l h q0 s1.toNatClampNeg t2) Q) (kf : x4 = (1 : Int32) → wpx d P_Ce_countFrom 48 [.ref r0, .int x1, .int x2, .int x3, .int x4] [.int x3, .ref a1] (w_l h q0 s1.toNatClampNeg t2) Q) : wpx d P_Ce_countFrom 36 [.ref r0, .int x1, .int x2, .int x3, .int x4] [.long t2, .int s1, .ref q0] h Q := by
  refine st_lastore rfl hs0 hb1 (j := s1.toNatClampNeg) rfl (pc' := 37) rfl ?_
  refine st_aload (pc' := 38) rfl rfl rfl ?_
  refine st_getfr (x := some a1) (Or.inl rfl) rfl hs2 rfl hr3 (pc' := 41) rfl ?_
  refine st_iload (pc' := 42) rfl rfl rfl ?_
  refine st_iload (pc' := 44) rfl rfl rfl ?_
  refine st_ipush (pc' := 45) (v := 1) rfl rfl (by decide) ?_
  exact st_icmp_ne (pc' := 48) rfl rfl kt kf
theorem B_Ce_countFrom_48 {d : Nat} {h : PH} {Q : PQ} {r0 : Nat} {x1 : Int32} {x2 : Int32} {x3 : Int32} {x4 : Int32} {q0 : Nat} {s1 : Int32}  (k : wpx d P_Ce_countFrom 53 [.ref r0, .int x1, .int x2, .int x3, .int x4] [.long 1, .int s1, .ref q0] h Q) : wpx d P_Ce_countFrom 48 [.ref r0, .int x1, .int x2, .int x3, .int x4] [.int s1, .ref q0] h Q := by
  refine st_lpush (pc' := 49) (v := 1) rfl rfl (by decide) ?_
  exact st_goto rfl k
theorem B_Ce_countFrom_52 {d : Nat} {h : PH} {Q : PQ} {r0 : Nat} {x1 : Int32} {x2 : Int32} {x3 : Int32} {x4 : Int32} {q0 : Nat} {s1 : Int32}  (k : wpx d P_Ce_countFrom 53 [.ref r0, .int x1, .int x2, .int x3, .int x4] [.long 0, .int s1, .ref q0] h Q) : wpx d P_Ce_countFrom 52 [.ref r0, .int x1, .int x2, .int x3, .int x4] [.int s1, .ref q0] h Q := by
  refine st_lpush (pc' := 53) (v := 0) rfl rfl (by decide) ?_
  exact k
theorem B_Ce_countFrom_53 {d : Nat} {h : PH} {Q : PQ} {r0 : Nat} {x1 : Int32} {x2 : Int32} {x3 : Int32} {x4 : Int32} {q0 : Nat} {s1 : Int32} {t2 : Int64} {n0 : Nat} (hs0 : h_sh h q0 = some (4, n0)) (hb1 : vp_in s1 n0) (k : Q none (w_l h q0 s1.toNatClampNeg t2)) : wpx d P_Ce_countFrom 53 [.ref r0, .int x1, .int x2, .int x3, .int x4] [.long t2, .int s1, .ref q0] h Q := by
  refine st_lastore rfl hs0 hb1 (j := s1.toNatClampNeg) rfl (pc' := 54) rfl ?_
  exact st_return rfl k
theorem B_Ce_countFrom_55 {d : Nat} {h : PH} {Q : PQ} {r0 : Nat} {x1 : Int32} {x2 : Int32} {x3 : Int32} {v4 : Value} {a0 : Nat} {n1 : Nat} {a2 : Nat} {n3 : Nat} {a4 : Nat} {n5 : Nat} (hs0 : h_sh h r0 = some (0, 1)) (hr1 : h_r h r0 2 = some a0) (hs2 : h_sh h a0 = some (4, n1)) (hb3 : vp_in x3 n1) (hr4 : h_r h r0 3 = some a2) (hs5 : h_sh h a2 = some (4, n3)) (hb6 : vp_in x3 n3) (hr7 : h_r h r0 6 = some a4) (hs8 : h_sh h a4 = some (1, n5)) (hb9 : vp_in x1 n5) (k : wpx d P_Ce_countFrom 77 [.ref r0, .int x1, .int x2, .int x3, .int (h_i (w_l (w_l h a0 x3.toNatClampNeg 0) a2 x3.toNatClampNeg 0) a4 x1.toNatClampNeg)] [] (w_l (w_l h a0 x3.toNatClampNeg 0) a2 x3.toNatClampNeg 0) Q) : wpx d P_Ce_countFrom 55 [.ref r0, .int x1, .int x2, .int x3, v4] [] h Q := by
  refine st_aload (pc' := 56) rfl rfl rfl ?_
  refine st_getfr (x := some a0) (Or.inl rfl) rfl hs0 rfl hr1 (pc' := 59) rfl ?_
  refine st_iload (pc' := 60) rfl rfl rfl ?_
  refine st_lpush (pc' := 61) (v := 0) rfl rfl (by decide) ?_
  refine st_lastore rfl hs2 hb3 (j := x3.toNatClampNeg) rfl (pc' := 62) rfl ?_
  refine st_aload (pc' := 63) rfl rfl rfl ?_
  refine st_getfr (x := some a2) (Or.inl rfl) rfl hs0 rfl hr4 (pc' := 66) rfl ?_
  refine st_iload (pc' := 67) rfl rfl rfl ?_
  refine st_lpush (pc' := 68) (v := 0) rfl rfl (by decide) ?_
  refine st_lastore rfl hs5 hb6 (j := x3.toNatClampNeg) rfl (pc' := 69) rfl ?_
  refine st_aload (pc' := 70) rfl rfl rfl ?_
  refine st_getfr (x := some a4) (Or.inl rfl) rfl hs0 rfl hr7 (pc' := 73) rfl ?_
  refine st_iload (pc' := 74) rfl rfl rfl ?_
  refine st_iaload rfl hs8 hb9 (j := x1.toNatClampNeg) rfl (pc' := 75) rfl ?_
  refine st_istore (pc' := 77) (ls' := [.ref r0, .int x1, .int x2, .int x3, .int (h_i (w_l (w_l h a0 x3.toNatClampNeg 0) a2 x3.toNatClampNeg 0) a4 x1.toNatClampNeg)]) rfl rfl (Nat.le_of_ble_eq_true rfl) rfl ?_
  exact k
theorem B_Ce_countFrom_77 {d : Nat} {h : PH} {Q : PQ} {r0 : Nat} {x1 : Int32} {x2 : Int32} {x3 : Int32} {x4 : Int32} {a0 : Nat} {n1 : Nat} (hs0 : h_sh h r0 = some (0, 1)) (hr1 : h_r h r0 6 = some a0) (hs2 : h_sh h a0 = some (1, n1)) (hb3 : vp_in (x1 + (1 : Int32)) n1) (kt : (h_i h a0 (x1 + (1 : Int32)).toNatClampNeg) ≤ x4 → wpx d P_Ce_countFrom 152 [.ref r0, .int x1, .int x2, .int x3, .int x4] [] h Q) (kf : ¬ ((h_i h a0 (x1 + (1 : Int32)).toNatClampNeg) ≤ x4) → wpx d P_Ce_countFrom 90 [.ref r0, .int x1, .int x2, .int x3, .int x4] [] h Q) : wpx d P_Ce_countFrom 77 [.ref r0, .int x1, .int x2, .int x3, .int x4] [] h Q := by
  refine st_iload (pc' := 79) rfl rfl rfl ?_
  refine st_aload (pc' := 80) rfl rfl rfl ?_
  refine st_getfr (x := some a0) (Or.inl rfl) rfl hs0 rfl hr1 (pc' := 83) rfl ?_
  refine st_iload (pc' := 84) rfl rfl rfl ?_
  refine st_ipush (pc' := 85) (v := 1) rfl rfl (by decide) ?_
  refine st_iadd (pc' := 86) rfl rfl ?_
  refine st_iaload rfl hs2 hb3 (j := (x1 + (1 : Int32)).toNatClampNeg) rfl (pc' := 87) rfl ?_
  exact st_icmp_ge (pc' := 90) rfl rfl kt kf
theorem B_Ce_countFrom_90 {d : Nat} {h : PH} {Q : PQ} {r0 : Nat} {x1 : Int32} {x2 : Int32} {x3 : Int32} {x4 : Int32} {a0 : Nat} {n1 : Nat} {a2 : Nat} {n3 : Nat} {a4 : Nat} {n5 : Nat} (hs0 : h_sh h r0 = some (0, 1)) (hr1 : h_r h r0 2 = some a0) (hs2 : h_sh h a0 = some (4, n1)) (hb3 : vp_in x3 n1) (hr4 : h_r h r0 8 = some a2) (hs5 : h_sh h a2 = some (1, n3)) (hb6 : vp_in x4 n3) (hb7 : vp_in ((((h_i h a2 x4.toNatClampNeg) * (11 : Int32)) + x2) - (1 : Int32)) n1) (hr8 : h_r h r0 3 = some a4) (hs9 : h_sh h a4 = some (4, n5)) (hb10 : vp_in x3 n5) (hb11 : vp_in ((((h_i (w_l h a0 x3.toNatClampNeg ((h_l h a0 x3.toNatClampNeg) + (h_l h a0 ((((h_i h a2 x4.toNatClampNeg) * (11 : Int32)) + x2) - (1 : Int32)).toNatClampNeg))) a2 x4.toNatClampNeg) * (11 : Int32)) + x2) - (1 : Int32)) n5) (k : wpx d P_Ce_countFrom 146 [.ref r0, .int x1, .int x2, .int x3, .int x4] [] (w_l (w_l h a0 x3.toNatClampNeg ((h_l h a0 x3.toNatClampNeg) + (h_l h a0 ((((h_i h a2 x4.toNatClampNeg) * (11 : Int32)) + x2) - (1 : Int32)).toNatClampNeg))) a4 x3.toNatClampNeg ((h_l (w_l h a0 x3.toNatClampNeg ((h_l h a0 x3.toNatClampNeg) + (h_l h a0 ((((h_i h a2 x4.toNatClampNeg) * (11 : Int32)) + x2) - (1 : Int32)).toNatClampNeg))) a4 x3.toNatClampNeg) + (h_l (w_l h a0 x3.toNatClampNeg ((h_l h a0 x3.toNatClampNeg) + (h_l h a0 ((((h_i h a2 x4.toNatClampNeg) * (11 : Int32)) + x2) - (1 : Int32)).toNatClampNeg))) a4 ((((h_i (w_l h a0 x3.toNatClampNeg ((h_l h a0 x3.toNatClampNeg) + (h_l h a0 ((((h_i h a2 x4.toNatClampNeg) * (11 : Int32)) + x2) - (1 : Int32)).toNatClampNeg))) a2 x4.toNatClampNeg) * (11 : Int32)) + x2) - (1 : Int32)).toNatClampNeg))) Q) : wpx d P_Ce_countFrom 90 [.ref r0, .int x1, .int x2, .int x3, .int x4] [] h Q := by
  refine st_aload (pc' := 91) rfl rfl rfl ?_
  refine st_getfr (x := some a0) (Or.inl rfl) rfl hs0 rfl hr1 (pc' := 94) rfl ?_
  refine st_iload (pc' := 95) rfl rfl rfl ?_
  refine st_dup211 (pc' := 96) rfl rfl ⟨rfl, rfl⟩ ?_
  refine st_laload rfl hs2 hb3 (j := x3.toNatClampNeg) rfl (pc' := 97) rfl ?_
  refine st_aload (pc' := 98) rfl rfl rfl ?_
  refine st_getfr (x := some a0) (Or.inl rfl) rfl hs0 rfl hr1 (pc' := 101) rfl ?_
  refine st_aload (pc' := 102) rfl rfl rfl ?_
  refine st_getfr (x := some a2) (Or.inl rfl) rfl hs0 rfl hr4 (pc' := 105) rfl ?_
  refine st_iload (pc' := 107) rfl rfl rfl ?_
  refine st_iaload rfl hs5 hb6 (j := x4.toNatClampNeg) rfl (pc' := 108) rfl ?_
  refine st_ipush (pc' := 110) (v := 11) rfl rfl (by decide) ?_
  refine st_imul (pc' := 111) rfl rfl ?_
  refine st_iload (pc' := 112) rfl rfl rfl ?_
  refine st_iadd (pc' := 113) rfl rfl ?_
  refine st_ipush (pc' := 114) (v := 1) rfl rfl (by decide) ?_
  refine st_isub (pc' := 115) rfl rfl ?_
  refine st_laload rfl hs2 hb7 (j := ((((h_i h a2 x4.toNatClampNeg) * (11 : Int32)) + x2) - (1 : Int32)).toNatClampNeg) rfl (pc' := 116) rfl ?_
  refine st_ladd (pc' := 117) rfl rfl ?_
  refine st_lastore rfl hs2 hb3 (j := x3.toNatClampNeg) rfl (pc' := 118) rfl ?_
  refine st_aload (pc' := 119) rfl rfl rfl ?_
  refine st_getfr (x := some a4) (Or.inl rfl) rfl hs0 rfl hr8 (pc' := 122) rfl ?_
  refine st_iload (pc' := 123) rfl rfl rfl ?_
  refine st_dup211 (pc' := 124) rfl rfl ⟨rfl, rfl⟩ ?_
  refine st_laload rfl hs9 hb10 (j := x3.toNatClampNeg) rfl (pc' := 125) rfl ?_
  refine st_aload (pc' := 126) rfl rfl rfl ?_
  refine st_getfr (x := some a4) (Or.inl rfl) rfl hs0 rfl hr8 (pc' := 129) rfl ?_
  refine st_aload (pc' := 130) rfl rfl rfl ?_
  refine st_getfr (x := some a2) (Or.inl rfl) rfl hs0 rfl hr4 (pc' := 133) rfl ?_
  refine st_iload (pc' := 135) rfl rfl rfl ?_
  refine st_iaload rfl hs5 hb6 (j := x4.toNatClampNeg) rfl (pc' := 136) rfl ?_
  refine st_ipush (pc' := 138) (v := 11) rfl rfl (by decide) ?_
  refine st_imul (pc' := 139) rfl rfl ?_
  refine st_iload (pc' := 140) rfl rfl rfl ?_
  refine st_iadd (pc' := 141) rfl rfl ?_
  refine st_ipush (pc' := 142) (v := 1) rfl rfl (by decide) ?_
  refine st_isub (pc' := 143) rfl rfl ?_
  refine st_laload rfl hs9 hb11 (j := ((((h_i (w_l h a0 x3.toNatClampNeg ((h_l h a0 x3.toNatClampNeg) + (h_l h a0 ((((h_i h a2 x4.toNatClampNeg) * (11 : Int32)) + x2) - (1 : Int32)).toNatClampNeg))) a2 x4.toNatClampNeg) * (11 : Int32)) + x2) - (1 : Int32)).toNatClampNeg) rfl (pc' := 144) rfl ?_
  refine st_ladd (pc' := 145) rfl rfl ?_
  refine st_lastore rfl hs9 hb10 (j := x3.toNatClampNeg) rfl (pc' := 146) rfl ?_
  exact k
theorem B_Ce_countFrom_152 {d : Nat} {h : PH} {Q : PQ} {r0 : Nat} {x1 : Int32} {x2 : Int32} {x3 : Int32} {x4 : Int32}  (k : Q none h) : wpx d P_Ce_countFrom 152 [.ref r0, .int x1, .int x2, .int x3, .int x4] [] h Q := by
  exact st_return rfl k
theorem B_Ce_countFrom_146 {d : Nat} {h : PH} {Q : PQ} {r0 : Nat} {x1 : Int32} {x2 : Int32} {x3 : Int32} {x4 : Int32}  (k : wpx d P_Ce_countFrom 77 [.ref r0, .int x1, .int x2, .int x3, .int (x4 + 1)] [] h Q) : wpx d P_Ce_countFrom 146 [.ref r0, .int x1, .int x2, .int x3, .int x4] [] h Q := by
  refine st_iinc (pc' := 149) (v := 1) (ls' := [.ref r0, .int x1, .int x2, .int x3, .int (x4 + 1)]) rfl rfl rfl (by decide) rfl ?_
  exact st_goto rfl k
theorem B_Ce_amount_0 {d : Nat} {h : PH} {Q : PQ} {r0 : Nat} {x1 : Int32} {x2 : Int32}  (kt : x1 < 0 → wpx d P_Ce_amount 10 [.ref r0, .int x1, .int x2] [] h Q) (kf : ¬ (x1 < 0) → wpx d P_Ce_amount 4 [.ref r0, .int x1, .int x2] [] h Q) : wpx d P_Ce_amount 0 [.ref r0, .int x1, .int x2] [] h Q := by
  refine st_iload (pc' := 1) rfl rfl rfl ?_
  exact st_if_lt (pc' := 4) rfl rfl kt kf
theorem B_Ce_amount_4 {d : Nat} {h : PH} {Q : PQ} {r0 : Nat} {x1 : Int32} {x2 : Int32}  (kt : x1 ≤ (10 : Int32) → wpx d P_Ce_amount 14 [.ref r0, .int x1, .int x2] [] h Q) (kf : ¬ (x1 ≤ (10 : Int32)) → wpx d P_Ce_amount 10 [.ref r0, .int x1, .int x2] [] h Q) : wpx d P_Ce_amount 4 [.ref r0, .int x1, .int x2] [] h Q := by
  refine st_iload (pc' := 5) rfl rfl rfl ?_
  refine st_ipush (pc' := 7) (v := 10) rfl rfl (by decide) ?_
  exact st_icmp_le (pc' := 10) rfl rfl kt kf
theorem B_Ce_amount_10 {d : Nat} {h : PH} {Q : PQ} {r0 : Nat} {x1 : Int32} {x2 : Int32}  (k : Q (some (.long (-1))) h) : wpx d P_Ce_amount 10 [.ref r0, .int x1, .int x2] [] h Q := by
  refine st_ldc2 (pc' := 13) (v := (-1)) rfl rfl (by decide) ?_
  exact st_lreturn rfl k
theorem B_Ce_amount_14 {d : Nat} {h : PH} {Q : PQ} {r0 : Nat} {x1 : Int32} {x2 : Int32}  (kt : ¬ (x2 = 0) → wpx d P_Ce_amount 25 [.ref r0, .int x1, .int x2] [] h Q) (kf : x2 = 0 → wpx d P_Ce_amount 18 [.ref r0, .int x1, .int x2] [] h Q) : wpx d P_Ce_amount 14 [.ref r0, .int x1, .int x2] [] h Q := by
  refine st_iload (pc' := 15) rfl rfl rfl ?_
  exact st_if_ne (pc' := 18) rfl rfl kt kf
theorem B_Ce_amount_18 {d : Nat} {h : PH} {Q : PQ} {r0 : Nat} {x1 : Int32} {x2 : Int32} {a0 : Nat} {n1 : Nat} (hs0 : h_sh h r0 = some (0, 1)) (hr1 : h_r h r0 2 = some a0) (hs2 : h_sh h a0 = some (4, n1)) (hb3 : vp_in x1 n1) (k : Q (some (.long (h_l h a0 x1.toNatClampNeg))) h) : wpx d P_Ce_amount 18 [.ref r0, .int x1, .int x2] [] h Q := by
  refine st_aload (pc' := 19) rfl rfl rfl ?_
  refine st_getfr (x := some a0) (Or.inl rfl) rfl hs0 rfl hr1 (pc' := 22) rfl ?_
  refine st_iload (pc' := 23) rfl rfl rfl ?_
  refine st_laload rfl hs2 hb3 (j := x1.toNatClampNeg) rfl (pc' := 24) rfl ?_
  exact st_lreturn rfl k
theorem B_Ce_amount_25 {d : Nat} {h : PH} {Q : PQ} {r0 : Nat} {x1 : Int32} {x2 : Int32}  (kt : ¬ (x2 = (1 : Int32)) → wpx d P_Ce_amount 39 [.ref r0, .int x1, .int x2] [] h Q) (kf : x2 = (1 : Int32) → wpx d P_Ce_amount 30 [.ref r0, .int x1, .int x2] [] h Q) : wpx d P_Ce_amount 25 [.ref r0, .int x1, .int x2] [] h Q := by
  refine st_iload (pc' := 26) rfl rfl rfl ?_
  refine st_ipush (pc' := 27) (v := 1) rfl rfl (by decide) ?_
  exact st_icmp_ne (pc' := 30) rfl rfl kt kf
theorem B_Ce_amount_30 {d : Nat} {h : PH} {Q : PQ} {r0 : Nat} {x1 : Int32} {x2 : Int32} {a0 : Nat} {n1 : Nat} (hs0 : h_sh h r0 = some (0, 1)) (hr1 : h_r h r0 3 = some a0) (hs2 : h_sh h a0 = some (4, n1)) (hb3 : vp_in x1 n1) (k : wpx d P_Ce_amount 52 [.ref r0, .int x1, .int x2] [.long (h_l h a0 x1.toNatClampNeg)] h Q) : wpx d P_Ce_amount 30 [.ref r0, .int x1, .int x2] [] h Q := by
  refine st_aload (pc' := 31) rfl rfl rfl ?_
  refine st_getfr (x := some a0) (Or.inl rfl) rfl hs0 rfl hr1 (pc' := 34) rfl ?_
  refine st_iload (pc' := 35) rfl rfl rfl ?_
  refine st_laload rfl hs2 hb3 (j := x1.toNatClampNeg) rfl (pc' := 36) rfl ?_
  exact st_goto rfl k
theorem B_Ce_amount_39 {d : Nat} {h : PH} {Q : PQ} {r0 : Nat} {x1 : Int32} {x2 : Int32} {a0 : Nat} {n1 : Nat} {a2 : Nat} {n3 : Nat} (hs0 : h_sh h r0 = some (0, 1)) (hr1 : h_r h r0 2 = some a0) (hs2 : h_sh h a0 = some (4, n1)) (hb3 : vp_in x1 n1) (hr4 : h_r h r0 3 = some a2) (hs5 : h_sh h a2 = some (4, n3)) (hb6 : vp_in x1 n3) (k : wpx d P_Ce_amount 52 [.ref r0, .int x1, .int x2] [.long ((h_l h a0 x1.toNatClampNeg) - (h_l h a2 x1.toNatClampNeg))] h Q) : wpx d P_Ce_amount 39 [.ref r0, .int x1, .int x2] [] h Q := by
  refine st_aload (pc' := 40) rfl rfl rfl ?_
  refine st_getfr (x := some a0) (Or.inl rfl) rfl hs0 rfl hr1 (pc' := 43) rfl ?_
  refine st_iload (pc' := 44) rfl rfl rfl ?_
  refine st_laload rfl hs2 hb3 (j := x1.toNatClampNeg) rfl (pc' := 45) rfl ?_
  refine st_aload (pc' := 46) rfl rfl rfl ?_
  refine st_getfr (x := some a2) (Or.inl rfl) rfl hs0 rfl hr4 (pc' := 49) rfl ?_
  refine st_iload (pc' := 50) rfl rfl rfl ?_
  refine st_laload rfl hs5 hb6 (j := x1.toNatClampNeg) rfl (pc' := 51) rfl ?_
  refine st_lsub (pc' := 52) rfl rfl ?_
  exact k
theorem B_Ce_amount_52 {d : Nat} {h : PH} {Q : PQ} {r0 : Nat} {x1 : Int32} {x2 : Int32} {t0 : Int64}  (k : Q (some (.long t0)) h) : wpx d P_Ce_amount 52 [.ref r0, .int x1, .int x2] [.long t0] h Q := by
  exact st_lreturn rfl k
theorem B_Ce_bringTo_0 {d : Nat} {h : PH} {Q : PQ} {r0 : Nat} {r1 : Nat} {x2 : Int32} {l3 : Int64} {v5 : Value} {v6 : Value} {v7 : Value} {v8 : Value} {v9 : Value}  (kt : x2 < 0 → wpx d P_Ce_bringTo 27 [.ref r0, .ref r1, .int x2, .long l3, .retAddr 2, v5, v6, v7, v8, v9] [] h Q) (kf : ¬ (x2 < 0) → wpx d P_Ce_bringTo 4 [.ref r0, .ref r1, .int x2, .long l3, .retAddr 2, v5, v6, v7, v8, v9] [] h Q) : wpx d P_Ce_bringTo 0 [.ref r0, .ref r1, .int x2, .long l3, .retAddr 2, v5, v6, v7, v8, v9] [] h Q := by
  refine st_iload (pc' := 1) rfl rfl rfl ?_
  exact st_if_lt (pc' := 4) rfl rfl kt kf
theorem B_Ce_bringTo_4 {d : Nat} {h : PH} {Q : PQ} {r0 : Nat} {r1 : Nat} {x2 : Int32} {l3 : Int64} {v5 : Value} {v6 : Value} {v7 : Value} {v8 : Value} {v9 : Value}  (kt : (10 : Int32) < x2 → wpx d P_Ce_bringTo 27 [.ref r0, .ref r1, .int x2, .long l3, .retAddr 2, v5, v6, v7, v8, v9] [] h Q) (kf : ¬ ((10 : Int32) < x2) → wpx d P_Ce_bringTo 10 [.ref r0, .ref r1, .int x2, .long l3, .retAddr 2, v5, v6, v7, v8, v9] [] h Q) : wpx d P_Ce_bringTo 4 [.ref r0, .ref r1, .int x2, .long l3, .retAddr 2, v5, v6, v7, v8, v9] [] h Q := by
  refine st_iload (pc' := 5) rfl rfl rfl ?_
  refine st_ipush (pc' := 7) (v := 10) rfl rfl (by decide) ?_
  exact st_icmp_gt (pc' := 10) rfl rfl kt kf
theorem B_Ce_bringTo_10 {d : Nat} {h : PH} {Q : PQ} {r0 : Nat} {r1 : Nat} {x2 : Int32} {l3 : Int64} {v5 : Value} {v6 : Value} {v7 : Value} {v8 : Value} {v9 : Value}  (kt : (lg_cmp l3 (0 : Int64)) < 0 → wpx d P_Ce_bringTo 27 [.ref r0, .ref r1, .int x2, .long l3, .retAddr 2, v5, v6, v7, v8, v9] [] h Q) (kf : ¬ ((lg_cmp l3 (0 : Int64)) < 0) → wpx d P_Ce_bringTo 16 [.ref r0, .ref r1, .int x2, .long l3, .retAddr 2, v5, v6, v7, v8, v9] [] h Q) : wpx d P_Ce_bringTo 10 [.ref r0, .ref r1, .int x2, .long l3, .retAddr 2, v5, v6, v7, v8, v9] [] h Q := by
  refine st_lload (pc' := 11) rfl rfl rfl rfl ?_
  refine st_lpush (pc' := 12) (v := 0) rfl rfl (by decide) ?_
  refine st_lcmp (pc' := 13) rfl rfl ?_
  exact st_if_lt (pc' := 16) rfl rfl kt kf
theorem B_Ce_bringTo_16 {d : Nat} {h : PH} {Q : PQ} {r0 : Nat} {r1 : Nat} {x2 : Int32} {l3 : Int64} {v5 : Value} {v6 : Value} {v7 : Value} {v8 : Value} {v9 : Value} {a0 : Nat} {n1 : Nat} (hs0 : h_sh h r0 = some (0, 1)) (hr1 : h_r h r0 2 = some a0) (hs2 : h_sh h a0 = some (4, n1)) (hb3 : vp_in x2 n1) (kt : (lg_cmp l3 (h_l h a0 x2.toNatClampNeg)) < 0 → wpx d P_Ce_bringTo 29 [.ref r0, .ref r1, .int x2, .long l3, .retAddr 2, v5, v6, v7, v8, v9] [] h Q) (kf : ¬ ((lg_cmp l3 (h_l h a0 x2.toNatClampNeg)) < 0) → wpx d P_Ce_bringTo 27 [.ref r0, .ref r1, .int x2, .long l3, .retAddr 2, v5, v6, v7, v8, v9] [] h Q) : wpx d P_Ce_bringTo 16 [.ref r0, .ref r1, .int x2, .long l3, .retAddr 2, v5, v6, v7, v8, v9] [] h Q := by
  refine st_lload (pc' := 17) rfl rfl rfl rfl ?_
  refine st_aload (pc' := 18) rfl rfl rfl ?_
  refine st_getfr (x := some a0) (Or.inl rfl) rfl hs0 rfl hr1 (pc' := 21) rfl ?_
  refine st_iload (pc' := 22) rfl rfl rfl ?_
  refine st_laload rfl hs2 hb3 (j := x2.toNatClampNeg) rfl (pc' := 23) rfl ?_
  refine st_lcmp (pc' := 24) rfl rfl ?_
  exact st_if_lt (pc' := 27) rfl rfl kt kf
theorem B_Ce_bringTo_27 {d : Nat} {h : PH} {Q : PQ} {r0 : Nat} {r1 : Nat} {x2 : Int32} {l3 : Int64} {v5 : Value} {v6 : Value} {v7 : Value} {v8 : Value} {v9 : Value}  (k : Q (some (.int 0)) h) : wpx d P_Ce_bringTo 27 [.ref r0, .ref r1, .int x2, .long l3, .retAddr 2, v5, v6, v7, v8, v9] [] h Q := by
  refine st_ipush (pc' := 28) (v := 0) rfl rfl (by decide) ?_
  exact st_ireturn (ty := .boolean) rfl rfl (by decide) k
theorem B_Ce_bringTo_29 {d : Nat} {h : PH} {Q : PQ} {r0 : Nat} {r1 : Nat} {x2 : Int32} {l3 : Int64} {v5 : Value} {v6 : Value} {v7 : Value} {v8 : Value} {v9 : Value} (hs0 : h_sh h r1 = some (0, 10)) (k : wpm d 106 [.ref r1] h (fun r h' => wpx d P_Ce_bringTo 33 [.ref r0, .ref r1, .int x2, .long l3, .retAddr 2, v5, v6, v7, v8, v9] (r.toList ++ []) h' Q)) : wpx d P_Ce_bringTo 29 [.ref r0, .ref r1, .int x2, .long l3, .retAddr 2, v5, v6, v7, v8, v9] [] h Q := by
  refine st_aload (pc' := 30) rfl rfl rfl ?_
  exact st_call (pc' := 33) (as := [.ref r1]) (rest := []) rfl rfl (Nat.le_of_ble_eq_true rfl) rfl rfl (Nat.le_of_ble_eq_true rfl) (kd := 1) (o := 10) rfl rfl (beq_iff_eq.mpr hs0) k
theorem B_Ce_bringTo_33 {d : Nat} {h : PH} {Q : PQ} {r0 : Nat} {r1 : Nat} {x2 : Int32} {l3 : Int64} {v5 : Value} {v6 : Value} {v7 : Value} {v8 : Value} {v9 : Value}  (k : wpx d P_Ce_bringTo 44 [.ref r0, .ref r1, .int x2, .long l3, .retAddr 2, .int 0, .long l3, .retAddr 2, .int (x2 - (1 : Int32)), v9] [] h Q) : wpx d P_Ce_bringTo 33 [.ref r0, .ref r1, .int x2, .long l3, .retAddr 2, v5, v6, v7, v8, v9] [] h Q := by
  refine st_ipush (pc' := 34) (v := 0) rfl rfl (by decide) ?_
  refine st_istore (pc' := 36) (ls' := [.ref r0, .ref r1, .int x2, .long l3, .retAddr 2, .int 0, v6, v7, v8, v9]) rfl rfl (Nat.le_of_ble_eq_true rfl) rfl ?_
  refine st_lload (pc' := 37) rfl rfl rfl rfl ?_
  refine st_lstore (pc' := 39) (ls' := [.ref r0, .ref r1, .int x2, .long l3, .retAddr 2, .int 0, .long l3, .retAddr 2, v8, v9]) rfl rfl (Nat.le_of_ble_eq_true rfl) rfl ?_
  refine st_iload (pc' := 40) rfl rfl rfl ?_
  refine st_ipush (pc' := 41) (v := 1) rfl rfl (by decide) ?_
  refine st_isub (pc' := 42) rfl rfl ?_
  refine st_istore (pc' := 44) (ls' := [.ref r0, .ref r1, .int x2, .long l3, .retAddr 2, .int 0, .long l3, .retAddr 2, .int (x2 - (1 : Int32)), v9]) rfl rfl (Nat.le_of_ble_eq_true rfl) rfl ?_
  exact k
theorem B_Ce_bringTo_44 {d : Nat} {h : PH} {Q : PQ} {r0 : Nat} {r1 : Nat} {x2 : Int32} {l3 : Int64} {x5 : Int32} {l6 : Int64} {x8 : Int32} {v9 : Value}  (kt : x8 < 0 → wpx d P_Ce_bringTo 167 [.ref r0, .ref r1, .int x2, .long l3, .retAddr 2, .int x5, .long l6, .retAddr 2, .int x8, v9] [] h Q) (kf : ¬ (x8 < 0) → wpx d P_Ce_bringTo 49 [.ref r0, .ref r1, .int x2, .long l3, .retAddr 2, .int x5, .long l6, .retAddr 2, .int x8, v9] [] h Q) : wpx d P_Ce_bringTo 44 [.ref r0, .ref r1, .int x2, .long l3, .retAddr 2, .int x5, .long l6, .retAddr 2, .int x8, v9] [] h Q := by
  refine st_iload (pc' := 46) rfl rfl rfl ?_
  exact st_if_lt (pc' := 49) rfl rfl kt kf
theorem B_Ce_bringTo_49 {d : Nat} {h : PH} {Q : PQ} {r0 : Nat} {r1 : Nat} {x2 : Int32} {l3 : Int64} {x5 : Int32} {l6 : Int64} {x8 : Int32} {v9 : Value} {a0 : Nat} {n1 : Nat} (hs0 : h_sh h r0 = some (0, 1)) (hr1 : h_r h r0 6 = some a0) (hs2 : h_sh h a0 = some (1, n1)) (hb3 : vp_in x5 n1) (k : wpx d P_Ce_bringTo 58 [.ref r0, .ref r1, .int x2, .long l3, .retAddr 2, .int x5, .long l6, .retAddr 2, .int x8, .int (h_i h a0 x5.toNatClampNeg)] [] h Q) : wpx d P_Ce_bringTo 49 [.ref r0, .ref r1, .int x2, .long l3, .retAddr 2, .int x5, .long l6, .retAddr 2, .int x8, v9] [] h Q := by
  refine st_aload (pc' := 50) rfl rfl rfl ?_
  refine st_getfr (x := some a0) (Or.inl rfl) rfl hs0 rfl hr1 (pc' := 53) rfl ?_
  refine st_iload (pc' := 55) rfl rfl rfl ?_
  refine st_iaload rfl hs2 hb3 (j := x5.toNatClampNeg) rfl (pc' := 56) rfl ?_
  refine st_istore (pc' := 58) (ls' := [.ref r0, .ref r1, .int x2, .long l3, .retAddr 2, .int x5, .long l6, .retAddr 2, .int x8, .int (h_i h a0 x5.toNatClampNeg)]) rfl rfl (Nat.le_of_ble_eq_true rfl) rfl ?_
  exact k
theorem B_Ce_bringTo_58 {d : Nat} {h : PH} {Q : PQ} {r0 : Nat} {r1 : Nat} {x2 : Int32} {l3 : Int64} {x5 : Int32} {l6 : Int64} {x8 : Int32} {x9 : Int32} {a0 : Nat} {n1 : Nat} (hs0 : h_sh h r0 = some (0, 1)) (hr1 : h_r h r0 6 = some a0) (hs2 : h_sh h a0 = some (1, n1)) (hb3 : vp_in (x5 + (1 : Int32)) n1) (kt : (h_i h a0 (x5 + (1 : Int32)).toNatClampNeg) ≤ x9 → wpx d P_Ce_bringTo 125 [.ref r0, .ref r1, .int x2, .long l3, .retAddr 2, .int x5, .long l6, .retAddr 2, .int x8, .int x9] [] h Q) (kf : ¬ ((h_i h a0 (x5 + (1 : Int32)).toNatClampNeg) ≤ x9) → wpx d P_Ce_bringTo 72 [.ref r0, .ref r1, .int x2, .long l3, .retAddr 2, .int x5, .long l6, .retAddr 2, .int x8, .int x9] [] h Q) : wpx d P_Ce_bringTo 58 [.ref r0, .ref r1, .int x2, .long l3, .retAddr 2, .int x5, .long l6, .retAddr 2, .int x8, .int x9] [] h Q := by
  refine st_iload (pc' := 60) rfl rfl rfl ?_
  refine st_aload (pc' := 61) rfl rfl rfl ?_
  refine st_getfr (x := some a0) (Or.inl rfl) rfl hs0 rfl hr1 (pc' := 64) rfl ?_
  refine st_iload (pc' := 66) rfl rfl rfl ?_
  refine st_ipush (pc' := 67) (v := 1) rfl rfl (by decide) ?_
  refine st_iadd (pc' := 68) rfl rfl ?_
  refine st_iaload rfl hs2 hb3 (j := (x5 + (1 : Int32)).toNatClampNeg) rfl (pc' := 69) rfl ?_
  exact st_icmp_ge (pc' := 72) rfl rfl kt kf
theorem B_Ce_bringTo_72 {d : Nat} {h : PH} {Q : PQ} {r0 : Nat} {r1 : Nat} {x2 : Int32} {l3 : Int64} {x5 : Int32} {l6 : Int64} {x8 : Int32} {x9 : Int32} {a0 : Nat} {a1 : Nat} {n2 : Nat} {n3 : Nat} (hs0 : h_sh h r0 = some (0, 1)) (hr1 : h_r h r0 2 = some a0) (hr2 : h_r h r0 8 = some a1) (hs3 : h_sh h a1 = some (1, n2)) (hb4 : vp_in x9 n2) (hs5 : h_sh h a0 = some (4, n3)) (hb6 : vp_in (((h_i h a1 x9.toNatClampNeg) * (11 : Int32)) + x8) n3) (kt : (lg_cmp l6 (h_l h a0 (((h_i h a1 x9.toNatClampNeg) * (11 : Int32)) + x8).toNatClampNeg)) < 0 → wpx d P_Ce_bringTo 125 [.ref r0, .ref r1, .int x2, .long l3, .retAddr 2, .int x5, .long l6, .retAddr 2, .int x8, .int x9] [] h Q) (kf : ¬ ((lg_cmp l6 (h_l h a0 (((h_i h a1 x9.toNatClampNeg) * (11 : Int32)) + x8).toNatClampNeg)) < 0) → wpx d P_Ce_bringTo 96 [.ref r0, .ref r1, .int x2, .long l3, .retAddr 2, .int x5, .long l6, .retAddr 2, .int x8, .int x9] [] h Q) : wpx d P_Ce_bringTo 72 [.ref r0, .ref r1, .int x2, .long l3, .retAddr 2, .int x5, .long l6, .retAddr 2, .int x8, .int x9] [] h Q := by
  refine st_lload (pc' := 74) rfl rfl rfl rfl ?_
  refine st_aload (pc' := 75) rfl rfl rfl ?_
  refine st_getfr (x := some a0) (Or.inl rfl) rfl hs0 rfl hr1 (pc' := 78) rfl ?_
  refine st_aload (pc' := 79) rfl rfl rfl ?_
  refine st_getfr (x := some a1) (Or.inl rfl) rfl hs0 rfl hr2 (pc' := 82) rfl ?_
  refine st_iload (pc' := 84) rfl rfl rfl ?_
  refine st_iaload rfl hs3 hb4 (j := x9.toNatClampNeg) rfl (pc' := 85) rfl ?_
  refine st_ipush (pc' := 87) (v := 11) rfl rfl (by decide) ?_
  refine st_imul (pc' := 88) rfl rfl ?_
  refine st_iload (pc' := 90) rfl rfl rfl ?_
  refine st_iadd (pc' := 91) rfl rfl ?_
  refine st_laload rfl hs5 hb6 (j := (((h_i h a1 x9.toNatClampNeg) * (11 : Int32)) + x8).toNatClampNeg) rfl (pc' := 92) rfl ?_
  refine st_lcmp (pc' := 93) rfl rfl ?_
  exact st_if_lt (pc' := 96) rfl rfl kt kf
theorem B_Ce_bringTo_96 {d : Nat} {h : PH} {Q : PQ} {r0 : Nat} {r1 : Nat} {x2 : Int32} {l3 : Int64} {x5 : Int32} {l6 : Int64} {x8 : Int32} {x9 : Int32} {a0 : Nat} {a1 : Nat} {n2 : Nat} {n3 : Nat} (hs0 : h_sh h r0 = some (0, 1)) (hr1 : h_r h r0 2 = some a0) (hr2 : h_r h r0 8 = some a1) (hs3 : h_sh h a1 = some (1, n2)) (hb4 : vp_in x9 n2) (hs5 : h_sh h a0 = some (4, n3)) (hb6 : vp_in (((h_i h a1 x9.toNatClampNeg) * (11 : Int32)) + x8) n3) (k : wpx d P_Ce_bringTo 58 [.ref r0, .ref r1, .int x2, .long l3, .retAddr 2, .int x5, .long (l6 - (h_l h a0 (((h_i h a1 x9.toNatClampNeg) * (11 : Int32)) + x8).toNatClampNeg)), .retAddr 2, .int x8, .int (x9 + 1)] [] h Q) : wpx d P_Ce_bringTo 96 [.ref r0, .ref r1, .int x2, .long l3, .retAddr 2, .int x5, .long l6, .retAddr 2, .int x8, .int x9] [] h Q := by
  refine st_lload (pc' := 98) rfl rfl rfl rfl ?_
  refine st_aload (pc' := 99) rfl rfl rfl ?_
  refine st_getfr (x := some a0) (Or.inl rfl) rfl hs0 rfl hr1 (pc' := 102) rfl ?_
  refine st_aload (pc' := 103) rfl rfl rfl ?_
  refine st_getfr (x := some a1) (Or.inl rfl) rfl hs0 rfl hr2 (pc' := 106) rfl ?_
  refine st_iload (pc' := 108) rfl rfl rfl ?_
  refine st_iaload rfl hs3 hb4 (j := x9.toNatClampNeg) rfl (pc' := 109) rfl ?_
  refine st_ipush (pc' := 111) (v := 11) rfl rfl (by decide) ?_
  refine st_imul (pc' := 112) rfl rfl ?_
  refine st_iload (pc' := 114) rfl rfl rfl ?_
  refine st_iadd (pc' := 115) rfl rfl ?_
  refine st_laload rfl hs5 hb6 (j := (((h_i h a1 x9.toNatClampNeg) * (11 : Int32)) + x8).toNatClampNeg) rfl (pc' := 116) rfl ?_
  refine st_lsub (pc' := 117) rfl rfl ?_
  refine st_lstore (pc' := 119) (ls' := [.ref r0, .ref r1, .int x2, .long l3, .retAddr 2, .int x5, .long (l6 - (h_l h a0 (((h_i h a1 x9.toNatClampNeg) * (11 : Int32)) + x8).toNatClampNeg)), .retAddr 2, .int x8, .int x9]) rfl rfl (Nat.le_of_ble_eq_true rfl) rfl ?_
  refine st_iinc (pc' := 122) (v := 1) (ls' := [.ref r0, .ref r1, .int x2, .long l3, .retAddr 2, .int x5, .long (l6 - (h_l h a0 (((h_i h a1 x9.toNatClampNeg) * (11 : Int32)) + x8).toNatClampNeg)), .retAddr 2, .int x8, .int (x9 + 1)]) rfl rfl rfl (by decide) rfl ?_
  exact st_goto rfl k
theorem B_Ce_bringTo_125 {d : Nat} {h : PH} {Q : PQ} {r0 : Nat} {r1 : Nat} {x2 : Int32} {l3 : Int64} {x5 : Int32} {l6 : Int64} {x8 : Int32} {x9 : Int32} {a0 : Nat} {n1 : Nat} (hs0 : h_sh h r0 = some (0, 1)) (hr1 : h_r h r0 6 = some a0) (hs2 : h_sh h a0 = some (1, n1)) (hb3 : vp_in (x5 + (1 : Int32)) n1) (kt : x9 < (h_i h a0 (x5 + (1 : Int32)).toNatClampNeg) → wpx d P_Ce_bringTo 141 [.ref r0, .ref r1, .int x2, .long l3, .retAddr 2, .int x5, .long l6, .retAddr 2, .int x8, .int x9] [] h Q) (kf : ¬ (x9 < (h_i h a0 (x5 + (1 : Int32)).toNatClampNeg)) → wpx d P_Ce_bringTo 139 [.ref r0, .ref r1, .int x2, .long l3, .retAddr 2, .int x5, .long l6, .retAddr 2, .int x8, .int x9] [] h Q) : wpx d P_Ce_bringTo 125 [.ref r0, .ref r1, .int x2, .long l3, .retAddr 2, .int x5, .long l6, .retAddr 2, .int x8, .int x9] [] h Q := by
  refine st_iload (pc' := 127) rfl rfl rfl ?_
  refine st_aload (pc' := 128) rfl rfl rfl ?_
  refine st_getfr (x := some a0) (Or.inl rfl) rfl hs0 rfl hr1 (pc' := 131) rfl ?_
  refine st_iload (pc' := 133) rfl rfl rfl ?_
  refine st_ipush (pc' := 134) (v := 1) rfl rfl (by decide) ?_
  refine st_iadd (pc' := 135) rfl rfl ?_
  refine st_iaload rfl hs2 hb3 (j := (x5 + (1 : Int32)).toNatClampNeg) rfl (pc' := 136) rfl ?_
  exact st_icmp_lt (pc' := 139) rfl rfl kt kf
theorem B_Ce_bringTo_139 {d : Nat} {h : PH} {Q : PQ} {r0 : Nat} {r1 : Nat} {x2 : Int32} {l3 : Int64} {x5 : Int32} {l6 : Int64} {x8 : Int32} {x9 : Int32}  (k : Q (some (.int 0)) h) : wpx d P_Ce_bringTo 139 [.ref r0, .ref r1, .int x2, .long l3, .retAddr 2, .int x5, .long l6, .retAddr 2, .int x8, .int x9] [] h Q := by
  refine st_ipush (pc' := 140) (v := 0) rfl rfl (by decide) ?_
  exact st_ireturn (ty := .boolean) rfl rfl (by decide) k
theorem B_Ce_bringTo_141 {d : Nat} {h : PH} {Q : PQ} {r0 : Nat} {r1 : Nat} {x2 : Int32} {l3 : Int64} {x5 : Int32} {l6 : Int64} {x8 : Int32} {x9 : Int32} {a0 : Nat} {n1 : Nat} (hs0 : h_sh h r0 = some (0, 1)) (hr1 : h_r h r0 7 = some a0) (hs2 : h_sh h a0 = some (2, n1)) (hb3 : vp_in x9 n1) (hs4 : h_sh h r1 = some (0, 10)) (k : wpm d 107 [.ref r1, .int (h_i h a0 x9.toNatClampNeg)] h (fun r h' => wpx d P_Ce_bringTo 152 [.ref r0, .ref r1, .int x2, .long l3, .retAddr 2, .int x5, .long l6, .retAddr 2, .int x8, .int x9] (r.toList ++ []) h' Q)) : wpx d P_Ce_bringTo 141 [.ref r0, .ref r1, .int x2, .long l3, .retAddr 2, .int x5, .long l6, .retAddr 2, .int x8, .int x9] [] h Q := by
  refine st_aload (pc' := 142) rfl rfl rfl ?_
  refine st_aload (pc' := 143) rfl rfl rfl ?_
  refine st_getfr (x := some a0) (Or.inl rfl) rfl hs0 rfl hr1 (pc' := 146) rfl ?_
  refine st_iload (pc' := 148) rfl rfl rfl ?_
  refine st_baload rfl (Or.inl hs2) hb3 (j := x9.toNatClampNeg) rfl (pc' := 149) rfl ?_
  exact st_call (pc' := 152) (as := [.ref r1, .int (h_i h a0 x9.toNatClampNeg)]) (rest := []) rfl rfl (Nat.le_of_ble_eq_true rfl) rfl rfl (Nat.le_of_ble_eq_true rfl) (kd := 1) (o := 10) rfl rfl (beq_iff_eq.mpr hs4) k
theorem B_Ce_bringTo_152 {d : Nat} {h : PH} {Q : PQ} {r0 : Nat} {r1 : Nat} {x2 : Int32} {l3 : Int64} {x5 : Int32} {l6 : Int64} {x8 : Int32} {x9 : Int32} {a0 : Nat} {n1 : Nat} (hs0 : h_sh h r0 = some (0, 1)) (hr1 : h_r h r0 8 = some a0) (hs2 : h_sh h a0 = some (1, n1)) (hb3 : vp_in x9 n1) (k : wpx d P_Ce_bringTo 44 [.ref r0, .ref r1, .int x2, .long l3, .retAddr 2, .int (h_i h a0 x9.toNatClampNeg), .long l6, .retAddr 2, .int (x8 + (-1)), .int x9] [] h Q) : wpx d P_Ce_bringTo 152 [.ref r0, .ref r1, .int x2, .long l3, .retAddr 2, .int x5, .long l6, .retAddr 2, .int x8, .int x9] [] h Q := by
  refine st_aload (pc' := 153) rfl rfl rfl ?_
  refine st_getfr (x := some a0) (Or.inl rfl) rfl hs0 rfl hr1 (pc' := 156) rfl ?_
  refine st_iload (pc' := 158) rfl rfl rfl ?_
  refine st_iaload rfl hs2 hb3 (j := x9.toNatClampNeg) rfl (pc' := 159) rfl ?_
  refine st_istore (pc' := 161) (ls' := [.ref r0, .ref r1, .int x2, .long l3, .retAddr 2, .int (h_i h a0 x9.toNatClampNeg), .long l6, .retAddr 2, .int x8, .int x9]) rfl rfl (Nat.le_of_ble_eq_true rfl) rfl ?_
  refine st_iinc (pc' := 164) (v := (-1)) (ls' := [.ref r0, .ref r1, .int x2, .long l3, .retAddr 2, .int (h_i h a0 x9.toNatClampNeg), .long l6, .retAddr 2, .int (x8 + (-1)), .int x9]) rfl rfl rfl (by decide) rfl ?_
  exact st_goto rfl k
theorem B_Ce_bringTo_167 {d : Nat} {h : PH} {Q : PQ} {r0 : Nat} {r1 : Nat} {x2 : Int32} {l3 : Int64} {x5 : Int32} {l6 : Int64} {x8 : Int32} {v9 : Value}  (k : Q (some (.int 1)) h) : wpx d P_Ce_bringTo 167 [.ref r0, .ref r1, .int x2, .long l3, .retAddr 2, .int x5, .long l6, .retAddr 2, .int x8, v9] [] h Q := by
  refine st_ipush (pc' := 168) (v := 1) rfl rfl (by decide) ?_
  exact st_ireturn (ty := .boolean) rfl rfl (by decide) k
theorem B_Ce_rankOf_0 {d : Nat} {h : PH} {Q : PQ} {r0 : Nat} {r1 : Nat} {v2 : Value} {v3 : Value} {v4 : Value} {v5 : Value} {v6 : Value} {v7 : Value}  (k : wpx d P_Ce_rankOf 7 [.ref r0, .ref r1, .int 0, .long 0, .retAddr 2, .int 0, v6, v7] [] h Q) : wpx d P_Ce_rankOf 0 [.ref r0, .ref r1, v2, v3, v4, v5, v6, v7] [] h Q := by
  refine st_ipush (pc' := 1) (v := 0) rfl rfl (by decide) ?_
  refine st_istore (pc' := 2) (ls' := [.ref r0, .ref r1, .int 0, v3, v4, v5, v6, v7]) rfl rfl (Nat.le_of_ble_eq_true rfl) rfl ?_
  refine st_lpush (pc' := 3) (v := 0) rfl rfl (by decide) ?_
  refine st_lstore (pc' := 4) (ls' := [.ref r0, .ref r1, .int 0, .long 0, .retAddr 2, v5, v6, v7]) rfl rfl (Nat.le_of_ble_eq_true rfl) rfl ?_
  refine st_ipush (pc' := 5) (v := 0) rfl rfl (by decide) ?_
  refine st_istore (pc' := 7) (ls' := [.ref r0, .ref r1, .int 0, .long 0, .retAddr 2, .int 0, v6, v7]) rfl rfl (Nat.le_of_ble_eq_true rfl) rfl ?_
  exact k
theorem B_Ce_rankOf_7 {d : Nat} {h : PH} {Q : PQ} {r0 : Nat} {r1 : Nat} {x2 : Int32} {l3 : Int64} {x5 : Int32} {v6 : Value} {v7 : Value} (hs0 : h_sh h r1 = some (0, 10)) (kt : (h_i h r1 1) ≤ x5 → wpx d P_Ce_rankOf 147 [.ref r0, .ref r1, .int x2, .long l3, .retAddr 2, .int x5, v6, v7] [] h Q) (kf : ¬ ((h_i h r1 1) ≤ x5) → wpx d P_Ce_rankOf 16 [.ref r0, .ref r1, .int x2, .long l3, .retAddr 2, .int x5, v6, v7] [] h Q) : wpx d P_Ce_rankOf 7 [.ref r0, .ref r1, .int x2, .long l3, .retAddr 2, .int x5, v6, v7] [] h Q := by
  refine st_iload (pc' := 9) rfl rfl rfl ?_
  refine st_aload (pc' := 10) rfl rfl rfl ?_
  refine st_getfi (Or.inr rfl) rfl hs0 rfl (pc' := 13) rfl ?_
  exact st_icmp_ge (pc' := 16) rfl rfl kt kf
theorem B_Ce_rankOf_16 {d : Nat} {h : PH} {Q : PQ} {r0 : Nat} {r1 : Nat} {x2 : Int32} {l3 : Int64} {x5 : Int32} {v6 : Value} {v7 : Value}  (kt : (10 : Int32) ≤ x5 → wpx d P_Ce_rankOf 147 [.ref r0, .ref r1, .int x2, .long l3, .retAddr 2, .int x5, v6, v7] [] h Q) (kf : ¬ ((10 : Int32) ≤ x5) → wpx d P_Ce_rankOf 23 [.ref r0, .ref r1, .int x2, .long l3, .retAddr 2, .int x5, v6, v7] [] h Q) : wpx d P_Ce_rankOf 16 [.ref r0, .ref r1, .int x2, .long l3, .retAddr 2, .int x5, v6, v7] [] h Q := by
  refine st_iload (pc' := 18) rfl rfl rfl ?_
  refine st_ipush (pc' := 20) (v := 10) rfl rfl (by decide) ?_
  exact st_icmp_ge (pc' := 23) rfl rfl kt kf
theorem B_Ce_rankOf_23 {d : Nat} {h : PH} {Q : PQ} {r0 : Nat} {r1 : Nat} {x2 : Int32} {l3 : Int64} {x5 : Int32} {v6 : Value} {v7 : Value} {a0 : Nat} {n1 : Nat} (hs0 : h_sh h r1 = some (0, 10)) (hs1 : h_sh h r0 = some (0, 1)) (hr2 : h_r h r0 6 = some a0) (hs3 : h_sh h a0 = some (1, n1)) (hb4 : vp_in x2 n1) (k : wpx d P_Ce_rankOf 42 [.ref r0, .ref r1, .int x2, .long l3, .retAddr 2, .int x5, .int (((h_i h r1 1) - (1 : Int32)) - x5), .int (h_i h a0 x2.toNatClampNeg)] [] h Q) : wpx d P_Ce_rankOf 23 [.ref r0, .ref r1, .int x2, .long l3, .retAddr 2, .int x5, v6, v7] [] h Q := by
  refine st_aload (pc' := 24) rfl rfl rfl ?_
  refine st_getfi (Or.inr rfl) rfl hs0 rfl (pc' := 27) rfl ?_
  refine st_ipush (pc' := 28) (v := 1) rfl rfl (by decide) ?_
  refine st_isub (pc' := 29) rfl rfl ?_
  refine st_iload (pc' := 31) rfl rfl rfl ?_
  refine st_isub (pc' := 32) rfl rfl ?_
  refine st_istore (pc' := 34) (ls' := [.ref r0, .ref r1, .int x2, .long l3, .retAddr 2, .int x5, .int (((h_i h r1 1) - (1 : Int32)) - x5), v7]) rfl rfl (Nat.le_of_ble_eq_true rfl) rfl ?_
  refine st_aload (pc' := 35) rfl rfl rfl ?_
  refine st_getfr (x := some a0) (Or.inl rfl) rfl hs1 rfl hr2 (pc' := 38) rfl ?_
  refine st_iload (pc' := 39) rfl rfl rfl ?_
  refine st_iaload rfl hs3 hb4 (j := x2.toNatClampNeg) rfl (pc' := 40) rfl ?_
  refine st_istore (pc' := 42) (ls' := [.ref r0, .ref r1, .int x2, .long l3, .retAddr 2, .int x5, .int (((h_i h r1 1) - (1 : Int32)) - x5), .int (h_i h a0 x2.toNatClampNeg)]) rfl rfl (Nat.le_of_ble_eq_true rfl) rfl ?_
  exact k
theorem B_Ce_rankOf_42 {d : Nat} {h : PH} {Q : PQ} {r0 : Nat} {r1 : Nat} {x2 : Int32} {l3 : Int64} {x5 : Int32} {x6 : Int32} {x7 : Int32} {a0 : Nat} {n1 : Nat} (hs0 : h_sh h r0 = some (0, 1)) (hr1 : h_r h r0 6 = some a0) (hs2 : h_sh h a0 = some (1, n1)) (hb3 : vp_in (x2 + (1 : Int32)) n1) (kt : (h_i h a0 (x2 + (1 : Int32)).toNatClampNeg) ≤ x7 → wpx d P_Ce_rankOf 99 [.ref r0, .ref r1, .int x2, .long l3, .retAddr 2, .int x5, .int x6, .int x7] [] h Q) (kf : ¬ ((h_i h a0 (x2 + (1 : Int32)).toNatClampNeg) ≤ x7) → wpx d P_Ce_rankOf 55 [.ref r0, .ref r1, .int x2, .long l3, .retAddr 2, .int x5, .int x6, .int x7] [] h Q) : wpx d P_Ce_rankOf 42 [.ref r0, .ref r1, .int x2, .long l3, .retAddr 2, .int x5, .int x6, .int x7] [] h Q := by
  refine st_iload (pc' := 44) rfl rfl rfl ?_
  refine st_aload (pc' := 45) rfl rfl rfl ?_
  refine st_getfr (x := some a0) (Or.inl rfl) rfl hs0 rfl hr1 (pc' := 48) rfl ?_
  refine st_iload (pc' := 49) rfl rfl rfl ?_
  refine st_ipush (pc' := 50) (v := 1) rfl rfl (by decide) ?_
  refine st_iadd (pc' := 51) rfl rfl ?_
  refine st_iaload rfl hs2 hb3 (j := (x2 + (1 : Int32)).toNatClampNeg) rfl (pc' := 52) rfl ?_
  exact st_icmp_ge (pc' := 55) rfl rfl kt kf
theorem B_Ce_rankOf_55 {d : Nat} {h : PH} {Q : PQ} {r0 : Nat} {r1 : Nat} {x2 : Int32} {l3 : Int64} {x5 : Int32} {x6 : Int32} {x7 : Int32} {a0 : Nat} {n1 : Nat} {a2 : Nat} {n3 : Nat} (hs0 : h_sh h r0 = some (0, 1)) (hr1 : h_r h r0 7 = some a0) (hs2 : h_sh h a0 = some (2, n1)) (hb3 : vp_in x7 n1) (hs4 : h_sh h r1 = some (0, 10)) (hr5 : h_r h r1 0 = some a2) (hs6 : h_sh h a2 = some (2, n3)) (hb7 : vp_in x5 n3) (kt : (h_i h a2 x5.toNatClampNeg) ≤ (h_i h a0 x7.toNatClampNeg) → wpx d P_Ce_rankOf 99 [.ref r0, .ref r1, .int x2, .long l3, .retAddr 2, .int x5, .int x6, .int x7] [] h Q) (kf : ¬ ((h_i h a2 x5.toNatClampNeg) ≤ (h_i h a0 x7.toNatClampNeg)) → wpx d P_Ce_rankOf 72 [.ref r0, .ref r1, .int x2, .long l3, .retAddr 2, .int x5, .int x6, .int x7] [] h Q) : wpx d P_Ce_rankOf 55 [.ref r0, .ref r1, .int x2, .long l3, .retAddr 2, .int x5, .int x6, .int x7] [] h Q := by
  refine st_aload (pc' := 56) rfl rfl rfl ?_
  refine st_getfr (x := some a0) (Or.inl rfl) rfl hs0 rfl hr1 (pc' := 59) rfl ?_
  refine st_iload (pc' := 61) rfl rfl rfl ?_
  refine st_baload rfl (Or.inl hs2) hb3 (j := x7.toNatClampNeg) rfl (pc' := 62) rfl ?_
  refine st_aload (pc' := 63) rfl rfl rfl ?_
  refine st_getfr (x := some a2) (Or.inr rfl) rfl hs4 rfl hr5 (pc' := 66) rfl ?_
  refine st_iload (pc' := 68) rfl rfl rfl ?_
  refine st_baload rfl (Or.inl hs6) hb7 (j := x5.toNatClampNeg) rfl (pc' := 69) rfl ?_
  exact st_icmp_ge (pc' := 72) rfl rfl kt kf
theorem B_Ce_rankOf_72 {d : Nat} {h : PH} {Q : PQ} {r0 : Nat} {r1 : Nat} {x2 : Int32} {l3 : Int64} {x5 : Int32} {x6 : Int32} {x7 : Int32} {a0 : Nat} {a1 : Nat} {n2 : Nat} {n3 : Nat} (hs0 : h_sh h r0 = some (0, 1)) (hr1 : h_r h r0 2 = some a0) (hr2 : h_r h r0 8 = some a1) (hs3 : h_sh h a1 = some (1, n2)) (hb4 : vp_in x7 n2) (hs5 : h_sh h a0 = some (4, n3)) (hb6 : vp_in (((h_i h a1 x7.toNatClampNeg) * (11 : Int32)) + x6) n3) (k : wpx d P_Ce_rankOf 42 [.ref r0, .ref r1, .int x2, .long (l3 + (h_l h a0 (((h_i h a1 x7.toNatClampNeg) * (11 : Int32)) + x6).toNatClampNeg)), .retAddr 2, .int x5, .int x6, .int (x7 + 1)] [] h Q) : wpx d P_Ce_rankOf 72 [.ref r0, .ref r1, .int x2, .long l3, .retAddr 2, .int x5, .int x6, .int x7] [] h Q := by
  refine st_lload (pc' := 73) rfl rfl rfl rfl ?_
  refine st_aload (pc' := 74) rfl rfl rfl ?_
  refine st_getfr (x := some a0) (Or.inl rfl) rfl hs0 rfl hr1 (pc' := 77) rfl ?_
  refine st_aload (pc' := 78) rfl rfl rfl ?_
  refine st_getfr (x := some a1) (Or.inl rfl) rfl hs0 rfl hr2 (pc' := 81) rfl ?_
  refine st_iload (pc' := 83) rfl rfl rfl ?_
  refine st_iaload rfl hs3 hb4 (j := x7.toNatClampNeg) rfl (pc' := 84) rfl ?_
  refine st_ipush (pc' := 86) (v := 11) rfl rfl (by decide) ?_
  refine st_imul (pc' := 87) rfl rfl ?_
  refine st_iload (pc' := 89) rfl rfl rfl ?_
  refine st_iadd (pc' := 90) rfl rfl ?_
  refine st_laload rfl hs5 hb6 (j := (((h_i h a1 x7.toNatClampNeg) * (11 : Int32)) + x6).toNatClampNeg) rfl (pc' := 91) rfl ?_
  refine st_ladd (pc' := 92) rfl rfl ?_
  refine st_lstore (pc' := 93) (ls' := [.ref r0, .ref r1, .int x2, .long (l3 + (h_l h a0 (((h_i h a1 x7.toNatClampNeg) * (11 : Int32)) + x6).toNatClampNeg)), .retAddr 2, .int x5, .int x6, .int x7]) rfl rfl (Nat.le_of_ble_eq_true rfl) rfl ?_
  refine st_iinc (pc' := 96) (v := 1) (ls' := [.ref r0, .ref r1, .int x2, .long (l3 + (h_l h a0 (((h_i h a1 x7.toNatClampNeg) * (11 : Int32)) + x6).toNatClampNeg)), .retAddr 2, .int x5, .int x6, .int (x7 + 1)]) rfl rfl rfl (by decide) rfl ?_
  exact st_goto rfl k
theorem B_Ce_rankOf_99 {d : Nat} {h : PH} {Q : PQ} {r0 : Nat} {r1 : Nat} {x2 : Int32} {l3 : Int64} {x5 : Int32} {x6 : Int32} {x7 : Int32} {a0 : Nat} {n1 : Nat} (hs0 : h_sh h r0 = some (0, 1)) (hr1 : h_r h r0 6 = some a0) (hs2 : h_sh h a0 = some (1, n1)) (hb3 : vp_in (x2 + (1 : Int32)) n1) (kt : (h_i h a0 (x2 + (1 : Int32)).toNatClampNeg) ≤ x7 → wpx d P_Ce_rankOf 129 [.ref r0, .ref r1, .int x2, .long l3, .retAddr 2, .int x5, .int x6, .int x7] [] h Q) (kf : ¬ ((h_i h a0 (x2 + (1 : Int32)).toNatClampNeg) ≤ x7) → wpx d P_Ce_rankOf 112 [.ref r0, .ref r1, .int x2, .long l3, .retAddr 2, .int x5, .int x6, .int x7] [] h Q) : wpx d P_Ce_rankOf 99 [.ref r0, .ref r1, .int x2, .long l3, .retAddr 2, .int x5, .int x6, .int x7] [] h Q := by
  refine st_iload (pc' := 101) rfl rfl rfl ?_
  refine st_aload (pc' := 102) rfl rfl rfl ?_
  refine st_getfr (x := some a0) (Or.inl rfl) rfl hs0 rfl hr1 (pc' := 105) rfl ?_
  refine st_iload (pc' := 106) rfl rfl rfl ?_
  refine st_ipush (pc' := 107) (v := 1) rfl rfl (by decide) ?_
  refine st_iadd (pc' := 108) rfl rfl ?_
  refine st_iaload rfl hs2 hb3 (j := (x2 + (1 : Int32)).toNatClampNeg) rfl (pc' := 109) rfl ?_
  exact st_icmp_ge (pc' := 112) rfl rfl kt kf
theorem B_Ce_rankOf_112 {d : Nat} {h : PH} {Q : PQ} {r0 : Nat} {r1 : Nat} {x2 : Int32} {l3 : Int64} {x5 : Int32} {x6 : Int32} {x7 : Int32} {a0 : Nat} {n1 : Nat} {a2 : Nat} {n3 : Nat} (hs0 : h_sh h r0 = some (0, 1)) (hr1 : h_r h r0 7 = some a0) (hs2 : h_sh h a0 = some (2, n1)) (hb3 : vp_in x7 n1) (hs4 : h_sh h r1 = some (0, 10)) (hr5 : h_r h r1 0 = some a2) (hs6 : h_sh h a2 = some (2, n3)) (hb7 : vp_in x5 n3) (kt : (h_i h a0 x7.toNatClampNeg) = (h_i h a2 x5.toNatClampNeg) → wpx d P_Ce_rankOf 133 [.ref r0, .ref r1, .int x2, .long l3, .retAddr 2, .int x5, .int x6, .int x7] [] h Q) (kf : ¬ ((h_i h a0 x7.toNatClampNeg) = (h_i h a2 x5.toNatClampNeg)) → wpx d P_Ce_rankOf 129 [.ref r0, .ref r1, .int x2, .long l3, .retAddr 2, .int x5, .int x6, .int x7] [] h Q) : wpx d P_Ce_rankOf 112 [.ref r0, .ref r1, .int x2, .long l3, .retAddr 2, .int x5, .int x6, .int x7] [] h Q := by
  refine st_aload (pc' := 113) rfl rfl rfl ?_
  refine st_getfr (x := some a0) (Or.inl rfl) rfl hs0 rfl hr1 (pc' := 116) rfl ?_
  refine st_iload (pc' := 118) rfl rfl rfl ?_
  refine st_baload rfl (Or.inl hs2) hb3 (j := x7.toNatClampNeg) rfl (pc' := 119) rfl ?_
  refine st_aload (pc' := 120) rfl rfl rfl ?_
  refine st_getfr (x := some a2) (Or.inr rfl) rfl hs4 rfl hr5 (pc' := 123) rfl ?_
  refine st_iload (pc' := 125) rfl rfl rfl ?_
  refine st_baload rfl (Or.inl hs6) hb7 (j := x5.toNatClampNeg) rfl (pc' := 126) rfl ?_
  exact st_icmp_eq (pc' := 129) rfl rfl kt kf
theorem B_Ce_rankOf_129 {d : Nat} {h : PH} {Q : PQ} {r0 : Nat} {r1 : Nat} {x2 : Int32} {l3 : Int64} {x5 : Int32} {x6 : Int32} {x7 : Int32}  (k : Q (some (.long (-1))) h) : wpx d P_Ce_rankOf 129 [.ref r0, .ref r1, .int x2, .long l3, .retAddr 2, .int x5, .int x6, .int x7] [] h Q := by
  refine st_ldc2 (pc' := 132) (v := (-1)) rfl rfl (by decide) ?_
  exact st_lreturn rfl k
theorem B_Ce_rankOf_133 {d : Nat} {h : PH} {Q : PQ} {r0 : Nat} {r1 : Nat} {x2 : Int32} {l3 : Int64} {x5 : Int32} {x6 : Int32} {x7 : Int32} {a0 : Nat} {n1 : Nat} (hs0 : h_sh h r0 = some (0, 1)) (hr1 : h_r h r0 8 = some a0) (hs2 : h_sh h a0 = some (1, n1)) (hb3 : vp_in x7 n1) (k : wpx d P_Ce_rankOf 7 [.ref r0, .ref r1, .int (h_i h a0 x7.toNatClampNeg), .long l3, .retAddr 2, .int (x5 + 1), .int x6, .int x7] [] h Q) : wpx d P_Ce_rankOf 133 [.ref r0, .ref r1, .int x2, .long l3, .retAddr 2, .int x5, .int x6, .int x7] [] h Q := by
  refine st_aload (pc' := 134) rfl rfl rfl ?_
  refine st_getfr (x := some a0) (Or.inl rfl) rfl hs0 rfl hr1 (pc' := 137) rfl ?_
  refine st_iload (pc' := 139) rfl rfl rfl ?_
  refine st_iaload rfl hs2 hb3 (j := x7.toNatClampNeg) rfl (pc' := 140) rfl ?_
  refine st_istore (pc' := 141) (ls' := [.ref r0, .ref r1, .int (h_i h a0 x7.toNatClampNeg), .long l3, .retAddr 2, .int x5, .int x6, .int x7]) rfl rfl (Nat.le_of_ble_eq_true rfl) rfl ?_
  refine st_iinc (pc' := 144) (v := 1) (ls' := [.ref r0, .ref r1, .int (h_i h a0 x7.toNatClampNeg), .long l3, .retAddr 2, .int (x5 + 1), .int x6, .int x7]) rfl rfl rfl (by decide) rfl ?_
  exact st_goto rfl k
theorem B_Ce_rankOf_147 {d : Nat} {h : PH} {Q : PQ} {r0 : Nat} {r1 : Nat} {x2 : Int32} {l3 : Int64} {x5 : Int32} {v6 : Value} {v7 : Value} {a0 : Nat} {n1 : Nat} (hs0 : h_sh h r0 = some (0, 1)) (hr1 : h_r h r0 2 = some a0) (hs2 : h_sh h a0 = some (4, n1)) (hb3 : vp_in (x2 * (11 : Int32)) n1) (kt : (lg_cmp (h_l h a0 (x2 * (11 : Int32)).toNatClampNeg) (0 : Int64)) ≤ 0 → wpx d P_Ce_rankOf 165 [.ref r0, .ref r1, .int x2, .long l3, .retAddr 2, .int x5, v6, v7] [] h Q) (kf : ¬ ((lg_cmp (h_l h a0 (x2 * (11 : Int32)).toNatClampNeg) (0 : Int64)) ≤ 0) → wpx d P_Ce_rankOf 161 [.ref r0, .ref r1, .int x2, .long l3, .retAddr 2, .int x5, v6, v7] [] h Q) : wpx d P_Ce_rankOf 147 [.ref r0, .ref r1, .int x2, .long l3, .retAddr 2, .int x5, v6, v7] [] h Q := by
  refine st_aload (pc' := 148) rfl rfl rfl ?_
  refine st_getfr (x := some a0) (Or.inl rfl) rfl hs0 rfl hr1 (pc' := 151) rfl ?_
  refine st_iload (pc' := 152) rfl rfl rfl ?_
  refine st_ipush (pc' := 154) (v := 11) rfl rfl (by decide) ?_
  refine st_imul (pc' := 155) rfl rfl ?_
  refine st_laload rfl hs2 hb3 (j := (x2 * (11 : Int32)).toNatClampNeg) rfl (pc' := 156) rfl ?_
  refine st_lpush (pc' := 157) (v := 0) rfl rfl (by decide) ?_
  refine st_lcmp (pc' := 158) rfl rfl ?_
  exact st_if_le (pc' := 161) rfl rfl kt kf
theorem B_Ce_rankOf_161 {d : Nat} {h : PH} {Q : PQ} {r0 : Nat} {r1 : Nat} {x2 : Int32} {l3 : Int64} {x5 : Int32} {v6 : Value} {v7 : Value}  (k : wpx d P_Ce_rankOf 168 [.ref r0, .ref r1, .int x2, .long l3, .retAddr 2, .int x5, v6, v7] [.long l3] h Q) : wpx d P_Ce_rankOf 161 [.ref r0, .ref r1, .int x2, .long l3, .retAddr 2, .int x5, v6, v7] [] h Q := by
  refine st_lload (pc' := 162) rfl rfl rfl rfl ?_
  exact st_goto rfl k
theorem B_Ce_rankOf_165 {d : Nat} {h : PH} {Q : PQ} {r0 : Nat} {r1 : Nat} {x2 : Int32} {l3 : Int64} {x5 : Int32} {v6 : Value} {v7 : Value}  (k : wpx d P_Ce_rankOf 168 [.ref r0, .ref r1, .int x2, .long l3, .retAddr 2, .int x5, v6, v7] [.long (-1)] h Q) : wpx d P_Ce_rankOf 165 [.ref r0, .ref r1, .int x2, .long l3, .retAddr 2, .int x5, v6, v7] [] h Q := by
  refine st_ldc2 (pc' := 168) (v := (-1)) rfl rfl (by decide) ?_
  exact k
theorem B_Ce_rankOf_168 {d : Nat} {h : PH} {Q : PQ} {r0 : Nat} {r1 : Nat} {x2 : Int32} {l3 : Int64} {x5 : Int32} {v6 : Value} {v7 : Value} {t0 : Int64}  (k : Q (some (.long t0)) h) : wpx d P_Ce_rankOf 168 [.ref r0, .ref r1, .int x2, .long l3, .retAddr 2, .int x5, v6, v7] [.long t0] h Q := by
  exact st_lreturn rfl k
theorem B_Cu_init_0 {d : Nat} {h : PH} {Q : PQ} {r0 : Nat}  (k : wpm d 33 [.ref (h_ct h)] (h_new h (0, 3) (fN 3)) (fun r h' => wpx d P_Cu_init 12 [.ref r0] (r.toList ++ [.ref (h_ct h), .ref r0]) h' Q)) : wpx d P_Cu_init 0 [.ref r0] [] h Q := by
  refine st_aload (pc' := 1) rfl rfl rfl ?_
  refine st_oinit (pc' := 4) rfl rfl (Nat.le_of_ble_eq_true rfl) ?_
  refine st_aload (pc' := 5) rfl rfl rfl ?_
  refine st_new rfl (pc' := 8) rfl ?_
  refine st_dup (pc' := 9) rfl rfl rfl ?_
  exact st_call (pc' := 12) (as := [.ref (h_ct h)]) (rest := [.ref (h_ct h), .ref r0]) rfl rfl (Nat.le_of_ble_eq_true rfl) rfl rfl (Nat.le_of_ble_eq_true rfl) (kd := 2) (o := 3) rfl rfl rfl k
theorem B_Cu_init_12 {d : Nat} {h : PH} {Q : PQ} {r0 : Nat} {q0 : Nat} {q1 : Nat} (hs0 : h_sh h q0 = some (0, 2)) (k : wpm d 68 [.ref (h_ct (w_r h q0 0 (some q1)))] (h_new (w_r h q0 0 (some q1)) (0, 6) (fN 6)) (fun r h' => wpx d P_Cu_init 23 [.ref r0] (r.toList ++ [.ref (h_ct (w_r h q0 0 (some q1))), .ref r0]) h' Q)) : wpx d P_Cu_init 12 [.ref r0] [.ref q1, .ref q0] h Q := by
  refine st_putf (h' := w_r h q0 0 (some q1)) (Or.inr (Or.inr rfl)) rfl hs0 rfl rfl rfl (pc' := 15) rfl ?_
  refine st_aload (pc' := 16) rfl rfl rfl ?_
  refine st_new rfl (pc' := 19) rfl ?_
  refine st_dup (pc' := 20) rfl rfl rfl ?_
  exact st_call (pc' := 23) (as := [.ref (h_ct (w_r h q0 0 (some q1)))]) (rest := [.ref (h_ct (w_r h q0 0 (some q1))), .ref r0]) rfl rfl (Nat.le_of_ble_eq_true rfl) rfl rfl (Nat.le_of_ble_eq_true rfl) (kd := 2) (o := 6) rfl rfl rfl k
theorem B_Cu_init_23 {d : Nat} {h : PH} {Q : PQ} {r0 : Nat} {q0 : Nat} {q1 : Nat} {n0 : Nat} (hs0 : h_sh h q0 = some (0, 2)) (hs1 : h_sh (h_new (w_r h q0 1 (some q1)) (1, 3) 3) r0 = some (0, 2)) (hs2 : h_sh (h_new (w_r (h_new (w_r h q0 1 (some q1)) (1, 3) 3) r0 2 (some (h_ct (w_r h q0 1 (some q1))))) (1, 3) 3) (h_ct (w_r (h_new (w_r h q0 1 (some q1)) (1, 3) 3) r0 2 (some (h_ct (w_r h q0 1 (some q1)))))) = some (1, n0)) (hb3 : vp_in 0 n0) (hb4 : vp_in 1 n0) (hb5 : vp_in 2 n0) (hs6 : h_sh (h_new (w_r (h_new (w_r h q0 1 (some q1)) (1, 3) 3) r0 2 (some (h_ct (w_r h q0 1 (some q1))))) (1, 3) 3) r0 = some (0, 2)) (k : wpx d P_Cu_init 52 [.ref r0] [] (w_r (w_i (w_i (w_i (h_new (w_r (h_new (w_r h q0 1 (some q1)) (1, 3) 3) r0 2 (some (h_ct (w_r h q0 1 (some q1))))) (1, 3) 3) (h_ct (w_r (h_new (w_r h q0 1 (some q1)) (1, 3) 3) r0 2 (some (h_ct (w_r h q0 1 (some q1)))))) 0 (-1)) (h_ct (w_r (h_new (w_r h q0 1 (some q1)) (1, 3) 3) r0 2 (some (h_ct (w_r h q0 1 (some q1)))))) 1 (-1)) (h_ct (w_r (h_new (w_r h q0 1 (some q1)) (1, 3) 3) r0 2 (some (h_ct (w_r h q0 1 (some q1)))))) 2 (-1)) r0 3 (some (h_ct (w_r (h_new (w_r h q0 1 (some q1)) (1, 3) 3) r0 2 (some (h_ct (w_r h q0 1 (some q1)))))))) Q) : wpx d P_Cu_init 23 [.ref r0] [.ref q1, .ref q0] h Q := by
  refine st_putf (h' := w_r h q0 1 (some q1)) (Or.inr (Or.inr rfl)) rfl hs0 rfl rfl rfl (pc' := 26) rfl ?_
  refine st_aload (pc' := 27) rfl rfl rfl ?_
  refine st_ipush (pc' := 28) (v := 3) rfl rfl (by decide) ?_
  refine st_newI rfl (by decide) (j := 3) (by decide) (pc' := 30) rfl ?_
  refine st_putf (h' := w_r (h_new (w_r h q0 1 (some q1)) (1, 3) 3) r0 2 (some (h_ct (w_r h q0 1 (some q1))))) (Or.inr (Or.inr rfl)) rfl hs1 rfl rfl rfl (pc' := 33) rfl ?_
  refine st_aload (pc' := 34) rfl rfl rfl ?_
  refine st_ipush (pc' := 35) (v := 3) rfl rfl (by decide) ?_
  refine st_newI rfl (by decide) (j := 3) (by decide) (pc' := 37) rfl ?_
  refine st_dup (pc' := 38) rfl rfl rfl ?_
  refine st_ipush (pc' := 39) (v := 0) rfl rfl (by decide) ?_
  refine st_ipush (pc' := 40) (v := (-1)) rfl rfl (by decide) ?_
  refine st_iastore rfl hs2 hb3 (j := 0) (by decide) (pc' := 41) rfl ?_
  refine st_dup (pc' := 42) rfl rfl rfl ?_
  refine st_ipush (pc' := 43) (v := 1) rfl rfl (by decide) ?_
  refine st_ipush (pc' := 44) (v := (-1)) rfl rfl (by decide) ?_
  refine st_iastore rfl hs2 hb4 (j := 1) (by decide) (pc' := 45) rfl ?_
  refine st_dup (pc' := 46) rfl rfl rfl ?_
  refine st_ipush (pc' := 47) (v := 2) rfl rfl (by decide) ?_
  refine st_ipush (pc' := 48) (v := (-1)) rfl rfl (by decide) ?_
  refine st_iastore rfl hs2 hb5 (j := 2) (by decide) (pc' := 49) rfl ?_
  refine st_putf (h' := w_r (w_i (w_i (w_i (h_new (w_r (h_new (w_r h q0 1 (some q1)) (1, 3) 3) r0 2 (some (h_ct (w_r h q0 1 (some q1))))) (1, 3) 3) (h_ct (w_r (h_new (w_r h q0 1 (some q1)) (1, 3) 3) r0 2 (some (h_ct (w_r h q0 1 (some q1)))))) 0 (-1)) (h_ct (w_r (h_new (w_r h q0 1 (some q1)) (1, 3) 3) r0 2 (some (h_ct (w_r h q0 1 (some q1)))))) 1 (-1)) (h_ct (w_r (h_new (w_r h q0 1 (some q1)) (1, 3) 3) r0 2 (some (h_ct (w_r h q0 1 (some q1)))))) 2 (-1)) r0 3 (some (h_ct (w_r (h_new (w_r h q0 1 (some q1)) (1, 3) 3) r0 2 (some (h_ct (w_r h q0 1 (some q1)))))))) (Or.inr (Or.inr rfl)) rfl hs6 rfl rfl rfl (pc' := 52) rfl ?_
  exact k
theorem B_Cu_init_52 {d : Nat} {h : PH} {Q : PQ} {r0 : Nat} (hs0 : h_sh (h_new h (1, 14) 14) r0 = some (0, 2)) (hs1 : h_sh (h_new (w_r (h_new h (1, 14) 14) r0 4 (some (h_ct h))) (1, 14) 14) r0 = some (0, 2)) (hs2 : h_sh (h_new (w_r (h_new (w_r (h_new h (1, 14) 14) r0 4 (some (h_ct h))) (1, 14) 14) r0 7 (some (h_ct (w_r (h_new h (1, 14) 14) r0 4 (some (h_ct h)))))) (1, 1024) 1024) r0 = some (0, 2)) (k : wpx d P_Cu_init 77 [.ref r0] [] (w_r (h_new (w_r (h_new (w_r (h_new h (1, 14) 14) r0 4 (some (h_ct h))) (1, 14) 14) r0 7 (some (h_ct (w_r (h_new h (1, 14) 14) r0 4 (some (h_ct h)))))) (1, 1024) 1024) r0 8 (some (h_ct (w_r (h_new (w_r (h_new h (1, 14) 14) r0 4 (some (h_ct h))) (1, 14) 14) r0 7 (some (h_ct (w_r (h_new h (1, 14) 14) r0 4 (some (h_ct h))))))))) Q) : wpx d P_Cu_init 52 [.ref r0] [] h Q := by
  refine st_aload (pc' := 53) rfl rfl rfl ?_
  refine st_ipush (pc' := 55) (v := 14) rfl rfl (by decide) ?_
  refine st_newI rfl (by decide) (j := 14) (by decide) (pc' := 57) rfl ?_
  refine st_putf (h' := w_r (h_new h (1, 14) 14) r0 4 (some (h_ct h))) (Or.inr (Or.inr rfl)) rfl hs0 rfl rfl rfl (pc' := 60) rfl ?_
  refine st_aload (pc' := 61) rfl rfl rfl ?_
  refine st_ipush (pc' := 63) (v := 14) rfl rfl (by decide) ?_
  refine st_newI rfl (by decide) (j := 14) (by decide) (pc' := 65) rfl ?_
  refine st_putf (h' := w_r (h_new (w_r (h_new h (1, 14) 14) r0 4 (some (h_ct h))) (1, 14) 14) r0 7 (some (h_ct (w_r (h_new h (1, 14) 14) r0 4 (some (h_ct h)))))) (Or.inr (Or.inr rfl)) rfl hs1 rfl rfl rfl (pc' := 68) rfl ?_
  refine st_aload (pc' := 69) rfl rfl rfl ?_
  refine st_ipush (pc' := 72) (v := 1024) rfl rfl (by decide) ?_
  refine st_newI rfl (by decide) (j := 1024) (by decide) (pc' := 74) rfl ?_
  refine st_putf (h' := w_r (h_new (w_r (h_new (w_r (h_new h (1, 14) 14) r0 4 (some (h_ct h))) (1, 14) 14) r0 7 (some (h_ct (w_r (h_new h (1, 14) 14) r0 4 (some (h_ct h)))))) (1, 1024) 1024) r0 8 (some (h_ct (w_r (h_new (w_r (h_new h (1, 14) 14) r0 4 (some (h_ct h))) (1, 14) 14) r0 7 (some (h_ct (w_r (h_new h (1, 14) 14) r0 4 (some (h_ct h))))))))) (Or.inr (Or.inr rfl)) rfl hs2 rfl rfl rfl (pc' := 77) rfl ?_
  exact k
theorem B_Cu_init_77 {d : Nat} {h : PH} {Q : PQ} {r0 : Nat} (hs0 : h_sh (h_new h (1, 1024) 1024) r0 = some (0, 2)) (k : Q none (w_r (h_new h (1, 1024) 1024) r0 9 (some (h_ct h)))) : wpx d P_Cu_init 77 [.ref r0] [] h Q := by
  refine st_aload (pc' := 78) rfl rfl rfl ?_
  refine st_ipush (pc' := 81) (v := 1024) rfl rfl (by decide) ?_
  refine st_newI rfl (by decide) (j := 1024) (by decide) (pc' := 83) rfl ?_
  refine st_putf (h' := w_r (h_new h (1, 1024) 1024) r0 9 (some (h_ct h))) (Or.inr (Or.inr rfl)) rfl hs0 rfl rfl rfl (pc' := 86) rfl ?_
  exact st_return rfl k
theorem B_Cu_fewest_0 {d : Nat} {h : PH} {Q : PQ} {r0 : Nat} {r1 : Nat} {x2 : Int32} {v3 : Value} {v4 : Value}  (kt : x2 < 0 → wpx d P_Cu_fewest 9 [.ref r0, .ref r1, .int x2, v3, v4] [] h Q) (kf : ¬ (x2 < 0) → wpx d P_Cu_fewest 4 [.ref r0, .ref r1, .int x2, v3, v4] [] h Q) : wpx d P_Cu_fewest 0 [.ref r0, .ref r1, .int x2, v3, v4] [] h Q := by
  refine st_iload (pc' := 1) rfl rfl rfl ?_
  exact st_if_lt (pc' := 4) rfl rfl kt kf
theorem B_Cu_fewest_4 {d : Nat} {h : PH} {Q : PQ} {r0 : Nat} {r1 : Nat} {x2 : Int32} {v3 : Value} {v4 : Value}  (kt : x2 < (3 : Int32) → wpx d P_Cu_fewest 11 [.ref r0, .ref r1, .int x2, v3, v4] [] h Q) (kf : ¬ (x2 < (3 : Int32)) → wpx d P_Cu_fewest 9 [.ref r0, .ref r1, .int x2, v3, v4] [] h Q) : wpx d P_Cu_fewest 4 [.ref r0, .ref r1, .int x2, v3, v4] [] h Q := by
  refine st_iload (pc' := 5) rfl rfl rfl ?_
  refine st_ipush (pc' := 6) (v := 3) rfl rfl (by decide) ?_
  exact st_icmp_lt (pc' := 9) rfl rfl kt kf
theorem B_Cu_fewest_9 {d : Nat} {h : PH} {Q : PQ} {r0 : Nat} {r1 : Nat} {x2 : Int32} {v3 : Value} {v4 : Value}  (k : Q (some (.int (-1))) h) : wpx d P_Cu_fewest 9 [.ref r0, .ref r1, .int x2, v3, v4] [] h Q := by
  refine st_ipush (pc' := 10) (v := (-1)) rfl rfl (by decide) ?_
  exact st_ireturn (ty := .int) rfl rfl rfl k
theorem B_Cu_fewest_11 {d : Nat} {h : PH} {Q : PQ} {r0 : Nat} {r1 : Nat} {x2 : Int32} {v3 : Value} {v4 : Value} {a0 : Nat} {n1 : Nat} (hs0 : h_sh h r0 = some (0, 2)) (hr1 : h_r h r0 3 = some a0) (hs2 : h_sh h a0 = some (1, n1)) (hb3 : vp_in x2 n1) (hs4 : h_sh h r1 = some (0, 3)) (kt : ¬ ((h_i h a0 x2.toNatClampNeg) = (h_i h r1 6)) → wpx d P_Cu_fewest 31 [.ref r0, .ref r1, .int x2, v3, v4] [] h Q) (kf : (h_i h a0 x2.toNatClampNeg) = (h_i h r1 6) → wpx d P_Cu_fewest 24 [.ref r0, .ref r1, .int x2, v3, v4] [] h Q) : wpx d P_Cu_fewest 11 [.ref r0, .ref r1, .int x2, v3, v4] [] h Q := by
  refine st_aload (pc' := 12) rfl rfl rfl ?_
  refine st_getfr (x := some a0) (Or.inl rfl) rfl hs0 rfl hr1 (pc' := 15) rfl ?_
  refine st_iload (pc' := 16) rfl rfl rfl ?_
  refine st_iaload rfl hs2 hb3 (j := x2.toNatClampNeg) rfl (pc' := 17) rfl ?_
  refine st_aload (pc' := 18) rfl rfl rfl ?_
  refine st_getfi (Or.inr rfl) rfl hs4 rfl (pc' := 21) rfl ?_
  exact st_icmp_ne (pc' := 24) rfl rfl kt kf
theorem B_Cu_fewest_24 {d : Nat} {h : PH} {Q : PQ} {r0 : Nat} {r1 : Nat} {x2 : Int32} {v3 : Value} {v4 : Value} {a0 : Nat} {n1 : Nat} (hs0 : h_sh h r0 = some (0, 2)) (hr1 : h_r h r0 2 = some a0) (hs2 : h_sh h a0 = some (1, n1)) (hb3 : vp_in x2 n1) (k : Q (some (.int (h_i h a0 x2.toNatClampNeg))) h) : wpx d P_Cu_fewest 24 [.ref r0, .ref r1, .int x2, v3, v4] [] h Q := by
  refine st_aload (pc' := 25) rfl rfl rfl ?_
  refine st_getfr (x := some a0) (Or.inl rfl) rfl hs0 rfl hr1 (pc' := 28) rfl ?_
  refine st_iload (pc' := 29) rfl rfl rfl ?_
  refine st_iaload rfl hs2 hb3 (j := x2.toNatClampNeg) rfl (pc' := 30) rfl ?_
  exact st_ireturn (ty := .int) rfl rfl rfl k
theorem B_Cu_fewest_31 {d : Nat} {h : PH} {Q : PQ} {r0 : Nat} {r1 : Nat} {x2 : Int32} {v3 : Value} {v4 : Value} (hs0 : h_sh h r0 = some (0, 2)) (k : wpm d 27 [.ref r0, .ref r1] (w_i (w_i h r0 10 0) r0 11 0) (fun r h' => wpx d P_Cu_fewest 46 [.ref r0, .ref r1, .int x2, v3, v4] (r.toList ++ []) h' Q)) : wpx d P_Cu_fewest 31 [.ref r0, .ref r1, .int x2, v3, v4] [] h Q := by
  refine st_aload (pc' := 32) rfl rfl rfl ?_
  refine st_ipush (pc' := 33) (v := 0) rfl rfl (by decide) ?_
  refine st_putf (h' := w_i h r0 10 0) (Or.inl rfl) rfl hs0 rfl rfl rfl (pc' := 36) rfl ?_
  refine st_aload (pc' := 37) rfl rfl rfl ?_
  refine st_ipush (pc' := 38) (v := 0) rfl rfl (by decide) ?_
  refine st_putf (h' := w_i (w_i h r0 10 0) r0 11 0) (Or.inl rfl) rfl hs0 (by decide) (by decide) rfl (pc' := 41) rfl ?_
  refine st_aload (pc' := 42) rfl rfl rfl ?_
  refine st_aload (pc' := 43) rfl rfl rfl ?_
  exact st_call (pc' := 46) (as := [.ref r0, .ref r1]) (rest := []) rfl rfl (Nat.le_of_ble_eq_true rfl) rfl rfl (Nat.le_of_ble_eq_true rfl) (kd := 1) (o := 2) rfl rfl (beq_iff_eq.mpr hs0) k
theorem B_Cu_fewest_46 {d : Nat} {h : PH} {Q : PQ} {r0 : Nat} {r1 : Nat} {x2 : Int32} {v3 : Value} {v4 : Value}  (k : wpx d P_Cu_fewest 51 [.ref r0, .ref r1, .int x2, .int (-1), .int 0] [] h Q) : wpx d P_Cu_fewest 46 [.ref r0, .ref r1, .int x2, v3, v4] [] h Q := by
  refine st_ipush (pc' := 47) (v := (-1)) rfl rfl (by decide) ?_
  refine st_istore (pc' := 48) (ls' := [.ref r0, .ref r1, .int x2, .int (-1), v4]) rfl rfl (Nat.le_of_ble_eq_true rfl) rfl ?_
  refine st_ipush (pc' := 49) (v := 0) rfl rfl (by decide) ?_
  refine st_istore (pc' := 51) (ls' := [.ref r0, .ref r1, .int x2, .int (-1), .int 0]) rfl rfl (Nat.le_of_ble_eq_true rfl) rfl ?_
  exact k
theorem B_Cu_fewest_51 {d : Nat} {h : PH} {Q : PQ} {r0 : Nat} {r1 : Nat} {x2 : Int32} {x3 : Int32} {x4 : Int32} (hs0 : h_sh h r0 = some (0, 2)) (kt : (h_i h r0 5) < x4 → wpx d P_Cu_fewest 87 [.ref r0, .ref r1, .int x2, .int x3, .int x4] [] h Q) (kf : ¬ ((h_i h r0 5) < x4) → wpx d P_Cu_fewest 60 [.ref r0, .ref r1, .int x2, .int x3, .int x4] [] h Q) : wpx d P_Cu_fewest 51 [.ref r0, .ref r1, .int x2, .int x3, .int x4] [] h Q := by
  refine st_iload (pc' := 53) rfl rfl rfl ?_
  refine st_aload (pc' := 54) rfl rfl rfl ?_
  refine st_getfi (Or.inl rfl) rfl hs0 rfl (pc' := 57) rfl ?_
  exact st_icmp_gt (pc' := 60) rfl rfl kt kf
theorem B_Cu_fewest_60 {d : Nat} {h : PH} {Q : PQ} {r0 : Nat} {r1 : Nat} {x2 : Int32} {x3 : Int32} {x4 : Int32}  (kt : ¬ (x3 = ((-1) : Int32)) → wpx d P_Cu_fewest 87 [.ref r0, .ref r1, .int x2, .int x3, .int x4] [] h Q) (kf : x3 = ((-1) : Int32) → wpx d P_Cu_fewest 65 [.ref r0, .ref r1, .int x2, .int x3, .int x4] [] h Q) : wpx d P_Cu_fewest 60 [.ref r0, .ref r1, .int x2, .int x3, .int x4] [] h Q := by
  refine st_iload (pc' := 61) rfl rfl rfl ?_
  refine st_ipush (pc' := 62) (v := (-1)) rfl rfl (by decide) ?_
  exact st_icmp_ne (pc' := 65) rfl rfl kt kf
theorem B_Cu_fewest_65 {d : Nat} {h : PH} {Q : PQ} {r0 : Nat} {r1 : Nat} {x2 : Int32} {x3 : Int32} {x4 : Int32} (hs0 : h_sh h r0 = some (0, 2)) (kt : ¬ ((h_i h r0 11) = 0) → wpx d P_Cu_fewest 87 [.ref r0, .ref r1, .int x2, .int x3, .int x4] [] h Q) (kf : (h_i h r0 11) = 0 → wpx d P_Cu_fewest 72 [.ref r0, .ref r1, .int x2, .int x3, .int x4] [] h Q) : wpx d P_Cu_fewest 65 [.ref r0, .ref r1, .int x2, .int x3, .int x4] [] h Q := by
  refine st_aload (pc' := 66) rfl rfl rfl ?_
  refine st_getfi (Or.inl rfl) rfl hs0 rfl (pc' := 69) rfl ?_
  exact st_if_ne (pc' := 72) rfl rfl kt kf
theorem B_Cu_fewest_72 {d : Nat} {h : PH} {Q : PQ} {r0 : Nat} {r1 : Nat} {x2 : Int32} {x3 : Int32} {x4 : Int32} (hs0 : h_sh h r0 = some (0, 2)) (k : wpm d 28 [.ref r0, .ref r1, .int x2, .int x4] h (fun r h' => wpx d P_Cu_fewest 80 [.ref r0, .ref r1, .int x2, .int x3, .int x4] (r.toList ++ []) h' Q)) : wpx d P_Cu_fewest 72 [.ref r0, .ref r1, .int x2, .int x3, .int x4] [] h Q := by
  refine st_aload (pc' := 73) rfl rfl rfl ?_
  refine st_aload (pc' := 74) rfl rfl rfl ?_
  refine st_iload (pc' := 75) rfl rfl rfl ?_
  refine st_iload (pc' := 77) rfl rfl rfl ?_
  exact st_call (pc' := 80) (as := [.ref r0, .ref r1, .int x2, .int x4]) (rest := []) rfl rfl (Nat.le_of_ble_eq_true rfl) rfl rfl (Nat.le_of_ble_eq_true rfl) (kd := 1) (o := 2) rfl rfl (beq_iff_eq.mpr hs0) k
theorem B_Cu_fewest_80 {d : Nat} {h : PH} {Q : PQ} {r0 : Nat} {r1 : Nat} {x2 : Int32} {x3 : Int32} {x4 : Int32} {s0 : Int32}  (k : wpx d P_Cu_fewest 51 [.ref r0, .ref r1, .int x2, .int s0, .int (x4 + 1)] [] h Q) : wpx d P_Cu_fewest 80 [.ref r0, .ref r1, .int x2, .int x3, .int x4] [.int s0] h Q := by
  refine st_istore (pc' := 81) (ls' := [.ref r0, .ref r1, .int x2, .int s0, .int x4]) rfl rfl (Nat.le_of_ble_eq_true rfl) rfl ?_
  refine st_iinc (pc' := 84) (v := 1) (ls' := [.ref r0, .ref r1, .int x2, .int s0, .int (x4 + 1)]) rfl rfl rfl (by decide) rfl ?_
  exact st_goto rfl k
theorem B_Cu_fewest_87 {d : Nat} {h : PH} {Q : PQ} {r0 : Nat} {r1 : Nat} {x2 : Int32} {x3 : Int32} {x4 : Int32} {a0 : Nat} {n1 : Nat} {a2 : Nat} {n3 : Nat} (hs0 : h_sh h r0 = some (0, 2)) (hr1 : h_r h r0 2 = some a0) (hs2 : h_sh h a0 = some (1, n1)) (hb3 : vp_in x2 n1) (hr4 : h_r h r0 3 = some a2) (hs5 : h_sh h r1 = some (0, 3)) (hs6 : h_sh h a2 = some (1, n3)) (hb7 : vp_in x2 n3) (k : Q (some (.int x3)) (w_i (w_i h a0 x2.toNatClampNeg x3) a2 x2.toNatClampNeg (h_i (w_i h a0 x2.toNatClampNeg x3) r1 6))) : wpx d P_Cu_fewest 87 [.ref r0, .ref r1, .int x2, .int x3, .int x4] [] h Q := by
  refine st_aload (pc' := 88) rfl rfl rfl ?_
  refine st_getfr (x := some a0) (Or.inl rfl) rfl hs0 rfl hr1 (pc' := 91) rfl ?_
  refine st_iload (pc' := 92) rfl rfl rfl ?_
  refine st_iload (pc' := 93) rfl rfl rfl ?_
  refine st_iastore rfl hs2 hb3 (j := x2.toNatClampNeg) rfl (pc' := 94) rfl ?_
  refine st_aload (pc' := 95) rfl rfl rfl ?_
  refine st_getfr (x := some a2) (Or.inl rfl) rfl hs0 rfl hr4 (pc' := 98) rfl ?_
  refine st_iload (pc' := 99) rfl rfl rfl ?_
  refine st_aload (pc' := 100) rfl rfl rfl ?_
  refine st_getfi (Or.inr rfl) rfl hs5 rfl (pc' := 103) rfl ?_
  refine st_iastore rfl hs6 hb7 (j := x2.toNatClampNeg) rfl (pc' := 104) rfl ?_
  refine st_iload (pc' := 105) rfl rfl rfl ?_
  exact st_ireturn (ty := .int) rfl rfl rfl k
theorem B_Cu_findChoosable_0 {d : Nat} {h : PH} {Q : PQ} {r0 : Nat} {r1 : Nat} {v2 : Value} (hs0 : h_sh h r0 = some (0, 2)) (k : wpx d P_Cu_findChoosable 12 [.ref r0, .ref r1, .int 0] [] (w_i (w_i h r0 5 0) r0 6 0) Q) : wpx d P_Cu_findChoosable 0 [.ref r0, .ref r1, v2] [] h Q := by
  refine st_aload (pc' := 1) rfl rfl rfl ?_
  refine st_ipush (pc' := 2) (v := 0) rfl rfl (by decide) ?_
  refine st_putf (h' := w_i h r0 5 0) (Or.inl rfl) rfl hs0 rfl rfl rfl (pc' := 5) rfl ?_
  refine st_aload (pc' := 6) rfl rfl rfl ?_
  refine st_ipush (pc' := 7) (v := 0) rfl rfl (by decide) ?_
  refine st_putf (h' := w_i (w_i h r0 5 0) r0 6 0) (Or.inl rfl) rfl hs0 rfl rfl rfl (pc' := 10) rfl ?_
  refine st_ipush (pc' := 11) (v := 0) rfl rfl (by decide) ?_
  refine st_istore (pc' := 12) (ls' := [.ref r0, .ref r1, .int 0]) rfl rfl (Nat.le_of_ble_eq_true rfl) rfl ?_
  exact k
theorem B_Cu_findChoosable_12 {d : Nat} {h : PH} {Q : PQ} {r0 : Nat} {r1 : Nat} {x2 : Int32} (hs0 : h_sh h r1 = some (0, 3)) (kt : (h_i h r1 3) ≤ x2 → wpx d P_Cu_findChoosable 77 [.ref r0, .ref r1, .int x2] [] h Q) (kf : ¬ ((h_i h r1 3) ≤ x2) → wpx d P_Cu_findChoosable 20 [.ref r0, .ref r1, .int x2] [] h Q) : wpx d P_Cu_findChoosable 12 [.ref r0, .ref r1, .int x2] [] h Q := by
  refine st_iload (pc' := 13) rfl rfl rfl ?_
  refine st_aload (pc' := 14) rfl rfl rfl ?_
  refine st_getfi (Or.inr rfl) rfl hs0 rfl (pc' := 17) rfl ?_
  exact st_icmp_ge (pc' := 20) rfl rfl kt kf
theorem B_Cu_findChoosable_20 {d : Nat} {h : PH} {Q : PQ} {r0 : Nat} {r1 : Nat} {x2 : Int32} (hs0 : h_sh h r1 = some (0, 3)) (k : wpm d 35 [.ref r1, .int x2] h (fun r h' => wpx d P_Cu_findChoosable 25 [.ref r0, .ref r1, .int x2] (r.toList ++ []) h' Q)) : wpx d P_Cu_findChoosable 20 [.ref r0, .ref r1, .int x2] [] h Q := by
  refine st_aload (pc' := 21) rfl rfl rfl ?_
  refine st_iload (pc' := 22) rfl rfl rfl ?_
  exact st_call (pc' := 25) (as := [.ref r1, .int x2]) (rest := []) rfl rfl (Nat.le_of_ble_eq_true rfl) rfl rfl (Nat.le_of_ble_eq_true rfl) (kd := 1) (o := 3) rfl rfl (beq_iff_eq.mpr hs0) k
theorem B_Cu_findChoosable_25 {d : Nat} {h : PH} {Q : PQ} {r0 : Nat} {r1 : Nat} {x2 : Int32} {s0 : Int32}  (kt : s0 = 0 → wpx d P_Cu_findChoosable 71 [.ref r0, .ref r1, .int x2] [] h Q) (kf : ¬ (s0 = 0) → wpx d P_Cu_findChoosable 28 [.ref r0, .ref r1, .int x2] [] h Q) : wpx d P_Cu_findChoosable 25 [.ref r0, .ref r1, .int x2] [.int s0] h Q := by
  exact st_if_eq (pc' := 28) rfl rfl kt kf
theorem B_Cu_findChoosable_28 {d : Nat} {h : PH} {Q : PQ} {r0 : Nat} {r1 : Nat} {x2 : Int32} {a0 : Nat} {n1 : Nat} (hs0 : h_sh h r1 = some (0, 3)) (hr1 : h_r h r1 1 = some a0) (hs2 : h_sh h a0 = some (1, n1)) (hb3 : vp_in x2 n1) (kt : (6 : Int32) < (h_i h a0 x2.toNatClampNeg) → wpx d P_Cu_findChoosable 71 [.ref r0, .ref r1, .int x2] [] h Q) (kf : ¬ ((6 : Int32) < (h_i h a0 x2.toNatClampNeg)) → wpx d P_Cu_findChoosable 39 [.ref r0, .ref r1, .int x2] [] h Q) : wpx d P_Cu_findChoosable 28 [.ref r0, .ref r1, .int x2] [] h Q := by
  refine st_aload (pc' := 29) rfl rfl rfl ?_
  refine st_getfr (x := some a0) (Or.inr rfl) rfl hs0 rfl hr1 (pc' := 32) rfl ?_
  refine st_iload (pc' := 33) rfl rfl rfl ?_
  refine st_iaload rfl hs2 hb3 (j := x2.toNatClampNeg) rfl (pc' := 34) rfl ?_
  refine st_ipush (pc' := 36) (v := 6) rfl rfl (by decide) ?_
  exact st_icmp_gt (pc' := 39) rfl rfl kt kf
theorem B_Cu_findChoosable_39 {d : Nat} {h : PH} {Q : PQ} {r0 : Nat} {r1 : Nat} {x2 : Int32} {a0 : Nat} {n1 : Nat} (hs0 : h_sh h r0 = some (0, 2)) (hr1 : h_r h r0 4 = some a0) (hs2 : h_sh h a0 = some (1, n1)) (hb3 : vp_in (h_i h r0 5) n1) (k : wpx d P_Cu_findChoosable 71 [.ref r0, .ref r1, .int x2] [] (w_i (w_i (w_i h a0 ((h_i h r0 5).toNatClampNeg) x2) r0 5 ((h_i (w_i h a0 ((h_i h r0 5).toNatClampNeg) x2) r0 5) + (1 : Int32))) r0 6 ((h_i (w_i (w_i h a0 ((h_i h r0 5).toNatClampNeg) x2) r0 5 ((h_i (w_i h a0 ((h_i h r0 5).toNatClampNeg) x2) r0 5) + (1 : Int32))) r0 6) ||| ((1 : Int32) <<< (x2 &&& 31)))) Q) : wpx d P_Cu_findChoosable 39 [.ref r0, .ref r1, .int x2] [] h Q := by
  refine st_aload (pc' := 40) rfl rfl rfl ?_
  refine st_getfr (x := some a0) (Or.inl rfl) rfl hs0 rfl hr1 (pc' := 43) rfl ?_
  refine st_aload (pc' := 44) rfl rfl rfl ?_
  refine st_getfi (Or.inl rfl) rfl hs0 rfl (pc' := 47) rfl ?_
  refine st_iload (pc' := 48) rfl rfl rfl ?_
  refine st_iastore rfl hs2 hb3 (j := (h_i h r0 5).toNatClampNeg) rfl (pc' := 49) rfl ?_
  refine st_aload (pc' := 50) rfl rfl rfl ?_
  refine st_dup (pc' := 51) rfl rfl rfl ?_
  refine st_getfi (Or.inl rfl) rfl hs0 rfl (pc' := 54) rfl ?_
  refine st_ipush (pc' := 55) (v := 1) rfl rfl (by decide) ?_
  refine st_iadd (pc' := 56) rfl rfl ?_
  refine st_putf (h' := w_i (w_i h a0 ((h_i h r0 5).toNatClampNeg) x2) r0 5 ((h_i (w_i h a0 ((h_i h r0 5).toNatClampNeg) x2) r0 5) + (1 : Int32))) (Or.inl rfl) rfl hs0 rfl rfl rfl (pc' := 59) rfl ?_
  refine st_aload (pc' := 60) rfl rfl rfl ?_
  refine st_dup (pc' := 61) rfl rfl rfl ?_
  refine st_getfi (Or.inl rfl) rfl hs0 rfl (pc' := 64) rfl ?_
  refine st_ipush (pc' := 65) (v := 1) rfl rfl (by decide) ?_
  refine st_iload (pc' := 66) rfl rfl rfl ?_
  refine st_ishl (pc' := 67) rfl rfl ?_
  refine st_ior (pc' := 68) rfl rfl ?_
  refine st_putf (h' := w_i (w_i (w_i h a0 ((h_i h r0 5).toNatClampNeg) x2) r0 5 ((h_i (w_i h a0 ((h_i h r0 5).toNatClampNeg) x2) r0 5) + (1 : Int32))) r0 6 ((h_i (w_i (w_i h a0 ((h_i h r0 5).toNatClampNeg) x2) r0 5 ((h_i (w_i h a0 ((h_i h r0 5).toNatClampNeg) x2) r0 5) + (1 : Int32))) r0 6) ||| ((1 : Int32) <<< (x2 &&& 31)))) (Or.inl rfl) rfl hs0 rfl rfl rfl (pc' := 71) rfl ?_
  exact k
theorem B_Cu_findChoosable_71 {d : Nat} {h : PH} {Q : PQ} {r0 : Nat} {r1 : Nat} {x2 : Int32}  (k : wpx d P_Cu_findChoosable 12 [.ref r0, .ref r1, .int (x2 + 1)] [] h Q) : wpx d P_Cu_findChoosable 71 [.ref r0, .ref r1, .int x2] [] h Q := by
  refine st_iinc (pc' := 74) (v := 1) (ls' := [.ref r0, .ref r1, .int (x2 + 1)]) rfl rfl rfl (by decide) rfl ?_
  exact st_goto rfl k
theorem B_Cu_findChoosable_77 {d : Nat} {h : PH} {Q : PQ} {r0 : Nat} {r1 : Nat} {x2 : Int32}  (k : Q none h) : wpx d P_Cu_findChoosable 77 [.ref r0, .ref r1, .int x2] [] h Q := by
  exact st_return rfl k
theorem B_Cu_searchOfSize_0 {d : Nat} {h : PH} {Q : PQ} {r0 : Nat} {r1 : Nat} {x2 : Int32} {x3 : Int32} {v4 : Value} {v5 : Value} {v6 : Value}  (k : wpx d P_Cu_searchOfSize 3 [.ref r0, .ref r1, .int x2, .int x3, .int 0, v5, v6] [] h Q) : wpx d P_Cu_searchOfSize 0 [.ref r0, .ref r1, .int x2, .int x3, v4, v5, v6] [] h Q := by
  refine st_ipush (pc' := 1) (v := 0) rfl rfl (by decide) ?_
  refine st_istore (pc' := 3) (ls' := [.ref r0, .ref r1, .int x2, .int x3, .int 0, v5, v6]) rfl rfl (Nat.le_of_ble_eq_true rfl) rfl ?_
  exact k
theorem B_Cu_searchOfSize_3 {d : Nat} {h : PH} {Q : PQ} {r0 : Nat} {r1 : Nat} {x2 : Int32} {x3 : Int32} {x4 : Int32} {v5 : Value} {v6 : Value}  (kt : x3 ≤ x4 → wpx d P_Cu_searchOfSize 24 [.ref r0, .ref r1, .int x2, .int x3, .int x4, v5, v6] [] h Q) (kf : ¬ (x3 ≤ x4) → wpx d P_Cu_searchOfSize 9 [.ref r0, .ref r1, .int x2, .int x3, .int x4, v5, v6] [] h Q) : wpx d P_Cu_searchOfSize 3 [.ref r0, .ref r1, .int x2, .int x3, .int x4, v5, v6] [] h Q := by
  refine st_iload (pc' := 5) rfl rfl rfl ?_
  refine st_iload (pc' := 6) rfl rfl rfl ?_
  exact st_icmp_ge (pc' := 9) rfl rfl kt kf
theorem B_Cu_searchOfSize_9 {d : Nat} {h : PH} {Q : PQ} {r0 : Nat} {r1 : Nat} {x2 : Int32} {x3 : Int32} {x4 : Int32} {v5 : Value} {v6 : Value} {a0 : Nat} {n1 : Nat} (hs0 : h_sh h r0 = some (0, 2)) (hr1 : h_r h r0 7 = some a0) (hs2 : h_sh h a0 = some (1, n1)) (hb3 : vp_in x4 n1) (k : wpx d P_Cu_searchOfSize 3 [.ref r0, .ref r1, .int x2, .int x3, .int (x4 + 1), v5, v6] [] (w_i h a0 x4.toNatClampNeg x4) Q) : wpx d P_Cu_searchOfSize 9 [.ref r0, .ref r1, .int x2, .int x3, .int x4, v5, v6] [] h Q := by
  refine st_aload (pc' := 10) rfl rfl rfl ?_
  refine st_getfr (x := some a0) (Or.inl rfl) rfl hs0 rfl hr1 (pc' := 13) rfl ?_
  refine st_iload (pc' := 15) rfl rfl rfl ?_
  refine st_iload (pc' := 17) rfl rfl rfl ?_
  refine st_iastore rfl hs2 hb3 (j := x4.toNatClampNeg) rfl (pc' := 18) rfl ?_
  refine st_iinc (pc' := 21) (v := 1) (ls' := [.ref r0, .ref r1, .int x2, .int x3, .int (x4 + 1), v5, v6]) rfl rfl rfl (by decide) rfl ?_
  exact st_goto rfl k
theorem B_Cu_searchOfSize_24 {d : Nat} {h : PH} {Q : PQ} {r0 : Nat} {r1 : Nat} {x2 : Int32} {x3 : Int32} {x4 : Int32} {v5 : Value} {v6 : Value}  (k : wpx d P_Cu_searchOfSize 30 [.ref r0, .ref r1, .int x2, .int x3, .int 1, .int 0, v6] [] h Q) : wpx d P_Cu_searchOfSize 24 [.ref r0, .ref r1, .int x2, .int x3, .int x4, v5, v6] [] h Q := by
  refine st_ipush (pc' := 25) (v := 1) rfl rfl (by decide) ?_
  refine st_istore (pc' := 27) (ls' := [.ref r0, .ref r1, .int x2, .int x3, .int 1, v5, v6]) rfl rfl (Nat.le_of_ble_eq_true rfl) rfl ?_
  refine st_ipush (pc' := 28) (v := 0) rfl rfl (by decide) ?_
  refine st_istore (pc' := 30) (ls' := [.ref r0, .ref r1, .int x2, .int x3, .int 1, .int 0, v6]) rfl rfl (Nat.le_of_ble_eq_true rfl) rfl ?_
  exact k
theorem B_Cu_searchOfSize_30 {d : Nat} {h : PH} {Q : PQ} {r0 : Nat} {r1 : Nat} {x2 : Int32} {x3 : Int32} {x4 : Int32} {x5 : Int32} {v6 : Value}  (kt : (16384 : Int32) ≤ x5 → wpx d P_Cu_searchOfSize 93 [.ref r0, .ref r1, .int x2, .int x3, .int x4, .int x5, v6] [] h Q) (kf : ¬ ((16384 : Int32) ≤ x5) → wpx d P_Cu_searchOfSize 38 [.ref r0, .ref r1, .int x2, .int x3, .int x4, .int x5, v6] [] h Q) : wpx d P_Cu_searchOfSize 30 [.ref r0, .ref r1, .int x2, .int x3, .int x4, .int x5, v6] [] h Q := by
  refine st_iload (pc' := 32) rfl rfl rfl ?_
  refine st_ipush (pc' := 35) (v := 16384) rfl rfl (by decide) ?_
  exact st_icmp_ge (pc' := 38) rfl rfl kt kf
theorem B_Cu_searchOfSize_38 {d : Nat} {h : PH} {Q : PQ} {r0 : Nat} {r1 : Nat} {x2 : Int32} {x3 : Int32} {x4 : Int32} {x5 : Int32} {v6 : Value}  (kt : x4 = 0 → wpx d P_Cu_searchOfSize 93 [.ref r0, .ref r1, .int x2, .int x3, .int x4, .int x5, v6] [] h Q) (kf : ¬ (x4 = 0) → wpx d P_Cu_searchOfSize 43 [.ref r0, .ref r1, .int x2, .int x3, .int x4, .int x5, v6] [] h Q) : wpx d P_Cu_searchOfSize 38 [.ref r0, .ref r1, .int x2, .int x3, .int x4, .int x5, v6] [] h Q := by
  refine st_iload (pc' := 40) rfl rfl rfl ?_
  exact st_if_eq (pc' := 43) rfl rfl kt kf
theorem B_Cu_searchOfSize_43 {d : Nat} {h : PH} {Q : PQ} {r0 : Nat} {r1 : Nat} {x2 : Int32} {x3 : Int32} {x4 : Int32} {x5 : Int32} {v6 : Value} (hs0 : h_sh h r0 = some (0, 2)) (kt : ¬ ((h_i h r0 11) = 0) → wpx d P_Cu_searchOfSize 93 [.ref r0, .ref r1, .int x2, .int x3, .int x4, .int x5, v6] [] h Q) (kf : (h_i h r0 11) = 0 → wpx d P_Cu_searchOfSize 50 [.ref r0, .ref r1, .int x2, .int x3, .int x4, .int x5, v6] [] h Q) : wpx d P_Cu_searchOfSize 43 [.ref r0, .ref r1, .int x2, .int x3, .int x4, .int x5, v6] [] h Q := by
  refine st_aload (pc' := 44) rfl rfl rfl ?_
  refine st_getfi (Or.inl rfl) rfl hs0 rfl (pc' := 47) rfl ?_
  exact st_if_ne (pc' := 50) rfl rfl kt kf
theorem B_Cu_searchOfSize_50 {d : Nat} {h : PH} {Q : PQ} {r0 : Nat} {r1 : Nat} {x2 : Int32} {x3 : Int32} {x4 : Int32} {x5 : Int32} {v6 : Value} (hs0 : h_sh h r0 = some (0, 2)) (k : wpm d 29 [.ref r0, .int x3] h (fun r h' => wpx d P_Cu_searchOfSize 55 [.ref r0, .ref r1, .int x2, .int x3, .int x4, .int x5, v6] (r.toList ++ []) h' Q)) : wpx d P_Cu_searchOfSize 50 [.ref r0, .ref r1, .int x2, .int x3, .int x4, .int x5, v6] [] h Q := by
  refine st_aload (pc' := 51) rfl rfl rfl ?_
  refine st_iload (pc' := 52) rfl rfl rfl ?_
  exact st_call (pc' := 55) (as := [.ref r0, .int x3]) (rest := []) rfl rfl (Nat.le_of_ble_eq_true rfl) rfl rfl (Nat.le_of_ble_eq_true rfl) (kd := 1) (o := 2) rfl rfl (beq_iff_eq.mpr hs0) k
theorem B_Cu_searchOfSize_55 {d : Nat} {h : PH} {Q : PQ} {r0 : Nat} {r1 : Nat} {x2 : Int32} {x3 : Int32} {x4 : Int32} {x5 : Int32} {v6 : Value} {s0 : Int32} (hs0 : h_sh h r0 = some (0, 2)) (k : wpm d 31 [.ref r0, .int s0] h (fun r h' => wpx d P_Cu_searchOfSize 63 [.ref r0, .ref r1, .int x2, .int x3, .int x4, .int x5, .int s0] (r.toList ++ []) h' Q)) : wpx d P_Cu_searchOfSize 55 [.ref r0, .ref r1, .int x2, .int x3, .int x4, .int x5, v6] [.int s0] h Q := by
  refine st_istore (pc' := 57) (ls' := [.ref r0, .ref r1, .int x2, .int x3, .int x4, .int x5, .int s0]) rfl rfl (Nat.le_of_ble_eq_true rfl) rfl ?_
  refine st_aload (pc' := 58) rfl rfl rfl ?_
  refine st_iload (pc' := 60) rfl rfl rfl ?_
  exact st_call (pc' := 63) (as := [.ref r0, .int s0]) (rest := []) rfl rfl (Nat.le_of_ble_eq_true rfl) rfl rfl (Nat.le_of_ble_eq_true rfl) (kd := 1) (o := 2) rfl rfl (beq_iff_eq.mpr hs0) k
theorem B_Cu_searchOfSize_63 {d : Nat} {h : PH} {Q : PQ} {r0 : Nat} {r1 : Nat} {x2 : Int32} {x3 : Int32} {x4 : Int32} {x5 : Int32} {x6 : Int32} {s0 : Int32}  (kt : ¬ (s0 = 0) → wpx d P_Cu_searchOfSize 80 [.ref r0, .ref r1, .int x2, .int x3, .int x4, .int x5, .int x6] [] h Q) (kf : s0 = 0 → wpx d P_Cu_searchOfSize 66 [.ref r0, .ref r1, .int x2, .int x3, .int x4, .int x5, .int x6] [] h Q) : wpx d P_Cu_searchOfSize 63 [.ref r0, .ref r1, .int x2, .int x3, .int x4, .int x5, .int x6] [.int s0] h Q := by
  exact st_if_ne (pc' := 66) rfl rfl kt kf
theorem B_Cu_searchOfSize_66 {d : Nat} {h : PH} {Q : PQ} {r0 : Nat} {r1 : Nat} {x2 : Int32} {x3 : Int32} {x4 : Int32} {x5 : Int32} {x6 : Int32} (hs0 : h_sh h r0 = some (0, 2)) (k : wpm d 32 [.ref r0, .ref r1, .int x2, .int x6] h (fun r h' => wpx d P_Cu_searchOfSize 74 [.ref r0, .ref r1, .int x2, .int x3, .int x4, .int x5, .int x6] (r.toList ++ []) h' Q)) : wpx d P_Cu_searchOfSize 66 [.ref r0, .ref r1, .int x2, .int x3, .int x4, .int x5, .int x6] [] h Q := by
  refine st_aload (pc' := 67) rfl rfl rfl ?_
  refine st_aload (pc' := 68) rfl rfl rfl ?_
  refine st_iload (pc' := 69) rfl rfl rfl ?_
  refine st_iload (pc' := 71) rfl rfl rfl ?_
  exact st_call (pc' := 74) (as := [.ref r0, .ref r1, .int x2, .int x6]) (rest := []) rfl rfl (Nat.le_of_ble_eq_true rfl) rfl rfl (Nat.le_of_ble_eq_true rfl) (kd := 1) (o := 2) rfl rfl (beq_iff_eq.mpr hs0) k
theorem B_Cu_searchOfSize_74 {d : Nat} {h : PH} {Q : PQ} {r0 : Nat} {r1 : Nat} {x2 : Int32} {x3 : Int32} {x4 : Int32} {x5 : Int32} {x6 : Int32} {s0 : Int32}  (kt : s0 = 0 → wpx d P_Cu_searchOfSize 80 [.ref r0, .ref r1, .int x2, .int x3, .int x4, .int x5, .int x6] [] h Q) (kf : ¬ (s0 = 0) → wpx d P_Cu_searchOfSize 77 [.ref r0, .ref r1, .int x2, .int x3, .int x4, .int x5, .int x6] [] h Q) : wpx d P_Cu_searchOfSize 74 [.ref r0, .ref r1, .int x2, .int x3, .int x4, .int x5, .int x6] [.int s0] h Q := by
  exact st_if_eq (pc' := 77) rfl rfl kt kf
theorem B_Cu_searchOfSize_77 {d : Nat} {h : PH} {Q : PQ} {r0 : Nat} {r1 : Nat} {x2 : Int32} {x3 : Int32} {x4 : Int32} {x5 : Int32} {x6 : Int32}  (k : Q (some (.int x6)) h) : wpx d P_Cu_searchOfSize 77 [.ref r0, .ref r1, .int x2, .int x3, .int x4, .int x5, .int x6] [] h Q := by
  refine st_iload (pc' := 79) rfl rfl rfl ?_
  exact st_ireturn (ty := .int) rfl rfl rfl k
theorem B_Cu_searchOfSize_80 {d : Nat} {h : PH} {Q : PQ} {r0 : Nat} {r1 : Nat} {x2 : Int32} {x3 : Int32} {x4 : Int32} {x5 : Int32} {x6 : Int32} (hs0 : h_sh h r0 = some (0, 2)) (k : wpm d 30 [.ref r0, .int x3] h (fun r h' => wpx d P_Cu_searchOfSize 85 [.ref r0, .ref r1, .int x2, .int x3, .int x4, .int x5, .int x6] (r.toList ++ []) h' Q)) : wpx d P_Cu_searchOfSize 80 [.ref r0, .ref r1, .int x2, .int x3, .int x4, .int x5, .int x6] [] h Q := by
  refine st_aload (pc' := 81) rfl rfl rfl ?_
  refine st_iload (pc' := 82) rfl rfl rfl ?_
  exact st_call (pc' := 85) (as := [.ref r0, .int x3]) (rest := []) rfl rfl (Nat.le_of_ble_eq_true rfl) rfl rfl (Nat.le_of_ble_eq_true rfl) (kd := 1) (o := 2) rfl rfl (beq_iff_eq.mpr hs0) k
theorem B_Cu_searchOfSize_85 {d : Nat} {h : PH} {Q : PQ} {r0 : Nat} {r1 : Nat} {x2 : Int32} {x3 : Int32} {x4 : Int32} {x5 : Int32} {x6 : Int32} {s0 : Int32}  (k : wpx d P_Cu_searchOfSize 30 [.ref r0, .ref r1, .int x2, .int x3, .int s0, .int (x5 + 1), .int x6] [] h Q) : wpx d P_Cu_searchOfSize 85 [.ref r0, .ref r1, .int x2, .int x3, .int x4, .int x5, .int x6] [.int s0] h Q := by
  refine st_istore (pc' := 87) (ls' := [.ref r0, .ref r1, .int x2, .int x3, .int s0, .int x5, .int x6]) rfl rfl (Nat.le_of_ble_eq_true rfl) rfl ?_
  refine st_iinc (pc' := 90) (v := 1) (ls' := [.ref r0, .ref r1, .int x2, .int x3, .int s0, .int (x5 + 1), .int x6]) rfl rfl rfl (by decide) rfl ?_
  exact st_goto rfl k
theorem B_Cu_searchOfSize_93 {d : Nat} {h : PH} {Q : PQ} {r0 : Nat} {r1 : Nat} {x2 : Int32} {x3 : Int32} {x4 : Int32} {x5 : Int32} {v6 : Value}  (k : Q (some (.int (-1))) h) : wpx d P_Cu_searchOfSize 93 [.ref r0, .ref r1, .int x2, .int x3, .int x4, .int x5, v6] [] h Q := by
  refine st_ipush (pc' := 94) (v := (-1)) rfl rfl (by decide) ?_
  exact st_ireturn (ty := .int) rfl rfl rfl k
theorem B_Cu_chosenMask_0 {d : Nat} {h : PH} {Q : PQ} {r0 : Nat} {x1 : Int32} {v2 : Value} {v3 : Value}  (k : wpx d P_Cu_chosenMask 4 [.ref r0, .int x1, .int 0, .int 0] [] h Q) : wpx d P_Cu_chosenMask 0 [.ref r0, .int x1, v2, v3] [] h Q := by
  refine st_ipush (pc' := 1) (v := 0) rfl rfl (by decide) ?_
  refine st_istore (pc' := 2) (ls' := [.ref r0, .int x1, .int 0, v3]) rfl rfl (Nat.le_of_ble_eq_true rfl) rfl ?_
  refine st_ipush (pc' := 3) (v := 0) rfl rfl (by decide) ?_
  refine st_istore (pc' := 4) (ls' := [.ref r0, .int x1, .int 0, .int 0]) rfl rfl (Nat.le_of_ble_eq_true rfl) rfl ?_
  exact k
theorem B_Cu_chosenMask_4 {d : Nat} {h : PH} {Q : PQ} {r0 : Nat} {x1 : Int32} {x2 : Int32} {x3 : Int32}  (kt : x1 ≤ x3 → wpx d P_Cu_chosenMask 31 [.ref r0, .int x1, .int x2, .int x3] [] h Q) (kf : ¬ (x1 ≤ x3) → wpx d P_Cu_chosenMask 9 [.ref r0, .int x1, .int x2, .int x3] [] h Q) : wpx d P_Cu_chosenMask 4 [.ref r0, .int x1, .int x2, .int x3] [] h Q := by
  refine st_iload (pc' := 5) rfl rfl rfl ?_
  refine st_iload (pc' := 6) rfl rfl rfl ?_
  exact st_icmp_ge (pc' := 9) rfl rfl kt kf
theorem B_Cu_chosenMask_9 {d : Nat} {h : PH} {Q : PQ} {r0 : Nat} {x1 : Int32} {x2 : Int32} {x3 : Int32} {a0 : Nat} {a1 : Nat} {n2 : Nat} {n3 : Nat} (hs0 : h_sh h r0 = some (0, 2)) (hr1 : h_r h r0 4 = some a0) (hr2 : h_r h r0 7 = some a1) (hs3 : h_sh h a1 = some (1, n2)) (hb4 : vp_in x3 n2) (hs5 : h_sh h a0 = some (1, n3)) (hb6 : vp_in (h_i h a1 x3.toNatClampNeg) n3) (k : wpx d P_Cu_chosenMask 4 [.ref r0, .int x1, .int (x2 ||| ((1 : Int32) <<< ((h_i h a0 (h_i h a1 x3.toNatClampNeg).toNatClampNeg) &&& 31))), .int (x3 + 1)] [] h Q) : wpx d P_Cu_chosenMask 9 [.ref r0, .int x1, .int x2, .int x3] [] h Q := by
  refine st_iload (pc' := 10) rfl rfl rfl ?_
  refine st_ipush (pc' := 11) (v := 1) rfl rfl (by decide) ?_
  refine st_aload (pc' := 12) rfl rfl rfl ?_
  refine st_getfr (x := some a0) (Or.inl rfl) rfl hs0 rfl hr1 (pc' := 15) rfl ?_
  refine st_aload (pc' := 16) rfl rfl rfl ?_
  refine st_getfr (x := some a1) (Or.inl rfl) rfl hs0 rfl hr2 (pc' := 19) rfl ?_
  refine st_iload (pc' := 20) rfl rfl rfl ?_
  refine st_iaload rfl hs3 hb4 (j := x3.toNatClampNeg) rfl (pc' := 21) rfl ?_
  refine st_iaload rfl hs5 hb6 (j := (h_i h a1 x3.toNatClampNeg).toNatClampNeg) rfl (pc' := 22) rfl ?_
  refine st_ishl (pc' := 23) rfl rfl ?_
  refine st_ior (pc' := 24) rfl rfl ?_
  refine st_istore (pc' := 25) (ls' := [.ref r0, .int x1, .int (x2 ||| ((1 : Int32) <<< ((h_i h a0 (h_i h a1 x3.toNatClampNeg).toNatClampNeg) &&& 31))), .int x3]) rfl rfl (Nat.le_of_ble_eq_true rfl) rfl ?_
  refine st_iinc (pc' := 28) (v := 1) (ls' := [.ref r0, .int x1, .int (x2 ||| ((1 : Int32) <<< ((h_i h a0 (h_i h a1 x3.toNatClampNeg).toNatClampNeg) &&& 31))), .int (x3 + 1)]) rfl rfl rfl (by decide) rfl ?_
  exact st_goto rfl k
theorem B_Cu_chosenMask_31 {d : Nat} {h : PH} {Q : PQ} {r0 : Nat} {x1 : Int32} {x2 : Int32} {x3 : Int32}  (k : Q (some (.int x2)) h) : wpx d P_Cu_chosenMask 31 [.ref r0, .int x1, .int x2, .int x3] [] h Q := by
  refine st_iload (pc' := 32) rfl rfl rfl ?_
  exact st_ireturn (ty := .int) rfl rfl rfl k
theorem B_Cu_chooseNext_0 {d : Nat} {h : PH} {Q : PQ} {r0 : Nat} {x1 : Int32} {v2 : Value} {v3 : Value}  (k : wpx d P_Cu_chooseNext 4 [.ref r0, .int x1, .int (x1 - (1 : Int32)), v3] [] h Q) : wpx d P_Cu_chooseNext 0 [.ref r0, .int x1, v2, v3] [] h Q := by
  refine st_iload (pc' := 1) rfl rfl rfl ?_
  refine st_ipush (pc' := 2) (v := 1) rfl rfl (by decide) ?_
  refine st_isub (pc' := 3) rfl rfl ?_
  refine st_istore (pc' := 4) (ls' := [.ref r0, .int x1, .int (x1 - (1 : Int32)), v3]) rfl rfl (Nat.le_of_ble_eq_true rfl) rfl ?_
  exact k
theorem B_Cu_chooseNext_4 {d : Nat} {h : PH} {Q : PQ} {r0 : Nat} {x1 : Int32} {x2 : Int32} {v3 : Value}  (kt : x2 < 0 → wpx d P_Cu_chooseNext 31 [.ref r0, .int x1, .int x2, v3] [] h Q) (kf : ¬ (x2 < 0) → wpx d P_Cu_chooseNext 8 [.ref r0, .int x1, .int x2, v3] [] h Q) : wpx d P_Cu_chooseNext 4 [.ref r0, .int x1, .int x2, v3] [] h Q := by
  refine st_iload (pc' := 5) rfl rfl rfl ?_
  exact st_if_lt (pc' := 8) rfl rfl kt kf
theorem B_Cu_chooseNext_8 {d : Nat} {h : PH} {Q : PQ} {r0 : Nat} {x1 : Int32} {x2 : Int32} {v3 : Value} {a0 : Nat} {n1 : Nat} (hs0 : h_sh h r0 = some (0, 2)) (hr1 : h_r h r0 7 = some a0) (hs2 : h_sh h a0 = some (1, n1)) (hb3 : vp_in x2 n1) (kt : (h_i h a0 x2.toNatClampNeg) < (((h_i h r0 5) - x1) + x2) → wpx d P_Cu_chooseNext 31 [.ref r0, .int x1, .int x2, v3] [] h Q) (kf : ¬ ((h_i h a0 x2.toNatClampNeg) < (((h_i h r0 5) - x1) + x2)) → wpx d P_Cu_chooseNext 25 [.ref r0, .int x1, .int x2, v3] [] h Q) : wpx d P_Cu_chooseNext 8 [.ref r0, .int x1, .int x2, v3] [] h Q := by
  refine st_aload (pc' := 9) rfl rfl rfl ?_
  refine st_getfr (x := some a0) (Or.inl rfl) rfl hs0 rfl hr1 (pc' := 12) rfl ?_
  refine st_iload (pc' := 13) rfl rfl rfl ?_
  refine st_iaload rfl hs2 hb3 (j := x2.toNatClampNeg) rfl (pc' := 14) rfl ?_
  refine st_aload (pc' := 15) rfl rfl rfl ?_
  refine st_getfi (Or.inl rfl) rfl hs0 rfl (pc' := 18) rfl ?_
  refine st_iload (pc' := 19) rfl rfl rfl ?_
  refine st_isub (pc' := 20) rfl rfl ?_
  refine st_iload (pc' := 21) rfl rfl rfl ?_
  refine st_iadd (pc' := 22) rfl rfl ?_
  exact st_icmp_lt (pc' := 25) rfl rfl kt kf
theorem B_Cu_chooseNext_25 {d : Nat} {h : PH} {Q : PQ} {r0 : Nat} {x1 : Int32} {x2 : Int32} {v3 : Value}  (k : wpx d P_Cu_chooseNext 4 [.ref r0, .int x1, .int (x2 + (-1)), v3] [] h Q) : wpx d P_Cu_chooseNext 25 [.ref r0, .int x1, .int x2, v3] [] h Q := by
  refine st_iinc (pc' := 28) (v := (-1)) (ls' := [.ref r0, .int x1, .int (x2 + (-1)), v3]) rfl rfl rfl (by decide) rfl ?_
  exact st_goto rfl k
theorem B_Cu_chooseNext_31 {d : Nat} {h : PH} {Q : PQ} {r0 : Nat} {x1 : Int32} {x2 : Int32} {v3 : Value}  (kt : 0 ≤ x2 → wpx d P_Cu_chooseNext 37 [.ref r0, .int x1, .int x2, v3] [] h Q) (kf : ¬ (0 ≤ x2) → wpx d P_Cu_chooseNext 35 [.ref r0, .int x1, .int x2, v3] [] h Q) : wpx d P_Cu_chooseNext 31 [.ref r0, .int x1, .int x2, v3] [] h Q := by
  refine st_iload (pc' := 32) rfl rfl rfl ?_
  exact st_if_ge (pc' := 35) rfl rfl kt kf
theorem B_Cu_chooseNext_35 {d : Nat} {h : PH} {Q : PQ} {r0 : Nat} {x1 : Int32} {x2 : Int32} {v3 : Value}  (k : Q (some (.int 0)) h) : wpx d P_Cu_chooseNext 35 [.ref r0, .int x1, .int x2, v3] [] h Q := by
  refine st_ipush (pc' := 36) (v := 0) rfl rfl (by decide) ?_
  exact st_ireturn (ty := .boolean) rfl rfl (by decide) k
theorem B_Cu_chooseNext_37 {d : Nat} {h : PH} {Q : PQ} {r0 : Nat} {x1 : Int32} {x2 : Int32} {v3 : Value} {a0 : Nat} {n1 : Nat} (hs0 : h_sh h r0 = some (0, 2)) (hr1 : h_r h r0 7 = some a0) (hs2 : h_sh h a0 = some (1, n1)) (hb3 : vp_in x2 n1) (k : wpx d P_Cu_chooseNext 51 [.ref r0, .int x1, .int x2, .int (x2 + (1 : Int32))] [] (w_i h a0 x2.toNatClampNeg ((h_i h a0 x2.toNatClampNeg) + (1 : Int32))) Q) : wpx d P_Cu_chooseNext 37 [.ref r0, .int x1, .int x2, v3] [] h Q := by
  refine st_aload (pc' := 38) rfl rfl rfl ?_
  refine st_getfr (x := some a0) (Or.inl rfl) rfl hs0 rfl hr1 (pc' := 41) rfl ?_
  refine st_iload (pc' := 42) rfl rfl rfl ?_
  refine st_dup211 (pc' := 43) rfl rfl ⟨rfl, rfl⟩ ?_
  refine st_iaload rfl hs2 hb3 (j := x2.toNatClampNeg) rfl (pc' := 44) rfl ?_
  refine st_ipush (pc' := 45) (v := 1) rfl rfl (by decide) ?_
  refine st_iadd (pc' := 46) rfl rfl ?_
  refine st_iastore rfl hs2 hb3 (j := x2.toNatClampNeg) rfl (pc' := 47) rfl ?_
  refine st_iload (pc' := 48) rfl rfl rfl ?_
  refine st_ipush (pc' := 49) (v := 1) rfl rfl (by decide) ?_
  refine st_iadd (pc' := 50) rfl rfl ?_
  refine st_istore (pc' := 51) (ls' := [.ref r0, .int x1, .int x2, .int (x2 + (1 : Int32))]) rfl rfl (Nat.le_of_ble_eq_true rfl) rfl ?_
  exact k
theorem B_Cu_chooseNext_51 {d : Nat} {h : PH} {Q : PQ} {r0 : Nat} {x1 : Int32} {x2 : Int32} {x3 : Int32}  (kt : x1 ≤ x3 → wpx d P_Cu_chooseNext 78 [.ref r0, .int x1, .int x2, .int x3] [] h Q) (kf : ¬ (x1 ≤ x3) → wpx d P_Cu_chooseNext 56 [.ref r0, .int x1, .int x2, .int x3] [] h Q) : wpx d P_Cu_chooseNext 51 [.ref r0, .int x1, .int x2, .int x3] [] h Q := by
  refine st_iload (pc' := 52) rfl rfl rfl ?_
  refine st_iload (pc' := 53) rfl rfl rfl ?_
  exact st_icmp_ge (pc' := 56) rfl rfl kt kf
theorem B_Cu_chooseNext_56 {d : Nat} {h : PH} {Q : PQ} {r0 : Nat} {x1 : Int32} {x2 : Int32} {x3 : Int32} {a0 : Nat} {n1 : Nat} (hs0 : h_sh h r0 = some (0, 2)) (hr1 : h_r h r0 7 = some a0) (hs2 : h_sh h a0 = some (1, n1)) (hb3 : vp_in (x3 - (1 : Int32)) n1) (hb4 : vp_in x3 n1) (k : wpx d P_Cu_chooseNext 51 [.ref r0, .int x1, .int x2, .int (x3 + 1)] [] (w_i h a0 x3.toNatClampNeg ((h_i h a0 (x3 - (1 : Int32)).toNatClampNeg) + (1 : Int32))) Q) : wpx d P_Cu_chooseNext 56 [.ref r0, .int x1, .int x2, .int x3] [] h Q := by
  refine st_aload (pc' := 57) rfl rfl rfl ?_
  refine st_getfr (x := some a0) (Or.inl rfl) rfl hs0 rfl hr1 (pc' := 60) rfl ?_
  refine st_iload (pc' := 61) rfl rfl rfl ?_
  refine st_aload (pc' := 62) rfl rfl rfl ?_
  refine st_getfr (x := some a0) (Or.inl rfl) rfl hs0 rfl hr1 (pc' := 65) rfl ?_
  refine st_iload (pc' := 66) rfl rfl rfl ?_
  refine st_ipush (pc' := 67) (v := 1) rfl rfl (by decide) ?_
  refine st_isub (pc' := 68) rfl rfl ?_
  refine st_iaload rfl hs2 hb3 (j := (x3 - (1 : Int32)).toNatClampNeg) rfl (pc' := 69) rfl ?_
  refine st_ipush (pc' := 70) (v := 1) rfl rfl (by decide) ?_
  refine st_iadd (pc' := 71) rfl rfl ?_
  refine st_iastore rfl hs2 hb4 (j := x3.toNatClampNeg) rfl (pc' := 72) rfl ?_
  refine st_iinc (pc' := 75) (v := 1) (ls' := [.ref r0, .int x1, .int x2, .int (x3 + 1)]) rfl rfl rfl (by decide) rfl ?_
  exact st_goto rfl k
theorem B_Cu_chooseNext_78 {d : Nat} {h : PH} {Q : PQ} {r0 : Nat} {x1 : Int32} {x2 : Int32} {x3 : Int32}  (k : Q (some (.int 1)) h) : wpx d P_Cu_chooseNext 78 [.ref r0, .int x1, .int x2, .int x3] [] h Q := by
  refine st_ipush (pc' := 79) (v := 1) rfl rfl (by decide) ?_
  exact st_ireturn (ty := .boolean) rfl rfl (by decide) k
theorem B_Cu_isRefuted_0 {d : Nat} {h : PH} {Q : PQ} {r0 : Nat} {x1 : Int32} {v2 : Value}  (k : wpx d P_Cu_isRefuted 2 [.ref r0, .int x1, .int 0] [] h Q) : wpx d P_Cu_isRefuted 0 [.ref r0, .int x1, v2] [] h Q := by
  refine st_ipush (pc' := 1) (v := 0) rfl rfl (by decide) ?_
  refine st_istore (pc' := 2) (ls' := [.ref r0, .int x1, .int 0]) rfl rfl (Nat.le_of_ble_eq_true rfl) rfl ?_
  exact k
theorem B_Cu_isRefuted_2 {d : Nat} {h : PH} {Q : PQ} {r0 : Nat} {x1 : Int32} {x2 : Int32} (hs0 : h_sh h r0 = some (0, 2)) (kt : (h_i h r0 10) ≤ x2 → wpx d P_Cu_isRefuted 35 [.ref r0, .int x1, .int x2] [] h Q) (kf : ¬ ((h_i h r0 10) ≤ x2) → wpx d P_Cu_isRefuted 10 [.ref r0, .int x1, .int x2] [] h Q) : wpx d P_Cu_isRefuted 2 [.ref r0, .int x1, .int x2] [] h Q := by
  refine st_iload (pc' := 3) rfl rfl rfl ?_
  refine st_aload (pc' := 4) rfl rfl rfl ?_
  refine st_getfi (Or.inl rfl) rfl hs0 rfl (pc' := 7) rfl ?_
  exact st_icmp_ge (pc' := 10) rfl rfl kt kf
theorem B_Cu_isRefuted_10 {d : Nat} {h : PH} {Q : PQ} {r0 : Nat} {x1 : Int32} {x2 : Int32} {a0 : Nat} {n1 : Nat} {a2 : Nat} {n3 : Nat} (hs0 : h_sh h r0 = some (0, 2)) (hr1 : h_r h r0 8 = some a0) (hs2 : h_sh h a0 = some (1, n1)) (hb3 : vp_in x2 n1) (hr4 : h_r h r0 9 = some a2) (hs5 : h_sh h a2 = some (1, n3)) (hb6 : vp_in x2 n3) (kt : ¬ ((x1 &&& (h_i h a0 x2.toNatClampNeg)) = (h_i h a2 x2.toNatClampNeg)) → wpx d P_Cu_isRefuted 29 [.ref r0, .int x1, .int x2] [] h Q) (kf : (x1 &&& (h_i h a0 x2.toNatClampNeg)) = (h_i h a2 x2.toNatClampNeg) → wpx d P_Cu_isRefuted 27 [.ref r0, .int x1, .int x2] [] h Q) : wpx d P_Cu_isRefuted 10 [.ref r0, .int x1, .int x2] [] h Q := by
  refine st_iload (pc' := 11) rfl rfl rfl ?_
  refine st_aload (pc' := 12) rfl rfl rfl ?_
  refine st_getfr (x := some a0) (Or.inl rfl) rfl hs0 rfl hr1 (pc' := 15) rfl ?_
  refine st_iload (pc' := 16) rfl rfl rfl ?_
  refine st_iaload rfl hs2 hb3 (j := x2.toNatClampNeg) rfl (pc' := 17) rfl ?_
  refine st_iand (pc' := 18) rfl rfl ?_
  refine st_aload (pc' := 19) rfl rfl rfl ?_
  refine st_getfr (x := some a2) (Or.inl rfl) rfl hs0 rfl hr4 (pc' := 22) rfl ?_
  refine st_iload (pc' := 23) rfl rfl rfl ?_
  refine st_iaload rfl hs5 hb6 (j := x2.toNatClampNeg) rfl (pc' := 24) rfl ?_
  exact st_icmp_ne (pc' := 27) rfl rfl kt kf
theorem B_Cu_isRefuted_27 {d : Nat} {h : PH} {Q : PQ} {r0 : Nat} {x1 : Int32} {x2 : Int32}  (k : Q (some (.int 1)) h) : wpx d P_Cu_isRefuted 27 [.ref r0, .int x1, .int x2] [] h Q := by
  refine st_ipush (pc' := 28) (v := 1) rfl rfl (by decide) ?_
  exact st_ireturn (ty := .boolean) rfl rfl (by decide) k
theorem B_Cu_isRefuted_29 {d : Nat} {h : PH} {Q : PQ} {r0 : Nat} {x1 : Int32} {x2 : Int32}  (k : wpx d P_Cu_isRefuted 2 [.ref r0, .int x1, .int (x2 + 1)] [] h Q) : wpx d P_Cu_isRefuted 29 [.ref r0, .int x1, .int x2] [] h Q := by
  refine st_iinc (pc' := 32) (v := 1) (ls' := [.ref r0, .int x1, .int (x2 + 1)]) rfl rfl rfl (by decide) rfl ?_
  exact st_goto rfl k
theorem B_Cu_isRefuted_35 {d : Nat} {h : PH} {Q : PQ} {r0 : Nat} {x1 : Int32} {x2 : Int32}  (k : Q (some (.int 0)) h) : wpx d P_Cu_isRefuted 35 [.ref r0, .int x1, .int x2] [] h Q := by
  refine st_ipush (pc' := 36) (v := 0) rfl rfl (by decide) ?_
  exact st_ireturn (ty := .boolean) rfl rfl (by decide) k
theorem B_Cu_heals_0 {d : Nat} {h : PH} {Q : PQ} {r0 : Nat} {r1 : Nat} {x2 : Int32} {x3 : Int32} {v4 : Value} {a0 : Nat} (hs0 : h_sh h r0 = some (0, 2)) (hr1 : h_r h r0 0 = some a0) (hs2 : h_sh h a0 = some (0, 3)) (k : wpm d 37 [.ref a0, .ref r1] h (fun r h' => wpx d P_Cu_heals 8 [.ref r0, .ref r1, .int x2, .int x3, v4] (r.toList ++ []) h' Q)) : wpx d P_Cu_heals 0 [.ref r0, .ref r1, .int x2, .int x3, v4] [] h Q := by
  refine st_aload (pc' := 1) rfl rfl rfl ?_
  refine st_getfr (x := some a0) (Or.inl rfl) rfl hs0 rfl hr1 (pc' := 4) rfl ?_
  refine st_aload (pc' := 5) rfl rfl rfl ?_
  exact st_call (pc' := 8) (as := [.ref a0, .ref r1]) (rest := []) rfl rfl (Nat.le_of_ble_eq_true rfl) rfl rfl (Nat.le_of_ble_eq_true rfl) (kd := 1) (o := 3) rfl rfl (beq_iff_eq.mpr hs2) k
theorem B_Cu_heals_8 {d : Nat} {h : PH} {Q : PQ} {r0 : Nat} {r1 : Nat} {x2 : Int32} {x3 : Int32} {v4 : Value} {a0 : Nat} (hs0 : h_sh h r0 = some (0, 2)) (hr1 : h_r h r0 0 = some a0) (hs2 : h_sh h a0 = some (0, 3)) (k : wpm d 40 [.ref a0, .int x2, .int x3] h (fun r h' => wpx d P_Cu_heals 17 [.ref r0, .ref r1, .int x2, .int x3, v4] (r.toList ++ []) h' Q)) : wpx d P_Cu_heals 8 [.ref r0, .ref r1, .int x2, .int x3, v4] [] h Q := by
  refine st_aload (pc' := 9) rfl rfl rfl ?_
  refine st_getfr (x := some a0) (Or.inl rfl) rfl hs0 rfl hr1 (pc' := 12) rfl ?_
  refine st_iload (pc' := 13) rfl rfl rfl ?_
  refine st_iload (pc' := 14) rfl rfl rfl ?_
  exact st_call (pc' := 17) (as := [.ref a0, .int x2, .int x3]) (rest := []) rfl rfl (Nat.le_of_ble_eq_true rfl) rfl rfl (Nat.le_of_ble_eq_true rfl) (kd := 1) (o := 3) rfl rfl (beq_iff_eq.mpr hs2) k
theorem B_Cu_heals_17 {d : Nat} {h : PH} {Q : PQ} {r0 : Nat} {r1 : Nat} {x2 : Int32} {x3 : Int32} {v4 : Value} {a0 : Nat} {a1 : Nat} (hs0 : h_sh h r0 = some (0, 2)) (hr1 : h_r h r0 1 = some a0) (hr2 : h_r h r0 0 = some a1) (hs3 : h_sh h a0 = some (0, 6)) (k : wpm d 69 [.ref a0, .ref a1, .int 1] h (fun r h' => wpx d P_Cu_heals 29 [.ref r0, .ref r1, .int x2, .int x3, v4] (r.toList ++ []) h' Q)) : wpx d P_Cu_heals 17 [.ref r0, .ref r1, .int x2, .int x3, v4] [] h Q := by
  refine st_aload (pc' := 18) rfl rfl rfl ?_
  refine st_getfr (x := some a0) (Or.inl rfl) rfl hs0 rfl hr1 (pc' := 21) rfl ?_
  refine st_aload (pc' := 22) rfl rfl rfl ?_
  refine st_getfr (x := some a1) (Or.inl rfl) rfl hs0 rfl hr2 (pc' := 25) rfl ?_
  refine st_ipush (pc' := 26) (v := 1) rfl rfl (by decide) ?_
  exact st_call (pc' := 29) (as := [.ref a0, .ref a1, .int 1]) (rest := []) rfl rfl (Nat.le_of_ble_eq_true rfl) rfl rfl (Nat.le_of_ble_eq_true rfl) (kd := 1) (o := 6) rfl rfl (beq_iff_eq.mpr hs3) k
theorem B_Cu_heals_29 {d : Nat} {h : PH} {Q : PQ} {r0 : Nat} {r1 : Nat} {x2 : Int32} {x3 : Int32} {v4 : Value} {a0 : Nat} (hs0 : h_sh h r0 = some (0, 2)) (hr1 : h_r h r0 1 = some a0) (hs2 : h_sh h a0 = some (0, 6)) (kt : ¬ ((h_i h a0 6) = ((-1) : Int32)) → wpx d P_Cu_heals 42 [.ref r0, .ref r1, .int x2, .int x3, v4] [] h Q) (kf : (h_i h a0 6) = ((-1) : Int32) → wpx d P_Cu_heals 40 [.ref r0, .ref r1, .int x2, .int x3, v4] [] h Q) : wpx d P_Cu_heals 29 [.ref r0, .ref r1, .int x2, .int x3, v4] [] h Q := by
  refine st_aload (pc' := 30) rfl rfl rfl ?_
  refine st_getfr (x := some a0) (Or.inl rfl) rfl hs0 rfl hr1 (pc' := 33) rfl ?_
  refine st_getfi (Or.inr rfl) rfl hs2 rfl (pc' := 36) rfl ?_
  refine st_ipush (pc' := 37) (v := (-1)) rfl rfl (by decide) ?_
  exact st_icmp_ne (pc' := 40) rfl rfl kt kf
theorem B_Cu_heals_40 {d : Nat} {h : PH} {Q : PQ} {r0 : Nat} {r1 : Nat} {x2 : Int32} {x3 : Int32} {v4 : Value}  (k : Q (some (.int 1)) h) : wpx d P_Cu_heals 40 [.ref r0, .ref r1, .int x2, .int x3, v4] [] h Q := by
  refine st_ipush (pc' := 41) (v := 1) rfl rfl (by decide) ?_
  exact st_ireturn (ty := .boolean) rfl rfl (by decide) k
theorem B_Cu_heals_42 {d : Nat} {h : PH} {Q : PQ} {r0 : Nat} {r1 : Nat} {x2 : Int32} {x3 : Int32} {v4 : Value} {a0 : Nat} (hs0 : h_sh h r0 = some (0, 2)) (hr1 : h_r h r0 1 = some a0) (hs2 : h_sh h a0 = some (0, 6)) (kt : ¬ (((h_i h a0 7) &&& (h_i h r0 6)) = 0) → wpx d P_Cu_heals 66 [.ref r0, .ref r1, .int x2, .int x3, .int ((h_i h a0 7) &&& (h_i h r0 6))] [.ref r0] h Q) (kf : ((h_i h a0 7) &&& (h_i h r0 6)) = 0 → wpx d P_Cu_heals 62 [.ref r0, .ref r1, .int x2, .int x3, .int ((h_i h a0 7) &&& (h_i h r0 6))] [.ref r0] h Q) : wpx d P_Cu_heals 42 [.ref r0, .ref r1, .int x2, .int x3, v4] [] h Q := by
  refine st_aload (pc' := 43) rfl rfl rfl ?_
  refine st_getfr (x := some a0) (Or.inl rfl) rfl hs0 rfl hr1 (pc' := 46) rfl ?_
  refine st_getfi (Or.inr rfl) rfl hs2 rfl (pc' := 49) rfl ?_
  refine st_aload (pc' := 50) rfl rfl rfl ?_
  refine st_getfi (Or.inl rfl) rfl hs0 rfl (pc' := 53) rfl ?_
  refine st_iand (pc' := 54) rfl rfl ?_
  refine st_istore (pc' := 56) (ls' := [.ref r0, .ref r1, .int x2, .int x3, .int ((h_i h a0 7) &&& (h_i h r0 6))]) rfl rfl (Nat.le_of_ble_eq_true rfl) rfl ?_
  refine st_aload (pc' := 57) rfl rfl rfl ?_
  refine st_iload (pc' := 59) rfl rfl rfl ?_
  exact st_if_ne (pc' := 62) rfl rfl kt kf
theorem B_Cu_heals_62 {d : Nat} {h : PH} {Q : PQ} {r0 : Nat} {r1 : Nat} {x2 : Int32} {x3 : Int32} {x4 : Int32} {q0 : Nat}  (k : wpx d P_Cu_heals 67 [.ref r0, .ref r1, .int x2, .int x3, .int x4] [.int 1, .ref q0] h Q) : wpx d P_Cu_heals 62 [.ref r0, .ref r1, .int x2, .int x3, .int x4] [.ref q0] h Q := by
  refine st_ipush (pc' := 63) (v := 1) rfl rfl (by decide) ?_
  exact st_goto rfl k
theorem B_Cu_heals_66 {d : Nat} {h : PH} {Q : PQ} {r0 : Nat} {r1 : Nat} {x2 : Int32} {x3 : Int32} {x4 : Int32} {q0 : Nat}  (k : wpx d P_Cu_heals 67 [.ref r0, .ref r1, .int x2, .int x3, .int x4] [.int 0, .ref q0] h Q) : wpx d P_Cu_heals 66 [.ref r0, .ref r1, .int x2, .int x3, .int x4] [.ref q0] h Q := by
  refine st_ipush (pc' := 67) (v := 0) rfl rfl (by decide) ?_
  exact k
theorem B_Cu_heals_67 {d : Nat} {h : PH} {Q : PQ} {r0 : Nat} {r1 : Nat} {x2 : Int32} {x3 : Int32} {x4 : Int32} {q0 : Nat} {s1 : Int32} (hs0 : h_sh h q0 = some (0, 2)) (hz1 : narrow .boolean (.int s1) = .int s1) (hz2 : fits .boolean (.int s1) = true) (hs3 : h_sh h r0 = some (0, 2)) (kt : (1024 : Int32) ≤ (h_i (w_i h q0 11 s1) r0 10) → wpx d P_Cu_heals 114 [.ref r0, .ref r1, .int x2, .int x3, .int x4] [] (w_i h q0 11 s1) Q) (kf : ¬ ((1024 : Int32) ≤ (h_i (w_i h q0 11 s1) r0 10)) → wpx d P_Cu_heals 80 [.ref r0, .ref r1, .int x2, .int x3, .int x4] [] (w_i h q0 11 s1) Q) : wpx d P_Cu_heals 67 [.ref r0, .ref r1, .int x2, .int x3, .int x4] [.int s1, .ref q0] h Q := by
  refine st_putf (h' := w_i h q0 11 s1) (Or.inl rfl) rfl hs0 hz1 hz2 rfl (pc' := 70) rfl ?_
  refine st_aload (pc' := 71) rfl rfl rfl ?_
  refine st_getfi (Or.inl rfl) rfl hs3 rfl (pc' := 74) rfl ?_
  refine st_ipush (pc' := 77) (v := 1024) rfl rfl (by decide) ?_
  exact st_icmp_ge (pc' := 80) rfl rfl kt kf
theorem B_Cu_heals_80 {d : Nat} {h : PH} {Q : PQ} {r0 : Nat} {r1 : Nat} {x2 : Int32} {x3 : Int32} {x4 : Int32} {a0 : Nat} {n1 : Nat} {a2 : Nat} {n3 : Nat} (hs0 : h_sh h r0 = some (0, 2)) (hr1 : h_r h r0 8 = some a0) (hs2 : h_sh h a0 = some (1, n1)) (hb3 : vp_in (h_i h r0 10) n1) (hr4 : h_r h r0 9 = some a2) (hs5 : h_sh h a2 = some (1, n3)) (hb6 : vp_in (h_i (w_i h a0 ((h_i h r0 10).toNatClampNeg) x4) r0 10) n3) (k : wpx d P_Cu_heals 114 [.ref r0, .ref r1, .int x2, .int x3, .int x4] [] (w_i (w_i (w_i h a0 ((h_i h r0 10).toNatClampNeg) x4) a2 ((h_i (w_i h a0 ((h_i h r0 10).toNatClampNeg) x4) r0 10).toNatClampNeg) (x3 &&& x4)) r0 10 ((h_i (w_i (w_i h a0 ((h_i h r0 10).toNatClampNeg) x4) a2 ((h_i (w_i h a0 ((h_i h r0 10).toNatClampNeg) x4) r0 10).toNatClampNeg) (x3 &&& x4)) r0 10) + (1 : Int32))) Q) : wpx d P_Cu_heals 80 [.ref r0, .ref r1, .int x2, .int x3, .int x4] [] h Q := by
  refine st_aload (pc' := 81) rfl rfl rfl ?_
  refine st_getfr (x := some a0) (Or.inl rfl) rfl hs0 rfl hr1 (pc' := 84) rfl ?_
  refine st_aload (pc' := 85) rfl rfl rfl ?_
  refine st_getfi (Or.inl rfl) rfl hs0 rfl (pc' := 88) rfl ?_
  refine st_iload (pc' := 90) rfl rfl rfl ?_
  refine st_iastore rfl hs2 hb3 (j := (h_i h r0 10).toNatClampNeg) rfl (pc' := 91) rfl ?_
  refine st_aload (pc' := 92) rfl rfl rfl ?_
  refine st_getfr (x := some a2) (Or.inl rfl) rfl hs0 rfl hr4 (pc' := 95) rfl ?_
  refine st_aload (pc' := 96) rfl rfl rfl ?_
  refine st_getfi (Or.inl rfl) rfl hs0 rfl (pc' := 99) rfl ?_
  refine st_iload (pc' := 100) rfl rfl rfl ?_
  refine st_iload (pc' := 102) rfl rfl rfl ?_
  refine st_iand (pc' := 103) rfl rfl ?_
  refine st_iastore rfl hs5 hb6 (j := (h_i (w_i h a0 ((h_i h r0 10).toNatClampNeg) x4) r0 10).toNatClampNeg) rfl (pc' := 104) rfl ?_
  refine st_aload (pc' := 105) rfl rfl rfl ?_
  refine st_dup (pc' := 106) rfl rfl rfl ?_
  refine st_getfi (Or.inl rfl) rfl hs0 rfl (pc' := 109) rfl ?_
  refine st_ipush (pc' := 110) (v := 1) rfl rfl (by decide) ?_
  refine st_iadd (pc' := 111) rfl rfl ?_
  refine st_putf (h' := w_i (w_i (w_i h a0 ((h_i h r0 10).toNatClampNeg) x4) a2 ((h_i (w_i h a0 ((h_i h r0 10).toNatClampNeg) x4) r0 10).toNatClampNeg) (x3 &&& x4)) r0 10 ((h_i (w_i (w_i h a0 ((h_i h r0 10).toNatClampNeg) x4) a2 ((h_i (w_i h a0 ((h_i h r0 10).toNatClampNeg) x4) r0 10).toNatClampNeg) (x3 &&& x4)) r0 10) + (1 : Int32))) (Or.inl rfl) rfl hs0 rfl rfl rfl (pc' := 114) rfl ?_
  exact k
theorem B_Cu_heals_114 {d : Nat} {h : PH} {Q : PQ} {r0 : Nat} {r1 : Nat} {x2 : Int32} {x3 : Int32} {x4 : Int32}  (k : Q (some (.int 0)) h) : wpx d P_Cu_heals 114 [.ref r0, .ref r1, .int x2, .int x3, .int x4] [] h Q := by
  refine st_ipush (pc' := 115) (v := 0) rfl rfl (by decide) ?_
  exact st_ireturn (ty := .boolean) rfl rfl (by decide) k
theorem B_Ta_init_0 {d : Nat} {h : PH} {Q : PQ} {r0 : Nat} (hs0 : h_sh (h_new h (4, 98) 98) r0 = some (0, 6)) (hs1 : h_sh (h_new (w_r (h_new h (4, 98) 98) r0 0 (some (h_ct h))) (1, 98) 98) r0 = some (0, 6)) (hs2 : h_sh (h_new (w_r (h_new (w_r (h_new h (4, 98) 98) r0 0 (some (h_ct h))) (1, 98) 98) r0 1 (some (h_ct (w_r (h_new h (4, 98) 98) r0 0 (some (h_ct h)))))) (1, 98) 98) r0 = some (0, 6)) (k : wpx d P_Ta_init 28 [.ref r0] [] (w_r (h_new (w_r (h_new (w_r (h_new h (4, 98) 98) r0 0 (some (h_ct h))) (1, 98) 98) r0 1 (some (h_ct (w_r (h_new h (4, 98) 98) r0 0 (some (h_ct h)))))) (1, 98) 98) r0 2 (some (h_ct (w_r (h_new (w_r (h_new h (4, 98) 98) r0 0 (some (h_ct h))) (1, 98) 98) r0 1 (some (h_ct (w_r (h_new h (4, 98) 98) r0 0 (some (h_ct h))))))))) Q) : wpx d P_Ta_init 0 [.ref r0] [] h Q := by
  refine st_aload (pc' := 1) rfl rfl rfl ?_
  refine st_oinit (pc' := 4) rfl rfl (Nat.le_of_ble_eq_true rfl) ?_
  refine st_aload (pc' := 5) rfl rfl rfl ?_
  refine st_ipush (pc' := 7) (v := 98) rfl rfl (by decide) ?_
  refine st_newL rfl (by decide) (j := 98) (by decide) (pc' := 9) rfl ?_
  refine st_putf (h' := w_r (h_new h (4, 98) 98) r0 0 (some (h_ct h))) (Or.inr (Or.inr rfl)) rfl hs0 rfl rfl rfl (pc' := 12) rfl ?_
  refine st_aload (pc' := 13) rfl rfl rfl ?_
  refine st_ipush (pc' := 15) (v := 98) rfl rfl (by decide) ?_
  refine st_newI rfl (by decide) (j := 98) (by decide) (pc' := 17) rfl ?_
  refine st_putf (h' := w_r (h_new (w_r (h_new h (4, 98) 98) r0 0 (some (h_ct h))) (1, 98) 98) r0 1 (some (h_ct (w_r (h_new h (4, 98) 98) r0 0 (some (h_ct h)))))) (Or.inr (Or.inr rfl)) rfl hs1 rfl rfl rfl (pc' := 20) rfl ?_
  refine st_aload (pc' := 21) rfl rfl rfl ?_
  refine st_ipush (pc' := 23) (v := 98) rfl rfl (by decide) ?_
  refine st_newI rfl (by decide) (j := 98) (by decide) (pc' := 25) rfl ?_
  refine st_putf (h' := w_r (h_new (w_r (h_new (w_r (h_new h (4, 98) 98) r0 0 (some (h_ct h))) (1, 98) 98) r0 1 (some (h_ct (w_r (h_new h (4, 98) 98) r0 0 (some (h_ct h)))))) (1, 98) 98) r0 2 (some (h_ct (w_r (h_new (w_r (h_new h (4, 98) 98) r0 0 (some (h_ct h))) (1, 98) 98) r0 1 (some (h_ct (w_r (h_new h (4, 98) 98) r0 0 (some (h_ct h))))))))) (Or.inr (Or.inr rfl)) rfl hs2 rfl rfl rfl (pc' := 28) rfl ?_
  exact k
theorem B_Ta_init_28 {d : Nat} {h : PH} {Q : PQ} {r0 : Nat} (hs0 : h_sh (h_new h (1, 100) 100) r0 = some (0, 6)) (hs1 : h_sh (h_new (w_i (w_i (w_r (h_new h (1, 100) 100) r0 4 (some (h_ct h))) r0 6 (-1)) r0 8 (-1)) (1, 98) 98) r0 = some (0, 6)) (hs2 : h_sh (h_new (w_r (h_new (w_i (w_i (w_r (h_new h (1, 100) 100) r0 4 (some (h_ct h))) r0 6 (-1)) r0 8 (-1)) (1, 98) 98) r0 9 (some (h_ct (w_i (w_i (w_r (h_new h (1, 100) 100) r0 4 (some (h_ct h))) r0 6 (-1)) r0 8 (-1))))) (1, 1372) 1372) r0 = some (0, 6)) (k : wpx d P_Ta_init 63 [.ref r0] [] (w_r (h_new (w_r (h_new (w_i (w_i (w_r (h_new h (1, 100) 100) r0 4 (some (h_ct h))) r0 6 (-1)) r0 8 (-1)) (1, 98) 98) r0 9 (some (h_ct (w_i (w_i (w_r (h_new h (1, 100) 100) r0 4 (some (h_ct h))) r0 6 (-1)) r0 8 (-1))))) (1, 1372) 1372) r0 10 (some (h_ct (w_r (h_new (w_i (w_i (w_r (h_new h (1, 100) 100) r0 4 (some (h_ct h))) r0 6 (-1)) r0 8 (-1)) (1, 98) 98) r0 9 (some (h_ct (w_i (w_i (w_r (h_new h (1, 100) 100) r0 4 (some (h_ct h))) r0 6 (-1)) r0 8 (-1)))))))) Q) : wpx d P_Ta_init 28 [.ref r0] [] h Q := by
  refine st_aload (pc' := 29) rfl rfl rfl ?_
  refine st_ipush (pc' := 31) (v := 100) rfl rfl (by decide) ?_
  refine st_newI rfl (by decide) (j := 100) (by decide) (pc' := 33) rfl ?_
  refine st_putf (h' := w_r (h_new h (1, 100) 100) r0 4 (some (h_ct h))) (Or.inr (Or.inr rfl)) rfl hs0 rfl rfl rfl (pc' := 36) rfl ?_
  refine st_aload (pc' := 37) rfl rfl rfl ?_
  refine st_ipush (pc' := 38) (v := (-1)) rfl rfl (by decide) ?_
  refine st_putf (h' := w_i (w_r (h_new h (1, 100) 100) r0 4 (some (h_ct h))) r0 6 (-1)) (Or.inl rfl) rfl hs0 rfl rfl rfl (pc' := 41) rfl ?_
  refine st_aload (pc' := 42) rfl rfl rfl ?_
  refine st_ipush (pc' := 43) (v := (-1)) rfl rfl (by decide) ?_
  refine st_putf (h' := w_i (w_i (w_r (h_new h (1, 100) 100) r0 4 (some (h_ct h))) r0 6 (-1)) r0 8 (-1)) (Or.inl rfl) rfl hs0 rfl rfl rfl (pc' := 46) rfl ?_
  refine st_aload (pc' := 47) rfl rfl rfl ?_
  refine st_ipush (pc' := 49) (v := 98) rfl rfl (by decide) ?_
  refine st_newI rfl (by decide) (j := 98) (by decide) (pc' := 51) rfl ?_
  refine st_putf (h' := w_r (h_new (w_i (w_i (w_r (h_new h (1, 100) 100) r0 4 (some (h_ct h))) r0 6 (-1)) r0 8 (-1)) (1, 98) 98) r0 9 (some (h_ct (w_i (w_i (w_r (h_new h (1, 100) 100) r0 4 (some (h_ct h))) r0 6 (-1)) r0 8 (-1))))) (Or.inr (Or.inr rfl)) rfl hs1 rfl rfl rfl (pc' := 54) rfl ?_
  refine st_aload (pc' := 55) rfl rfl rfl ?_
  refine st_ipush (pc' := 58) (v := 1372) rfl rfl (by decide) ?_
  refine st_newI rfl (by decide) (j := 1372) (by decide) (pc' := 60) rfl ?_
  refine st_putf (h' := w_r (h_new (w_r (h_new (w_i (w_i (w_r (h_new h (1, 100) 100) r0 4 (some (h_ct h))) r0 6 (-1)) r0 8 (-1)) (1, 98) 98) r0 9 (some (h_ct (w_i (w_i (w_r (h_new h (1, 100) 100) r0 4 (some (h_ct h))) r0 6 (-1)) r0 8 (-1))))) (1, 1372) 1372) r0 10 (some (h_ct (w_r (h_new (w_i (w_i (w_r (h_new h (1, 100) 100) r0 4 (some (h_ct h))) r0 6 (-1)) r0 8 (-1)) (1, 98) 98) r0 9 (some (h_ct (w_i (w_i (w_r (h_new h (1, 100) 100) r0 4 (some (h_ct h))) r0 6 (-1)) r0 8 (-1)))))))) (Or.inr (Or.inr rfl)) rfl hs2 rfl rfl rfl (pc' := 63) rfl ?_
  exact k
theorem B_Ta_init_63 {d : Nat} {h : PH} {Q : PQ} {r0 : Nat} (hs0 : h_sh (h_new h (1, 1372) 1372) r0 = some (0, 6)) (k : Q none (w_r (h_new h (1, 1372) 1372) r0 11 (some (h_ct h)))) : wpx d P_Ta_init 63 [.ref r0] [] h Q := by
  refine st_aload (pc' := 64) rfl rfl rfl ?_
  refine st_ipush (pc' := 67) (v := 1372) rfl rfl (by decide) ?_
  refine st_newI rfl (by decide) (j := 1372) (by decide) (pc' := 69) rfl ?_
  refine st_putf (h' := w_r (h_new h (1, 1372) 1372) r0 11 (some (h_ct h))) (Or.inr (Or.inr rfl)) rfl hs0 rfl rfl rfl (pc' := 72) rfl ?_
  exact st_return rfl k
theorem B_Ta_build_0 {d : Nat} {h : PH} {Q : PQ} {r0 : Nat} {r1 : Nat} {x2 : Int32} {v3 : Value} {a0 : Nat} {n1 : Nat} (hs0 : h_sh h r1 = some (0, 3)) (hs1 : h_sh h r0 = some (0, 6)) (hr2 : h_r h r0 4 = some a0) (hs3 : h_sh h a0 = some (1, n1)) (hb4 : vp_in 1 n1) (k : wpm d 70 [.ref r0, .ref r1] (w_i (w_i (w_i (w_i (w_i (w_i h r0 8 (h_i h r1 6)) r0 3 0) r0 5 0) r0 6 (-1)) r0 7 0) a0 1 0) (fun r h' => wpx d P_Ta_build 40 [.ref r0, .ref r1, .int x2, v3] (r.toList ++ []) h' Q)) : wpx d P_Ta_build 0 [.ref r0, .ref r1, .int x2, v3] [] h Q := by
  refine st_aload (pc' := 1) rfl rfl rfl ?_
  refine st_aload (pc' := 2) rfl rfl rfl ?_
  refine st_getfi (Or.inr rfl) rfl hs0 rfl (pc' := 5) rfl ?_
  refine st_putf (h' := w_i h r0 8 (h_i h r1 6)) (Or.inl rfl) rfl hs1 rfl rfl rfl (pc' := 8) rfl ?_
  refine st_aload (pc' := 9) rfl rfl rfl ?_
  refine st_ipush (pc' := 10) (v := 0) rfl rfl (by decide) ?_
  refine st_putf (h' := w_i (w_i h r0 8 (h_i h r1 6)) r0 3 0) (Or.inl rfl) rfl hs1 rfl rfl rfl (pc' := 13) rfl ?_
  refine st_aload (pc' := 14) rfl rfl rfl ?_
  refine st_ipush (pc' := 15) (v := 0) rfl rfl (by decide) ?_
  refine st_putf (h' := w_i (w_i (w_i h r0 8 (h_i h r1 6)) r0 3 0) r0 5 0) (Or.inl rfl) rfl hs1 rfl rfl rfl (pc' := 18) rfl ?_
  refine st_aload (pc' := 19) rfl rfl rfl ?_
  refine st_ipush (pc' := 20) (v := (-1)) rfl rfl (by decide) ?_
  refine st_putf (h' := w_i (w_i (w_i (w_i h r0 8 (h_i h r1 6)) r0 3 0) r0 5 0) r0 6 (-1)) (Or.inl rfl) rfl hs1 rfl rfl rfl (pc' := 23) rfl ?_
  refine st_aload (pc' := 24) rfl rfl rfl ?_
  refine st_ipush (pc' := 25) (v := 0) rfl rfl (by decide) ?_
  refine st_putf (h' := w_i (w_i (w_i (w_i (w_i h r0 8 (h_i h r1 6)) r0 3 0) r0 5 0) r0 6 (-1)) r0 7 0) (Or.inl rfl) rfl hs1 rfl rfl rfl (pc' := 28) rfl ?_
  refine st_aload (pc' := 29) rfl rfl rfl ?_
  refine st_getfr (x := some a0) (Or.inl rfl) rfl hs1 rfl hr2 (pc' := 32) rfl ?_
  refine st_ipush (pc' := 33) (v := 1) rfl rfl (by decide) ?_
  refine st_ipush (pc' := 34) (v := 0) rfl rfl (by decide) ?_
  refine st_iastore rfl hs3 hb4 (j := 1) (by decide) (pc' := 35) rfl ?_
  refine st_aload (pc' := 36) rfl rfl rfl ?_
  refine st_aload (pc' := 37) rfl rfl rfl ?_
  exact st_call (pc' := 40) (as := [.ref r0, .ref r1]) (rest := []) rfl rfl (Nat.le_of_ble_eq_true rfl) rfl rfl (Nat.le_of_ble_eq_true rfl) (kd := 1) (o := 6) rfl rfl (beq_iff_eq.mpr hs1) k
theorem B_Ta_build_40 {d : Nat} {h : PH} {Q : PQ} {r0 : Nat} {r1 : Nat} {x2 : Int32} {v3 : Value}  (k : wpx d P_Ta_build 42 [.ref r0, .ref r1, .int x2, .int 1] [] h Q) : wpx d P_Ta_build 40 [.ref r0, .ref r1, .int x2, v3] [] h Q := by
  refine st_ipush (pc' := 41) (v := 1) rfl rfl (by decide) ?_
  refine st_istore (pc' := 42) (ls' := [.ref r0, .ref r1, .int x2, .int 1]) rfl rfl (Nat.le_of_ble_eq_true rfl) rfl ?_
  exact k
theorem B_Ta_build_42 {d : Nat} {h : PH} {Q : PQ} {r0 : Nat} {r1 : Nat} {x2 : Int32} {x3 : Int32}  (kt : (98 : Int32) < x3 → wpx d P_Ta_build 144 [.ref r0, .ref r1, .int x2, .int x3] [] h Q) (kf : ¬ ((98 : Int32) < x3) → wpx d P_Ta_build 48 [.ref r0, .ref r1, .int x2, .int x3] [] h Q) : wpx d P_Ta_build 42 [.ref r0, .ref r1, .int x2, .int x3] [] h Q := by
  refine st_iload (pc' := 43) rfl rfl rfl ?_
  refine st_ipush (pc' := 45) (v := 98) rfl rfl (by decide) ?_
  exact st_icmp_gt (pc' := 48) rfl rfl kt kf
theorem B_Ta_build_48 {d : Nat} {h : PH} {Q : PQ} {r0 : Nat} {r1 : Nat} {x2 : Int32} {x3 : Int32} {a0 : Nat} {n1 : Nat} (hs0 : h_sh h r0 = some (0, 6)) (hr1 : h_r h r0 4 = some a0) (hs2 : h_sh h a0 = some (1, n1)) (hb3 : vp_in x3 n1) (kt : (h_i h r0 3) ≤ (h_i h a0 x3.toNatClampNeg) → wpx d P_Ta_build 144 [.ref r0, .ref r1, .int x2, .int x3] [] h Q) (kf : ¬ ((h_i h r0 3) ≤ (h_i h a0 x3.toNatClampNeg)) → wpx d P_Ta_build 61 [.ref r0, .ref r1, .int x2, .int x3] [] h Q) : wpx d P_Ta_build 48 [.ref r0, .ref r1, .int x2, .int x3] [] h Q := by
  refine st_aload (pc' := 49) rfl rfl rfl ?_
  refine st_getfi (Or.inl rfl) rfl hs0 rfl (pc' := 52) rfl ?_
  refine st_aload (pc' := 53) rfl rfl rfl ?_
  refine st_getfr (x := some a0) (Or.inl rfl) rfl hs0 rfl hr1 (pc' := 56) rfl ?_
  refine st_iload (pc' := 57) rfl rfl rfl ?_
  refine st_iaload rfl hs2 hb3 (j := x3.toNatClampNeg) rfl (pc' := 58) rfl ?_
  exact st_icmp_le (pc' := 61) rfl rfl kt kf
theorem B_Ta_build_61 {d : Nat} {h : PH} {Q : PQ} {r0 : Nat} {r1 : Nat} {x2 : Int32} {x3 : Int32} {a0 : Nat} {n1 : Nat} (hs0 : h_sh h r0 = some (0, 6)) (hr1 : h_r h r0 4 = some a0) (hs2 : h_sh h a0 = some (1, n1)) (hb3 : vp_in (x3 + (1 : Int32)) n1) (hb4 : vp_in x3 n1) (k : wpm d 74 [.ref r0, .int (h_i (w_i (w_i h r0 5 x3) a0 ((x3 + (1 : Int32)).toNatClampNeg) (h_i (w_i h r0 5 x3) r0 3)) a0 x3.toNatClampNeg), .int (h_i (w_i (w_i h r0 5 x3) a0 ((x3 + (1 : Int32)).toNatClampNeg) (h_i (w_i h r0 5 x3) r0 3)) r0 3)] (w_i (w_i h r0 5 x3) a0 ((x3 + (1 : Int32)).toNatClampNeg) (h_i (w_i h r0 5 x3) r0 3)) (fun r h' => wpx d P_Ta_build 92 [.ref r0, .ref r1, .int x2, .int x3] (r.toList ++ []) h' Q)) : wpx d P_Ta_build 61 [.ref r0, .ref r1, .int x2, .int x3] [] h Q := by
  refine st_aload (pc' := 62) rfl rfl rfl ?_
  refine st_iload (pc' := 63) rfl rfl rfl ?_
  refine st_putf (h' := w_i h r0 5 x3) (Or.inl rfl) rfl hs0 rfl rfl rfl (pc' := 66) rfl ?_
  refine st_aload (pc' := 67) rfl rfl rfl ?_
  refine st_getfr (x := some a0) (Or.inl rfl) rfl hs0 rfl hr1 (pc' := 70) rfl ?_
  refine st_iload (pc' := 71) rfl rfl rfl ?_
  refine st_ipush (pc' := 72) (v := 1) rfl rfl (by decide) ?_
  refine st_iadd (pc' := 73) rfl rfl ?_
  refine st_aload (pc' := 74) rfl rfl rfl ?_
  refine st_getfi (Or.inl rfl) rfl hs0 rfl (pc' := 77) rfl ?_
  refine st_iastore rfl hs2 hb3 (j := (x3 + (1 : Int32)).toNatClampNeg) rfl (pc' := 78) rfl ?_
  refine st_aload (pc' := 79) rfl rfl rfl ?_
  refine st_aload (pc' := 80) rfl rfl rfl ?_
  refine st_getfr (x := some a0) (Or.inl rfl) rfl hs0 rfl hr1 (pc' := 83) rfl ?_
  refine st_iload (pc' := 84) rfl rfl rfl ?_
  refine st_iaload rfl hs2 hb4 (j := x3.toNatClampNeg) rfl (pc' := 85) rfl ?_
  refine st_aload (pc' := 86) rfl rfl rfl ?_
  refine st_getfi (Or.inl rfl) rfl hs0 rfl (pc' := 89) rfl ?_
  exact st_call (pc' := 92) (as := [.ref r0, .int (h_i (w_i (w_i h r0 5 x3) a0 ((x3 + (1 : Int32)).toNatClampNeg) (h_i (w_i h r0 5 x3) r0 3)) a0 x3.toNatClampNeg), .int (h_i (w_i (w_i h r0 5 x3) a0 ((x3 + (1 : Int32)).toNatClampNeg) (h_i (w_i h r0 5 x3) r0 3)) r0 3)]) (rest := []) rfl rfl (Nat.le_of_ble_eq_true rfl) rfl rfl (Nat.le_of_ble_eq_true rfl) (kd := 1) (o := 6) rfl rfl (beq_iff_eq.mpr hs0) k
theorem B_Ta_build_92 {d : Nat} {h : PH} {Q : PQ} {r0 : Nat} {r1 : Nat} {x2 : Int32} {x3 : Int32} (hs0 : h_sh h r0 = some (0, 6)) (kt : ¬ ((h_i h r0 6) = ((-1) : Int32)) → wpx d P_Ta_build 106 [.ref r0, .ref r1, .int x2, .int x3] [] h Q) (kf : (h_i h r0 6) = ((-1) : Int32) → wpx d P_Ta_build 100 [.ref r0, .ref r1, .int x2, .int x3] [] h Q) : wpx d P_Ta_build 92 [.ref r0, .ref r1, .int x2, .int x3] [] h Q := by
  refine st_aload (pc' := 93) rfl rfl rfl ?_
  refine st_getfi (Or.inl rfl) rfl hs0 rfl (pc' := 96) rfl ?_
  refine st_ipush (pc' := 97) (v := (-1)) rfl rfl (by decide) ?_
  exact st_icmp_ne (pc' := 100) rfl rfl kt kf
theorem B_Ta_build_100 {d : Nat} {h : PH} {Q : PQ} {r0 : Nat} {r1 : Nat} {x2 : Int32} {x3 : Int32} (hs0 : h_sh h r0 = some (0, 6)) (k : wpm d 75 [.ref r0, .ref r1, .int x3] h (fun r h' => wpx d P_Ta_build 106 [.ref r0, .ref r1, .int x2, .int x3] (r.toList ++ []) h' Q)) : wpx d P_Ta_build 100 [.ref r0, .ref r1, .int x2, .int x3] [] h Q := by
  refine st_aload (pc' := 101) rfl rfl rfl ?_
  refine st_aload (pc' := 102) rfl rfl rfl ?_
  refine st_iload (pc' := 103) rfl rfl rfl ?_
  exact st_call (pc' := 106) (as := [.ref r0, .ref r1, .int x3]) (rest := []) rfl rfl (Nat.le_of_ble_eq_true rfl) rfl rfl (Nat.le_of_ble_eq_true rfl) (kd := 1) (o := 6) rfl rfl (beq_iff_eq.mpr hs0) k
theorem B_Ta_build_106 {d : Nat} {h : PH} {Q : PQ} {r0 : Nat} {r1 : Nat} {x2 : Int32} {x3 : Int32}  (kt : x2 = 0 → wpx d P_Ta_build 119 [.ref r0, .ref r1, .int x2, .int x3] [] h Q) (kf : ¬ (x2 = 0) → wpx d P_Ta_build 110 [.ref r0, .ref r1, .int x2, .int x3] [] h Q) : wpx d P_Ta_build 106 [.ref r0, .ref r1, .int x2, .int x3] [] h Q := by
  refine st_iload (pc' := 107) rfl rfl rfl ?_
  exact st_if_eq (pc' := 110) rfl rfl kt kf
theorem B_Ta_build_110 {d : Nat} {h : PH} {Q : PQ} {r0 : Nat} {r1 : Nat} {x2 : Int32} {x3 : Int32} (hs0 : h_sh h r0 = some (0, 6)) (kt : (h_i h r0 6) = ((-1) : Int32) → wpx d P_Ta_build 119 [.ref r0, .ref r1, .int x2, .int x3] [] h Q) (kf : ¬ ((h_i h r0 6) = ((-1) : Int32)) → wpx d P_Ta_build 118 [.ref r0, .ref r1, .int x2, .int x3] [] h Q) : wpx d P_Ta_build 110 [.ref r0, .ref r1, .int x2, .int x3] [] h Q := by
  refine st_aload (pc' := 111) rfl rfl rfl ?_
  refine st_getfi (Or.inl rfl) rfl hs0 rfl (pc' := 114) rfl ?_
  refine st_ipush (pc' := 115) (v := (-1)) rfl rfl (by decide) ?_
  exact st_icmp_eq (pc' := 118) rfl rfl kt kf
theorem B_Ta_build_118 {d : Nat} {h : PH} {Q : PQ} {r0 : Nat} {r1 : Nat} {x2 : Int32} {x3 : Int32}  (k : Q none h) : wpx d P_Ta_build 118 [.ref r0, .ref r1, .int x2, .int x3] [] h Q := by
  exact st_return rfl k
theorem B_Ta_build_119 {d : Nat} {h : PH} {Q : PQ} {r0 : Nat} {r1 : Nat} {x2 : Int32} {x3 : Int32} {a0 : Nat} {n1 : Nat} (hs0 : h_sh h r0 = some (0, 6)) (hr1 : h_r h r0 4 = some a0) (hs2 : h_sh h a0 = some (1, n1)) (hb3 : vp_in x3 n1) (hb4 : vp_in (x3 + (1 : Int32)) n1) (k : wpm d 71 [.ref r0, .ref r1, .int (h_i h a0 x3.toNatClampNeg), .int (h_i h a0 (x3 + (1 : Int32)).toNatClampNeg)] h (fun r h' => wpx d P_Ta_build 138 [.ref r0, .ref r1, .int x2, .int x3] (r.toList ++ []) h' Q)) : wpx d P_Ta_build 119 [.ref r0, .ref r1, .int x2, .int x3] [] h Q := by
  refine st_aload (pc' := 120) rfl rfl rfl ?_
  refine st_aload (pc' := 121) rfl rfl rfl ?_
  refine st_aload (pc' := 122) rfl rfl rfl ?_
  refine st_getfr (x := some a0) (Or.inl rfl) rfl hs0 rfl hr1 (pc' := 125) rfl ?_
  refine st_iload (pc' := 126) rfl rfl rfl ?_
  refine st_iaload rfl hs2 hb3 (j := x3.toNatClampNeg) rfl (pc' := 127) rfl ?_
  refine st_aload (pc' := 128) rfl rfl rfl ?_
  refine st_getfr (x := some a0) (Or.inl rfl) rfl hs0 rfl hr1 (pc' := 131) rfl ?_
  refine st_iload (pc' := 132) rfl rfl rfl ?_
  refine st_ipush (pc' := 133) (v := 1) rfl rfl (by decide) ?_
  refine st_iadd (pc' := 134) rfl rfl ?_
  refine st_iaload rfl hs2 hb4 (j := (x3 + (1 : Int32)).toNatClampNeg) rfl (pc' := 135) rfl ?_
  exact st_call (pc' := 138) (as := [.ref r0, .ref r1, .int (h_i h a0 x3.toNatClampNeg), .int (h_i h a0 (x3 + (1 : Int32)).toNatClampNeg)]) (rest := []) rfl rfl (Nat.le_of_ble_eq_true rfl) rfl rfl (Nat.le_of_ble_eq_true rfl) (kd := 1) (o := 6) rfl rfl (beq_iff_eq.mpr hs0) k
theorem B_Ta_build_138 {d : Nat} {h : PH} {Q : PQ} {r0 : Nat} {r1 : Nat} {x2 : Int32} {x3 : Int32}  (k : wpx d P_Ta_build 42 [.ref r0, .ref r1, .int x2, .int (x3 + 1)] [] h Q) : wpx d P_Ta_build 138 [.ref r0, .ref r1, .int x2, .int x3] [] h Q := by
  refine st_iinc (pc' := 141) (v := 1) (ls' := [.ref r0, .ref r1, .int x2, .int (x3 + 1)]) rfl rfl rfl (by decide) rfl ?_
  exact st_goto rfl k
theorem B_Ta_build_144 {d : Nat} {h : PH} {Q : PQ} {r0 : Nat} {r1 : Nat} {x2 : Int32} {x3 : Int32}  (k : Q none h) : wpx d P_Ta_build 144 [.ref r0, .ref r1, .int x2, .int x3] [] h Q := by
  exact st_return rfl k
theorem B_Ta_addFirstRound_0 {d : Nat} {h : PH} {Q : PQ} {r0 : Nat} {r1 : Nat} {v2 : Value} {v3 : Value}  (k : wpx d P_Ta_addFirstRound 2 [.ref r0, .ref r1, .int 0, v3] [] h Q) : wpx d P_Ta_addFirstRound 0 [.ref r0, .ref r1, v2, v3] [] h Q := by
  refine st_ipush (pc' := 1) (v := 0) rfl rfl (by decide) ?_
  refine st_istore (pc' := 2) (ls' := [.ref r0, .ref r1, .int 0, v3]) rfl rfl (Nat.le_of_ble_eq_true rfl) rfl ?_
  exact k
theorem B_Ta_addFirstRound_2 {d : Nat} {h : PH} {Q : PQ} {r0 : Nat} {r1 : Nat} {x2 : Int32} {v3 : Value} (hs0 : h_sh h r1 = some (0, 3)) (kt : (h_i h r1 3) ≤ x2 → wpx d P_Ta_addFirstRound 92 [.ref r0, .ref r1, .int x2, v3] [] h Q) (kf : ¬ ((h_i h r1 3) ≤ x2) → wpx d P_Ta_addFirstRound 10 [.ref r0, .ref r1, .int x2, v3] [] h Q) : wpx d P_Ta_addFirstRound 2 [.ref r0, .ref r1, .int x2, v3] [] h Q := by
  refine st_iload (pc' := 3) rfl rfl rfl ?_
  refine st_aload (pc' := 4) rfl rfl rfl ?_
  refine st_getfi (Or.inr rfl) rfl hs0 rfl (pc' := 7) rfl ?_
  exact st_icmp_ge (pc' := 10) rfl rfl kt kf
theorem B_Ta_addFirstRound_10 {d : Nat} {h : PH} {Q : PQ} {r0 : Nat} {r1 : Nat} {x2 : Int32} {v3 : Value}  (k : wpx d P_Ta_addFirstRound 12 [.ref r0, .ref r1, .int x2, .int 0] [] h Q) : wpx d P_Ta_addFirstRound 10 [.ref r0, .ref r1, .int x2, v3] [] h Q := by
  refine st_ipush (pc' := 11) (v := 0) rfl rfl (by decide) ?_
  refine st_istore (pc' := 12) (ls' := [.ref r0, .ref r1, .int x2, .int 0]) rfl rfl (Nat.le_of_ble_eq_true rfl) rfl ?_
  exact k
theorem B_Ta_addFirstRound_12 {d : Nat} {h : PH} {Q : PQ} {r0 : Nat} {r1 : Nat} {x2 : Int32} {x3 : Int32} (hs0 : h_sh h r1 = some (0, 3)) (kt : (h_i h r1 3) ≤ x3 → wpx d P_Ta_addFirstRound 86 [.ref r0, .ref r1, .int x2, .int x3] [] h Q) (kf : ¬ ((h_i h r1 3) ≤ x3) → wpx d P_Ta_addFirstRound 20 [.ref r0, .ref r1, .int x2, .int x3] [] h Q) : wpx d P_Ta_addFirstRound 12 [.ref r0, .ref r1, .int x2, .int x3] [] h Q := by
  refine st_iload (pc' := 13) rfl rfl rfl ?_
  refine st_aload (pc' := 14) rfl rfl rfl ?_
  refine st_getfi (Or.inr rfl) rfl hs0 rfl (pc' := 17) rfl ?_
  exact st_icmp_ge (pc' := 20) rfl rfl kt kf
theorem B_Ta_addFirstRound_20 {d : Nat} {h : PH} {Q : PQ} {r0 : Nat} {r1 : Nat} {x2 : Int32} {x3 : Int32}  (kt : x2 = x3 → wpx d P_Ta_addFirstRound 80 [.ref r0, .ref r1, .int x2, .int x3] [] h Q) (kf : ¬ (x2 = x3) → wpx d P_Ta_addFirstRound 25 [.ref r0, .ref r1, .int x2, .int x3] [] h Q) : wpx d P_Ta_addFirstRound 20 [.ref r0, .ref r1, .int x2, .int x3] [] h Q := by
  refine st_iload (pc' := 21) rfl rfl rfl ?_
  refine st_iload (pc' := 22) rfl rfl rfl ?_
  exact st_icmp_eq (pc' := 25) rfl rfl kt kf
theorem B_Ta_addFirstRound_25 {d : Nat} {h : PH} {Q : PQ} {r0 : Nat} {r1 : Nat} {x2 : Int32} {x3 : Int32} (hs0 : h_sh h r1 = some (0, 3)) (k : wpm d 35 [.ref r1, .int x2] h (fun r h' => wpx d P_Ta_addFirstRound 30 [.ref r0, .ref r1, .int x2, .int x3] (r.toList ++ []) h' Q)) : wpx d P_Ta_addFirstRound 25 [.ref r0, .ref r1, .int x2, .int x3] [] h Q := by
  refine st_aload (pc' := 26) rfl rfl rfl ?_
  refine st_iload (pc' := 27) rfl rfl rfl ?_
  exact st_call (pc' := 30) (as := [.ref r1, .int x2]) (rest := []) rfl rfl (Nat.le_of_ble_eq_true rfl) rfl rfl (Nat.le_of_ble_eq_true rfl) (kd := 1) (o := 3) rfl rfl (beq_iff_eq.mpr hs0) k
theorem B_Ta_addFirstRound_30 {d : Nat} {h : PH} {Q : PQ} {r0 : Nat} {r1 : Nat} {x2 : Int32} {x3 : Int32} {s0 : Int32}  (kt : s0 = 0 → wpx d P_Ta_addFirstRound 80 [.ref r0, .ref r1, .int x2, .int x3] [] h Q) (kf : ¬ (s0 = 0) → wpx d P_Ta_addFirstRound 33 [.ref r0, .ref r1, .int x2, .int x3] [] h Q) : wpx d P_Ta_addFirstRound 30 [.ref r0, .ref r1, .int x2, .int x3] [.int s0] h Q := by
  exact st_if_eq (pc' := 33) rfl rfl kt kf
theorem B_Ta_addFirstRound_33 {d : Nat} {h : PH} {Q : PQ} {r0 : Nat} {r1 : Nat} {x2 : Int32} {x3 : Int32} (hs0 : h_sh h r1 = some (0, 3)) (k : wpm d 35 [.ref r1, .int x3] h (fun r h' => wpx d P_Ta_addFirstRound 38 [.ref r0, .ref r1, .int x2, .int x3] (r.toList ++ []) h' Q)) : wpx d P_Ta_addFirstRound 33 [.ref r0, .ref r1, .int x2, .int x3] [] h Q := by
  refine st_aload (pc' := 34) rfl rfl rfl ?_
  refine st_iload (pc' := 35) rfl rfl rfl ?_
  exact st_call (pc' := 38) (as := [.ref r1, .int x3]) (rest := []) rfl rfl (Nat.le_of_ble_eq_true rfl) rfl rfl (Nat.le_of_ble_eq_true rfl) (kd := 1) (o := 3) rfl rfl (beq_iff_eq.mpr hs0) k
theorem B_Ta_addFirstRound_38 {d : Nat} {h : PH} {Q : PQ} {r0 : Nat} {r1 : Nat} {x2 : Int32} {x3 : Int32} {s0 : Int32}  (kt : s0 = 0 → wpx d P_Ta_addFirstRound 80 [.ref r0, .ref r1, .int x2, .int x3] [] h Q) (kf : ¬ (s0 = 0) → wpx d P_Ta_addFirstRound 41 [.ref r0, .ref r1, .int x2, .int x3] [] h Q) : wpx d P_Ta_addFirstRound 38 [.ref r0, .ref r1, .int x2, .int x3] [.int s0] h Q := by
  exact st_if_eq (pc' := 41) rfl rfl kt kf
theorem B_Ta_addFirstRound_41 {d : Nat} {h : PH} {Q : PQ} {r0 : Nat} {r1 : Nat} {x2 : Int32} {x3 : Int32} (hs0 : h_sh h r1 = some (0, 3)) (k : wpm d 43 [.ref r1, .int x2, .int x3] h (fun r h' => wpx d P_Ta_addFirstRound 47 [.ref r0, .ref r1, .int x2, .int x3] (r.toList ++ []) h' Q)) : wpx d P_Ta_addFirstRound 41 [.ref r0, .ref r1, .int x2, .int x3] [] h Q := by
  refine st_aload (pc' := 42) rfl rfl rfl ?_
  refine st_iload (pc' := 43) rfl rfl rfl ?_
  refine st_iload (pc' := 44) rfl rfl rfl ?_
  exact st_call (pc' := 47) (as := [.ref r1, .int x2, .int x3]) (rest := []) rfl rfl (Nat.le_of_ble_eq_true rfl) rfl rfl (Nat.le_of_ble_eq_true rfl) (kd := 1) (o := 3) rfl rfl (beq_iff_eq.mpr hs0) k
theorem B_Ta_addFirstRound_47 {d : Nat} {h : PH} {Q : PQ} {r0 : Nat} {r1 : Nat} {x2 : Int32} {x3 : Int32} {s0 : Int32}  (kt : s0 = 0 → wpx d P_Ta_addFirstRound 80 [.ref r0, .ref r1, .int x2, .int x3] [] h Q) (kf : ¬ (s0 = 0) → wpx d P_Ta_addFirstRound 50 [.ref r0, .ref r1, .int x2, .int x3] [] h Q) : wpx d P_Ta_addFirstRound 47 [.ref r0, .ref r1, .int x2, .int x3] [.int s0] h Q := by
  exact st_if_eq (pc' := 50) rfl rfl kt kf
theorem B_Ta_addFirstRound_50 {d : Nat} {h : PH} {Q : PQ} {r0 : Nat} {r1 : Nat} {x2 : Int32} {x3 : Int32} {a0 : Nat} {n1 : Nat} {a2 : Nat} {n3 : Nat} (hs0 : h_sh h r1 = some (0, 3)) (hr1 : h_r h r1 0 = some a0) (hs2 : h_sh h a0 = some (4, n1)) (hb3 : vp_in x3 n1) (hr4 : h_r h r1 1 = some a2) (hs5 : h_sh h a2 = some (1, n3)) (hb6 : vp_in x3 n3) (hb7 : vp_in x2 n3) (hs8 : h_sh h r0 = some (0, 6)) (k : wpm d 72 [.ref r0, .long (h_l h a0 x3.toNatClampNeg), .int ((h_i h a2 x3.toNatClampNeg) - (h_i h a2 x2.toNatClampNeg)), .int (((1 : Int32) <<< (x2 &&& 31)) ||| ((1 : Int32) <<< (x3 &&& 31)))] h (fun r h' => wpx d P_Ta_addFirstRound 80 [.ref r0, .ref r1, .int x2, .int x3] (r.toList ++ []) h' Q)) : wpx d P_Ta_addFirstRound 50 [.ref r0, .ref r1, .int x2, .int x3] [] h Q := by
  refine st_aload (pc' := 51) rfl rfl rfl ?_
  refine st_aload (pc' := 52) rfl rfl rfl ?_
  refine st_getfr (x := some a0) (Or.inr rfl) rfl hs0 rfl hr1 (pc' := 55) rfl ?_
  refine st_iload (pc' := 56) rfl rfl rfl ?_
  refine st_laload rfl hs2 hb3 (j := x3.toNatClampNeg) rfl (pc' := 57) rfl ?_
  refine st_aload (pc' := 58) rfl rfl rfl ?_
  refine st_getfr (x := some a2) (Or.inr rfl) rfl hs0 rfl hr4 (pc' := 61) rfl ?_
  refine st_iload (pc' := 62) rfl rfl rfl ?_
  refine st_iaload rfl hs5 hb6 (j := x3.toNatClampNeg) rfl (pc' := 63) rfl ?_
  refine st_aload (pc' := 64) rfl rfl rfl ?_
  refine st_getfr (x := some a2) (Or.inr rfl) rfl hs0 rfl hr4 (pc' := 67) rfl ?_
  refine st_iload (pc' := 68) rfl rfl rfl ?_
  refine st_iaload rfl hs5 hb7 (j := x2.toNatClampNeg) rfl (pc' := 69) rfl ?_
  refine st_isub (pc' := 70) rfl rfl ?_
  refine st_ipush (pc' := 71) (v := 1) rfl rfl (by decide) ?_
  refine st_iload (pc' := 72) rfl rfl rfl ?_
  refine st_ishl (pc' := 73) rfl rfl ?_
  refine st_ipush (pc' := 74) (v := 1) rfl rfl (by decide) ?_
  refine st_iload (pc' := 75) rfl rfl rfl ?_
  refine st_ishl (pc' := 76) rfl rfl ?_
  refine st_ior (pc' := 77) rfl rfl ?_
  exact st_call (pc' := 80) (as := [.ref r0, .long (h_l h a0 x3.toNatClampNeg), .int ((h_i h a2 x3.toNatClampNeg) - (h_i h a2 x2.toNatClampNeg)), .int (((1 : Int32) <<< (x2 &&& 31)) ||| ((1 : Int32) <<< (x3 &&& 31)))]) (rest := []) rfl rfl (Nat.le_of_ble_eq_true rfl) rfl rfl (Nat.le_of_ble_eq_true rfl) (kd := 1) (o := 6) rfl rfl (beq_iff_eq.mpr hs8) k
theorem B_Ta_addFirstRound_80 {d : Nat} {h : PH} {Q : PQ} {r0 : Nat} {r1 : Nat} {x2 : Int32} {x3 : Int32}  (k : wpx d P_Ta_addFirstRound 12 [.ref r0, .ref r1, .int x2, .int (x3 + 1)] [] h Q) : wpx d P_Ta_addFirstRound 80 [.ref r0, .ref r1, .int x2, .int x3] [] h Q := by
  refine st_iinc (pc' := 83) (v := 1) (ls' := [.ref r0, .ref r1, .int x2, .int (x3 + 1)]) rfl rfl rfl (by decide) rfl ?_
  exact st_goto rfl k
theorem B_Ta_addFirstRound_86 {d : Nat} {h : PH} {Q : PQ} {r0 : Nat} {r1 : Nat} {x2 : Int32} {x3 : Int32}  (k : wpx d P_Ta_addFirstRound 2 [.ref r0, .ref r1, .int (x2 + 1), .int x3] [] h Q) : wpx d P_Ta_addFirstRound 86 [.ref r0, .ref r1, .int x2, .int x3] [] h Q := by
  refine st_iinc (pc' := 89) (v := 1) (ls' := [.ref r0, .ref r1, .int (x2 + 1), .int x3]) rfl rfl rfl (by decide) rfl ?_
  exact st_goto rfl k
theorem B_Ta_addFirstRound_92 {d : Nat} {h : PH} {Q : PQ} {r0 : Nat} {r1 : Nat} {x2 : Int32} {v3 : Value}  (k : Q none h) : wpx d P_Ta_addFirstRound 92 [.ref r0, .ref r1, .int x2, v3] [] h Q := by
  exact st_return rfl k
theorem B_Ta_addNextRound_0 {d : Nat} {h : PH} {Q : PQ} {r0 : Nat} {r1 : Nat} {x2 : Int32} {x3 : Int32} {v4 : Value} {v5 : Value} {v6 : Value}  (k : wpx d P_Ta_addNextRound 3 [.ref r0, .ref r1, .int x2, .int x3, .int x2, v5, v6] [] h Q) : wpx d P_Ta_addNextRound 0 [.ref r0, .ref r1, .int x2, .int x3, v4, v5, v6] [] h Q := by
  refine st_iload (pc' := 1) rfl rfl rfl ?_
  refine st_istore (pc' := 3) (ls' := [.ref r0, .ref r1, .int x2, .int x3, .int x2, v5, v6]) rfl rfl (Nat.le_of_ble_eq_true rfl) rfl ?_
  exact k
theorem B_Ta_addNextRound_3 {d : Nat} {h : PH} {Q : PQ} {r0 : Nat} {r1 : Nat} {x2 : Int32} {x3 : Int32} {x4 : Int32} {v5 : Value} {v6 : Value}  (kt : x3 ≤ x4 → wpx d P_Ta_addNextRound 183 [.ref r0, .ref r1, .int x2, .int x3, .int x4, v5, v6] [] h Q) (kf : ¬ (x3 ≤ x4) → wpx d P_Ta_addNextRound 9 [.ref r0, .ref r1, .int x2, .int x3, .int x4, v5, v6] [] h Q) : wpx d P_Ta_addNextRound 3 [.ref r0, .ref r1, .int x2, .int x3, .int x4, v5, v6] [] h Q := by
  refine st_iload (pc' := 5) rfl rfl rfl ?_
  refine st_iload (pc' := 6) rfl rfl rfl ?_
  exact st_icmp_ge (pc' := 9) rfl rfl kt kf
theorem B_Ta_addNextRound_9 {d : Nat} {h : PH} {Q : PQ} {r0 : Nat} {r1 : Nat} {x2 : Int32} {x3 : Int32} {x4 : Int32} {v5 : Value} {v6 : Value}  (k : wpx d P_Ta_addNextRound 12 [.ref r0, .ref r1, .int x2, .int x3, .int x4, .int 0, v6] [] h Q) : wpx d P_Ta_addNextRound 9 [.ref r0, .ref r1, .int x2, .int x3, .int x4, v5, v6] [] h Q := by
  refine st_ipush (pc' := 10) (v := 0) rfl rfl (by decide) ?_
  refine st_istore (pc' := 12) (ls' := [.ref r0, .ref r1, .int x2, .int x3, .int x4, .int 0, v6]) rfl rfl (Nat.le_of_ble_eq_true rfl) rfl ?_
  exact k
theorem B_Ta_addNextRound_12 {d : Nat} {h : PH} {Q : PQ} {r0 : Nat} {r1 : Nat} {x2 : Int32} {x3 : Int32} {x4 : Int32} {x5 : Int32} {v6 : Value} (hs0 : h_sh h r1 = some (0, 3)) (kt : (h_i h r1 3) ≤ x5 → wpx d P_Ta_addNextRound 177 [.ref r0, .ref r1, .int x2, .int x3, .int x4, .int x5, v6] [] h Q) (kf : ¬ ((h_i h r1 3) ≤ x5) → wpx d P_Ta_addNextRound 21 [.ref r0, .ref r1, .int x2, .int x3, .int x4, .int x5, v6] [] h Q) : wpx d P_Ta_addNextRound 12 [.ref r0, .ref r1, .int x2, .int x3, .int x4, .int x5, v6] [] h Q := by
  refine st_iload (pc' := 14) rfl rfl rfl ?_
  refine st_aload (pc' := 15) rfl rfl rfl ?_
  refine st_getfi (Or.inr rfl) rfl hs0 rfl (pc' := 18) rfl ?_
  exact st_icmp_ge (pc' := 21) rfl rfl kt kf
theorem B_Ta_addNextRound_21 {d : Nat} {h : PH} {Q : PQ} {r0 : Nat} {r1 : Nat} {x2 : Int32} {x3 : Int32} {x4 : Int32} {x5 : Int32} {v6 : Value} (hs0 : h_sh h r1 = some (0, 3)) (k : wpm d 35 [.ref r1, .int x5] h (fun r h' => wpx d P_Ta_addNextRound 27 [.ref r0, .ref r1, .int x2, .int x3, .int x4, .int x5, v6] (r.toList ++ []) h' Q)) : wpx d P_Ta_addNextRound 21 [.ref r0, .ref r1, .int x2, .int x3, .int x4, .int x5, v6] [] h Q := by
  refine st_aload (pc' := 22) rfl rfl rfl ?_
  refine st_iload (pc' := 24) rfl rfl rfl ?_
  exact st_call (pc' := 27) (as := [.ref r1, .int x5]) (rest := []) rfl rfl (Nat.le_of_ble_eq_true rfl) rfl rfl (Nat.le_of_ble_eq_true rfl) (kd := 1) (o := 3) rfl rfl (beq_iff_eq.mpr hs0) k
theorem B_Ta_addNextRound_27 {d : Nat} {h : PH} {Q : PQ} {r0 : Nat} {r1 : Nat} {x2 : Int32} {x3 : Int32} {x4 : Int32} {x5 : Int32} {v6 : Value} {s0 : Int32}  (kt : s0 = 0 → wpx d P_Ta_addNextRound 171 [.ref r0, .ref r1, .int x2, .int x3, .int x4, .int x5, v6] [] h Q) (kf : ¬ (s0 = 0) → wpx d P_Ta_addNextRound 30 [.ref r0, .ref r1, .int x2, .int x3, .int x4, .int x5, v6] [] h Q) : wpx d P_Ta_addNextRound 27 [.ref r0, .ref r1, .int x2, .int x3, .int x4, .int x5, v6] [.int s0] h Q := by
  exact st_if_eq (pc' := 30) rfl rfl kt kf
theorem B_Ta_addNextRound_30 {d : Nat} {h : PH} {Q : PQ} {r0 : Nat} {r1 : Nat} {x2 : Int32} {x3 : Int32} {x4 : Int32} {x5 : Int32} {v6 : Value} {a0 : Nat} {n1 : Nat} {a2 : Nat} {n3 : Nat} {a4 : Nat} {n5 : Nat} {a6 : Nat} {n7 : Nat} {a8 : Nat} {n9 : Nat} (hs0 : h_sh h r0 = some (0, 6)) (hr1 : h_r h r0 2 = some a0) (hs2 : h_sh h a0 = some (1, n1)) (hb3 : vp_in x4 n1) (hr4 : h_r h r0 0 = some a2) (hs5 : h_sh h a2 = some (4, n3)) (hb6 : vp_in x4 n3) (hr7 : h_r h r0 1 = some a4) (hs8 : h_sh h a4 = some (1, n5)) (hb9 : vp_in x4 n5) (hs10 : h_sh h r1 = some (0, 3)) (hr11 : h_r h r1 0 = some a6) (hs12 : h_sh h a6 = some (4, n7)) (hb13 : vp_in x5 n7) (hr14 : h_r h r1 1 = some a8) (hs15 : h_sh h a8 = some (1, n9)) (hb16 : vp_in x5 n9) (k : wpm d 162 [.long (h_l h a2 x4.toNatClampNeg), .int (h_i h a4 x4.toNatClampNeg), .long (h_l h a6 x5.toNatClampNeg), .int (h_i h a8 x5.toNatClampNeg)] h (fun r h' => wpx d P_Ta_addNextRound 75 [.ref r0, .ref r1, .int x2, .int x3, .int x4, .int x5, .int ((h_i h a0 x4.toNatClampNeg) ||| ((1 : Int32) <<< (x5 &&& 31)))] (r.toList ++ []) h' Q)) : wpx d P_Ta_addNextRound 30 [.ref r0, .ref r1, .int x2, .int x3, .int x4, .int x5, v6] [] h Q := by
  refine st_aload (pc' := 31) rfl rfl rfl ?_
  refine st_getfr (x := some a0) (Or.inl rfl) rfl hs0 rfl hr1 (pc' := 34) rfl ?_
  refine st_iload (pc' := 36) rfl rfl rfl ?_
  refine st_iaload rfl hs2 hb3 (j := x4.toNatClampNeg) rfl (pc' := 37) rfl ?_
  refine st_ipush (pc' := 38) (v := 1) rfl rfl (by decide) ?_
  refine st_iload (pc' := 40) rfl rfl rfl ?_
  refine st_ishl (pc' := 41) rfl rfl ?_
  refine st_ior (pc' := 42) rfl rfl ?_
  refine st_istore (pc' := 44) (ls' := [.ref r0, .ref r1, .int x2, .int x3, .int x4, .int x5, .int ((h_i h a0 x4.toNatClampNeg) ||| ((1 : Int32) <<< (x5 &&& 31)))]) rfl rfl (Nat.le_of_ble_eq_true rfl) rfl ?_
  refine st_aload (pc' := 45) rfl rfl rfl ?_
  refine st_getfr (x := some a2) (Or.inl rfl) rfl hs0 rfl hr4 (pc' := 48) rfl ?_
  refine st_iload (pc' := 50) rfl rfl rfl ?_
  refine st_laload rfl hs5 hb6 (j := x4.toNatClampNeg) rfl (pc' := 51) rfl ?_
  refine st_aload (pc' := 52) rfl rfl rfl ?_
  refine st_getfr (x := some a4) (Or.inl rfl) rfl hs0 rfl hr7 (pc' := 55) rfl ?_
  refine st_iload (pc' := 57) rfl rfl rfl ?_
  refine st_iaload rfl hs8 hb9 (j := x4.toNatClampNeg) rfl (pc' := 58) rfl ?_
  refine st_aload (pc' := 59) rfl rfl rfl ?_
  refine st_getfr (x := some a6) (Or.inr rfl) rfl hs10 rfl hr11 (pc' := 62) rfl ?_
  refine st_iload (pc' := 64) rfl rfl rfl ?_
  refine st_laload rfl hs12 hb13 (j := x5.toNatClampNeg) rfl (pc' := 65) rfl ?_
  refine st_aload (pc' := 66) rfl rfl rfl ?_
  refine st_getfr (x := some a8) (Or.inr rfl) rfl hs10 rfl hr14 (pc' := 69) rfl ?_
  refine st_iload (pc' := 71) rfl rfl rfl ?_
  refine st_iaload rfl hs15 hb16 (j := x5.toNatClampNeg) rfl (pc' := 72) rfl ?_
  exact st_call (pc' := 75) (as := [.long (h_l h a2 x4.toNatClampNeg), .int (h_i h a4 x4.toNatClampNeg), .long (h_l h a6 x5.toNatClampNeg), .int (h_i h a8 x5.toNatClampNeg)]) (rest := []) rfl rfl (Nat.le_of_ble_eq_true rfl) rfl rfl (Nat.le_of_ble_eq_true rfl) (kd := 0) (o := 11) rfl rfl rfl k
theorem B_Ta_addNextRound_75 {d : Nat} {h : PH} {Q : PQ} {r0 : Nat} {r1 : Nat} {x2 : Int32} {x3 : Int32} {x4 : Int32} {x5 : Int32} {x6 : Int32} {s0 : Int32}  (kt : s0 = 0 → wpx d P_Ta_addNextRound 109 [.ref r0, .ref r1, .int x2, .int x3, .int x4, .int x5, .int x6] [] h Q) (kf : ¬ (s0 = 0) → wpx d P_Ta_addNextRound 78 [.ref r0, .ref r1, .int x2, .int x3, .int x4, .int x5, .int x6] [] h Q) : wpx d P_Ta_addNextRound 75 [.ref r0, .ref r1, .int x2, .int x3, .int x4, .int x5, .int x6] [.int s0] h Q := by
  exact st_if_eq (pc' := 78) rfl rfl kt kf
theorem B_Ta_addNextRound_78 {d : Nat} {h : PH} {Q : PQ} {r0 : Nat} {r1 : Nat} {x2 : Int32} {x3 : Int32} {x4 : Int32} {x5 : Int32} {x6 : Int32} {a0 : Nat} {n1 : Nat} {a2 : Nat} {n3 : Nat} {a4 : Nat} {n5 : Nat} (hs0 : h_sh h r1 = some (0, 3)) (hr1 : h_r h r1 0 = some a0) (hs2 : h_sh h a0 = some (4, n1)) (hb3 : vp_in x5 n1) (hr4 : h_r h r1 1 = some a2) (hs5 : h_sh h a2 = some (1, n3)) (hb6 : vp_in x5 n3) (hs7 : h_sh h r0 = some (0, 6)) (hr8 : h_r h r0 1 = some a4) (hs9 : h_sh h a4 = some (1, n5)) (hb10 : vp_in x4 n5) (k : wpm d 72 [.ref r0, .long (h_l h a0 x5.toNatClampNeg), .int ((h_i h a2 x5.toNatClampNeg) - (h_i h a4 x4.toNatClampNeg)), .int x6] h (fun r h' => wpx d P_Ta_addNextRound 106 [.ref r0, .ref r1, .int x2, .int x3, .int x4, .int x5, .int x6] (r.toList ++ []) h' Q)) : wpx d P_Ta_addNextRound 78 [.ref r0, .ref r1, .int x2, .int x3, .int x4, .int x5, .int x6] [] h Q := by
  refine st_aload (pc' := 79) rfl rfl rfl ?_
  refine st_aload (pc' := 80) rfl rfl rfl ?_
  refine st_getfr (x := some a0) (Or.inr rfl) rfl hs0 rfl hr1 (pc' := 83) rfl ?_
  refine st_iload (pc' := 85) rfl rfl rfl ?_
  refine st_laload rfl hs2 hb3 (j := x5.toNatClampNeg) rfl (pc' := 86) rfl ?_
  refine st_aload (pc' := 87) rfl rfl rfl ?_
  refine st_getfr (x := some a2) (Or.inr rfl) rfl hs0 rfl hr4 (pc' := 90) rfl ?_
  refine st_iload (pc' := 92) rfl rfl rfl ?_
  refine st_iaload rfl hs5 hb6 (j := x5.toNatClampNeg) rfl (pc' := 93) rfl ?_
  refine st_aload (pc' := 94) rfl rfl rfl ?_
  refine st_getfr (x := some a4) (Or.inl rfl) rfl hs7 rfl hr8 (pc' := 97) rfl ?_
  refine st_iload (pc' := 99) rfl rfl rfl ?_
  refine st_iaload rfl hs9 hb10 (j := x4.toNatClampNeg) rfl (pc' := 100) rfl ?_
  refine st_isub (pc' := 101) rfl rfl ?_
  refine st_iload (pc' := 103) rfl rfl rfl ?_
  exact st_call (pc' := 106) (as := [.ref r0, .long (h_l h a0 x5.toNatClampNeg), .int ((h_i h a2 x5.toNatClampNeg) - (h_i h a4 x4.toNatClampNeg)), .int x6]) (rest := []) rfl rfl (Nat.le_of_ble_eq_true rfl) rfl rfl (Nat.le_of_ble_eq_true rfl) (kd := 1) (o := 6) rfl rfl (beq_iff_eq.mpr hs7) k
theorem B_Ta_addNextRound_106 {d : Nat} {h : PH} {Q : PQ} {r0 : Nat} {r1 : Nat} {x2 : Int32} {x3 : Int32} {x4 : Int32} {x5 : Int32} {x6 : Int32}  (k : wpx d P_Ta_addNextRound 171 [.ref r0, .ref r1, .int x2, .int x3, .int x4, .int x5, .int x6] [] h Q) : wpx d P_Ta_addNextRound 106 [.ref r0, .ref r1, .int x2, .int x3, .int x4, .int x5, .int x6] [] h Q := by
  exact st_goto rfl k
theorem B_Ta_addNextRound_109 {d : Nat} {h : PH} {Q : PQ} {r0 : Nat} {r1 : Nat} {x2 : Int32} {x3 : Int32} {x4 : Int32} {x5 : Int32} {x6 : Int32} {a0 : Nat} {n1 : Nat} {a2 : Nat} {n3 : Nat} {a4 : Nat} {n5 : Nat} {a6 : Nat} {n7 : Nat} (hs0 : h_sh h r1 = some (0, 3)) (hr1 : h_r h r1 0 = some a0) (hs2 : h_sh h a0 = some (4, n1)) (hb3 : vp_in x5 n1) (hr4 : h_r h r1 1 = some a2) (hs5 : h_sh h a2 = some (1, n3)) (hb6 : vp_in x5 n3) (hs7 : h_sh h r0 = some (0, 6)) (hr8 : h_r h r0 0 = some a4) (hs9 : h_sh h a4 = some (4, n5)) (hb10 : vp_in x4 n5) (hr11 : h_r h r0 1 = some a6) (hs12 : h_sh h a6 = some (1, n7)) (hb13 : vp_in x4 n7) (k : wpm d 162 [.long (h_l h a0 x5.toNatClampNeg), .int (h_i h a2 x5.toNatClampNeg), .long (h_l h a4 x4.toNatClampNeg), .int (h_i h a6 x4.toNatClampNeg)] h (fun r h' => wpx d P_Ta_addNextRound 140 [.ref r0, .ref r1, .int x2, .int x3, .int x4, .int x5, .int x6] (r.toList ++ []) h' Q)) : wpx d P_Ta_addNextRound 109 [.ref r0, .ref r1, .int x2, .int x3, .int x4, .int x5, .int x6] [] h Q := by
  refine st_aload (pc' := 110) rfl rfl rfl ?_
  refine st_getfr (x := some a0) (Or.inr rfl) rfl hs0 rfl hr1 (pc' := 113) rfl ?_
  refine st_iload (pc' := 115) rfl rfl rfl ?_
  refine st_laload rfl hs2 hb3 (j := x5.toNatClampNeg) rfl (pc' := 116) rfl ?_
  refine st_aload (pc' := 117) rfl rfl rfl ?_
  refine st_getfr (x := some a2) (Or.inr rfl) rfl hs0 rfl hr4 (pc' := 120) rfl ?_
  refine st_iload (pc' := 122) rfl rfl rfl ?_
  refine st_iaload rfl hs5 hb6 (j := x5.toNatClampNeg) rfl (pc' := 123) rfl ?_
  refine st_aload (pc' := 124) rfl rfl rfl ?_
  refine st_getfr (x := some a4) (Or.inl rfl) rfl hs7 rfl hr8 (pc' := 127) rfl ?_
  refine st_iload (pc' := 129) rfl rfl rfl ?_
  refine st_laload rfl hs9 hb10 (j := x4.toNatClampNeg) rfl (pc' := 130) rfl ?_
  refine st_aload (pc' := 131) rfl rfl rfl ?_
  refine st_getfr (x := some a6) (Or.inl rfl) rfl hs7 rfl hr11 (pc' := 134) rfl ?_
  refine st_iload (pc' := 136) rfl rfl rfl ?_
  refine st_iaload rfl hs12 hb13 (j := x4.toNatClampNeg) rfl (pc' := 137) rfl ?_
  exact st_call (pc' := 140) (as := [.long (h_l h a0 x5.toNatClampNeg), .int (h_i h a2 x5.toNatClampNeg), .long (h_l h a4 x4.toNatClampNeg), .int (h_i h a6 x4.toNatClampNeg)]) (rest := []) rfl rfl (Nat.le_of_ble_eq_true rfl) rfl rfl (Nat.le_of_ble_eq_true rfl) (kd := 0) (o := 11) rfl rfl rfl k
theorem B_Ta_addNextRound_140 {d : Nat} {h : PH} {Q : PQ} {r0 : Nat} {r1 : Nat} {x2 : Int32} {x3 : Int32} {x4 : Int32} {x5 : Int32} {x6 : Int32} {s0 : Int32}  (kt : s0 = 0 → wpx d P_Ta_addNextRound 171 [.ref r0, .ref r1, .int x2, .int x3, .int x4, .int x5, .int x6] [] h Q) (kf : ¬ (s0 = 0) → wpx d P_Ta_addNextRound 143 [.ref r0, .ref r1, .int x2, .int x3, .int x4, .int x5, .int x6] [] h Q) : wpx d P_Ta_addNextRound 140 [.ref r0, .ref r1, .int x2, .int x3, .int x4, .int x5, .int x6] [.int s0] h Q := by
  exact st_if_eq (pc' := 143) rfl rfl kt kf
theorem B_Ta_addNextRound_143 {d : Nat} {h : PH} {Q : PQ} {r0 : Nat} {r1 : Nat} {x2 : Int32} {x3 : Int32} {x4 : Int32} {x5 : Int32} {x6 : Int32} {a0 : Nat} {n1 : Nat} {a2 : Nat} {n3 : Nat} {a4 : Nat} {n5 : Nat} (hs0 : h_sh h r0 = some (0, 6)) (hr1 : h_r h r0 0 = some a0) (hs2 : h_sh h a0 = some (4, n1)) (hb3 : vp_in x4 n1) (hr4 : h_r h r0 1 = some a2) (hs5 : h_sh h a2 = some (1, n3)) (hb6 : vp_in x4 n3) (hs7 : h_sh h r1 = some (0, 3)) (hr8 : h_r h r1 1 = some a4) (hs9 : h_sh h a4 = some (1, n5)) (hb10 : vp_in x5 n5) (k : wpm d 72 [.ref r0, .long (h_l h a0 x4.toNatClampNeg), .int ((h_i h a2 x4.toNatClampNeg) - (h_i h a4 x5.toNatClampNeg)), .int x6] h (fun r h' => wpx d P_Ta_addNextRound 171 [.ref r0, .ref r1, .int x2, .int x3, .int x4, .int x5, .int x6] (r.toList ++ []) h' Q)) : wpx d P_Ta_addNextRound 143 [.ref r0, .ref r1, .int x2, .int x3, .int x4, .int x5, .int x6] [] h Q := by
  refine st_aload (pc' := 144) rfl rfl rfl ?_
  refine st_aload (pc' := 145) rfl rfl rfl ?_
  refine st_getfr (x := some a0) (Or.inl rfl) rfl hs0 rfl hr1 (pc' := 148) rfl ?_
  refine st_iload (pc' := 150) rfl rfl rfl ?_
  refine st_laload rfl hs2 hb3 (j := x4.toNatClampNeg) rfl (pc' := 151) rfl ?_
  refine st_aload (pc' := 152) rfl rfl rfl ?_
  refine st_getfr (x := some a2) (Or.inl rfl) rfl hs0 rfl hr4 (pc' := 155) rfl ?_
  refine st_iload (pc' := 157) rfl rfl rfl ?_
  refine st_iaload rfl hs5 hb6 (j := x4.toNatClampNeg) rfl (pc' := 158) rfl ?_
  refine st_aload (pc' := 159) rfl rfl rfl ?_
  refine st_getfr (x := some a4) (Or.inr rfl) rfl hs7 rfl hr8 (pc' := 162) rfl ?_
  refine st_iload (pc' := 164) rfl rfl rfl ?_
  refine st_iaload rfl hs9 hb10 (j := x5.toNatClampNeg) rfl (pc' := 165) rfl ?_
  refine st_isub (pc' := 166) rfl rfl ?_
  refine st_iload (pc' := 168) rfl rfl rfl ?_
  exact st_call (pc' := 171) (as := [.ref r0, .long (h_l h a0 x4.toNatClampNeg), .int ((h_i h a2 x4.toNatClampNeg) - (h_i h a4 x5.toNatClampNeg)), .int x6]) (rest := []) rfl rfl (Nat.le_of_ble_eq_true rfl) rfl rfl (Nat.le_of_ble_eq_true rfl) (kd := 1) (o := 6) rfl rfl (beq_iff_eq.mpr hs0) k
theorem B_Ta_addNextRound_171 {d : Nat} {h : PH} {Q : PQ} {r0 : Nat} {r1 : Nat} {x2 : Int32} {x3 : Int32} {x4 : Int32} {x5 : Int32} {v6 : Value}  (k : wpx d P_Ta_addNextRound 12 [.ref r0, .ref r1, .int x2, .int x3, .int x4, .int (x5 + 1), v6] [] h Q) : wpx d P_Ta_addNextRound 171 [.ref r0, .ref r1, .int x2, .int x3, .int x4, .int x5, v6] [] h Q := by
  refine st_iinc (pc' := 174) (v := 1) (ls' := [.ref r0, .ref r1, .int x2, .int x3, .int x4, .int (x5 + 1), v6]) rfl rfl rfl (by decide) rfl ?_
  exact st_goto rfl k
theorem B_Ta_addNextRound_177 {d : Nat} {h : PH} {Q : PQ} {r0 : Nat} {r1 : Nat} {x2 : Int32} {x3 : Int32} {x4 : Int32} {x5 : Int32} {v6 : Value}  (k : wpx d P_Ta_addNextRound 3 [.ref r0, .ref r1, .int x2, .int x3, .int (x4 + 1), .int x5, v6] [] h Q) : wpx d P_Ta_addNextRound 177 [.ref r0, .ref r1, .int x2, .int x3, .int x4, .int x5, v6] [] h Q := by
  refine st_iinc (pc' := 180) (v := 1) (ls' := [.ref r0, .ref r1, .int x2, .int x3, .int (x4 + 1), .int x5, v6]) rfl rfl rfl (by decide) rfl ?_
  exact st_goto rfl k
theorem B_Ta_addNextRound_183 {d : Nat} {h : PH} {Q : PQ} {r0 : Nat} {r1 : Nat} {x2 : Int32} {x3 : Int32} {x4 : Int32} {v5 : Value} {v6 : Value}  (k : Q none h) : wpx d P_Ta_addNextRound 183 [.ref r0, .ref r1, .int x2, .int x3, .int x4, v5, v6] [] h Q := by
  exact st_return rfl k
theorem B_Ta_add_0 {d : Nat} {h : PH} {Q : PQ} {r0 : Nat} {l1 : Int64} {x3 : Int32} {x4 : Int32} {v5 : Value} {v6 : Value}  (kt : x3 < (1 : Int32) → wpx d P_Ta_add 14 [.ref r0, .long l1, .retAddr 2, .int x3, .int x4, v5, v6] [] h Q) (kf : ¬ (x3 < (1 : Int32)) → wpx d P_Ta_add 5 [.ref r0, .long l1, .retAddr 2, .int x3, .int x4, v5, v6] [] h Q) : wpx d P_Ta_add 0 [.ref r0, .long l1, .retAddr 2, .int x3, .int x4, v5, v6] [] h Q := by
  refine st_iload (pc' := 1) rfl rfl rfl ?_
  refine st_ipush (pc' := 2) (v := 1) rfl rfl (by decide) ?_
  exact st_icmp_lt (pc' := 5) rfl rfl kt kf
theorem B_Ta_add_5 {d : Nat} {h : PH} {Q : PQ} {r0 : Nat} {l1 : Int64} {x3 : Int32} {x4 : Int32} {v5 : Value} {v6 : Value} (hs0 : h_sh h r0 = some (0, 6)) (kt : (h_i h r0 3) < (98 : Int32) → wpx d P_Ta_add 15 [.ref r0, .long l1, .retAddr 2, .int x3, .int x4, v5, v6] [] h Q) (kf : ¬ ((h_i h r0 3) < (98 : Int32)) → wpx d P_Ta_add 14 [.ref r0, .long l1, .retAddr 2, .int x3, .int x4, v5, v6] [] h Q) : wpx d P_Ta_add 5 [.ref r0, .long l1, .retAddr 2, .int x3, .int x4, v5, v6] [] h Q := by
  refine st_aload (pc' := 6) rfl rfl rfl ?_
  refine st_getfi (Or.inl rfl) rfl hs0 rfl (pc' := 9) rfl ?_
  refine st_ipush (pc' := 11) (v := 98) rfl rfl (by decide) ?_
  exact st_icmp_lt (pc' := 14) rfl rfl kt kf
theorem B_Ta_add_14 {d : Nat} {h : PH} {Q : PQ} {r0 : Nat} {l1 : Int64} {x3 : Int32} {x4 : Int32} {v5 : Value} {v6 : Value}  (k : Q none h) : wpx d P_Ta_add 14 [.ref r0, .long l1, .retAddr 2, .int x3, .int x4, v5, v6] [] h Q := by
  exact st_return rfl k
theorem B_Ta_add_15 {d : Nat} {h : PH} {Q : PQ} {r0 : Nat} {l1 : Int64} {x3 : Int32} {x4 : Int32} {v5 : Value} {v6 : Value}  (k : wpm d 164 [.long l1, .int x3] h (fun r h' => wpx d P_Ta_add 20 [.ref r0, .long l1, .retAddr 2, .int x3, .int x4, v5, v6] (r.toList ++ []) h' Q)) : wpx d P_Ta_add 15 [.ref r0, .long l1, .retAddr 2, .int x3, .int x4, v5, v6] [] h Q := by
  refine st_lload (pc' := 16) rfl rfl rfl rfl ?_
  refine st_iload (pc' := 17) rfl rfl rfl ?_
  exact st_call (pc' := 20) (as := [.long l1, .int x3]) (rest := []) rfl rfl (Nat.le_of_ble_eq_true rfl) rfl rfl (Nat.le_of_ble_eq_true rfl) (kd := 0) (o := 11) rfl rfl rfl k
theorem B_Ta_add_20 {d : Nat} {h : PH} {Q : PQ} {r0 : Nat} {l1 : Int64} {x3 : Int32} {x4 : Int32} {v5 : Value} {v6 : Value} {t0 : Int64} (hs0 : h_sh h r0 = some (0, 6)) (k : wpm d 73 [.ref r0, .long t0] h (fun r h' => wpx d P_Ta_add 28 [.ref r0, .long l1, .retAddr 2, .int x3, .int x4, .long t0, .retAddr 2] (r.toList ++ []) h' Q)) : wpx d P_Ta_add 20 [.ref r0, .long l1, .retAddr 2, .int x3, .int x4, v5, v6] [.long t0] h Q := by
  refine st_lstore (pc' := 22) (ls' := [.ref r0, .long l1, .retAddr 2, .int x3, .int x4, .long t0, .retAddr 2]) rfl rfl (Nat.le_of_ble_eq_true rfl) rfl ?_
  refine st_aload (pc' := 23) rfl rfl rfl ?_
  refine st_lload (pc' := 25) rfl rfl rfl rfl ?_
  exact st_call (pc' := 28) (as := [.ref r0, .long t0]) (rest := []) rfl rfl (Nat.le_of_ble_eq_true rfl) rfl rfl (Nat.le_of_ble_eq_true rfl) (kd := 1) (o := 6) rfl rfl (beq_iff_eq.mpr hs0) k
theorem B_Ta_add_28 {d : Nat} {h : PH} {Q : PQ} {r0 : Nat} {l1 : Int64} {x3 : Int32} {x4 : Int32} {l5 : Int64} {s0 : Int32}  (kt : s0 = ((-1) : Int32) → wpx d P_Ta_add 33 [.ref r0, .long l1, .retAddr 2, .int x3, .int x4, .long l5, .retAddr 2] [] h Q) (kf : ¬ (s0 = ((-1) : Int32)) → wpx d P_Ta_add 32 [.ref r0, .long l1, .retAddr 2, .int x3, .int x4, .long l5, .retAddr 2] [] h Q) : wpx d P_Ta_add 28 [.ref r0, .long l1, .retAddr 2, .int x3, .int x4, .long l5, .retAddr 2] [.int s0] h Q := by
  refine st_ipush (pc' := 29) (v := (-1)) rfl rfl (by decide) ?_
  exact st_icmp_eq (pc' := 32) rfl rfl kt kf
theorem B_Ta_add_32 {d : Nat} {h : PH} {Q : PQ} {r0 : Nat} {l1 : Int64} {x3 : Int32} {x4 : Int32} {l5 : Int64}  (k : Q none h) : wpx d P_Ta_add 32 [.ref r0, .long l1, .retAddr 2, .int x3, .int x4, .long l5, .retAddr 2] [] h Q := by
  exact st_return rfl k
theorem B_Ta_add_33 {d : Nat} {h : PH} {Q : PQ} {r0 : Nat} {l1 : Int64} {x3 : Int32} {x4 : Int32} {l5 : Int64} {a0 : Nat} {n1 : Nat} {a2 : Nat} {n3 : Nat} {a4 : Nat} {n5 : Nat} (hs0 : h_sh h r0 = some (0, 6)) (hr1 : h_r h r0 0 = some a0) (hs2 : h_sh h a0 = some (4, n1)) (hb3 : vp_in (h_i h r0 3) n1) (hr4 : h_r h r0 1 = some a2) (hs5 : h_sh h a2 = some (1, n3)) (hb6 : vp_in (h_i (w_l h a0 ((h_i h r0 3).toNatClampNeg) l5) r0 3) n3) (hr7 : h_r h r0 2 = some a4) (hs8 : h_sh h a4 = some (1, n5)) (hb9 : vp_in (h_i (w_i (w_l h a0 ((h_i h r0 3).toNatClampNeg) l5) a2 ((h_i (w_l h a0 ((h_i h r0 3).toNatClampNeg) l5) r0 3).toNatClampNeg) x3) r0 3) n5) (k : wpx d P_Ta_add 65 [.ref r0, .long l1, .retAddr 2, .int x3, .int x4, .long l5, .retAddr 2] [] (w_i (w_i (w_l h a0 ((h_i h r0 3).toNatClampNeg) l5) a2 ((h_i (w_l h a0 ((h_i h r0 3).toNatClampNeg) l5) r0 3).toNatClampNeg) x3) a4 ((h_i (w_i (w_l h a0 ((h_i h r0 3).toNatClampNeg) l5) a2 ((h_i (w_l h a0 ((h_i h r0 3).toNatClampNeg) l5) r0 3).toNatClampNeg) x3) r0 3).toNatClampNeg) x4) Q) : wpx d P_Ta_add 33 [.ref r0, .long l1, .retAddr 2, .int x3, .int x4, .long l5, .retAddr 2] [] h Q := by
  refine st_aload (pc' := 34) rfl rfl rfl ?_
  refine st_getfr (x := some a0) (Or.inl rfl) rfl hs0 rfl hr1 (pc' := 37) rfl ?_
  refine st_aload (pc' := 38) rfl rfl rfl ?_
  refine st_getfi (Or.inl rfl) rfl hs0 rfl (pc' := 41) rfl ?_
  refine st_lload (pc' := 43) rfl rfl rfl rfl ?_
  refine st_lastore rfl hs2 hb3 (j := (h_i h r0 3).toNatClampNeg) rfl (pc' := 44) rfl ?_
  refine st_aload (pc' := 45) rfl rfl rfl ?_
  refine st_getfr (x := some a2) (Or.inl rfl) rfl hs0 rfl hr4 (pc' := 48) rfl ?_
  refine st_aload (pc' := 49) rfl rfl rfl ?_
  refine st_getfi (Or.inl rfl) rfl hs0 rfl (pc' := 52) rfl ?_
  refine st_iload (pc' := 53) rfl rfl rfl ?_
  refine st_iastore rfl hs5 hb6 (j := (h_i (w_l h a0 ((h_i h r0 3).toNatClampNeg) l5) r0 3).toNatClampNeg) rfl (pc' := 54) rfl ?_
  refine st_aload (pc' := 55) rfl rfl rfl ?_
  refine st_getfr (x := some a4) (Or.inl rfl) rfl hs0 rfl hr7 (pc' := 58) rfl ?_
  refine st_aload (pc' := 59) rfl rfl rfl ?_
  refine st_getfi (Or.inl rfl) rfl hs0 rfl (pc' := 62) rfl ?_
  refine st_iload (pc' := 64) rfl rfl rfl ?_
  refine st_iastore rfl hs8 hb9 (j := (h_i (w_i (w_l h a0 ((h_i h r0 3).toNatClampNeg) l5) a2 ((h_i (w_l h a0 ((h_i h r0 3).toNatClampNeg) l5) r0 3).toNatClampNeg) x3) r0 3).toNatClampNeg) rfl (pc' := 65) rfl ?_
  exact k
theorem B_Ta_add_65 {d : Nat} {h : PH} {Q : PQ} {r0 : Nat} {l1 : Int64} {x3 : Int32} {x4 : Int32} {l5 : Int64} (hs0 : h_sh h r0 = some (0, 6)) (k : Q none (w_i h r0 3 ((h_i h r0 3) + (1 : Int32)))) : wpx d P_Ta_add 65 [.ref r0, .long l1, .retAddr 2, .int x3, .int x4, .long l5, .retAddr 2] [] h Q := by
  refine st_aload (pc' := 66) rfl rfl rfl ?_
  refine st_dup (pc' := 67) rfl rfl rfl ?_
  refine st_getfi (Or.inl rfl) rfl hs0 rfl (pc' := 70) rfl ?_
  refine st_ipush (pc' := 71) (v := 1) rfl rfl (by decide) ?_
  refine st_iadd (pc' := 72) rfl rfl ?_
  refine st_putf (h' := w_i h r0 3 ((h_i h r0 3) + (1 : Int32))) (Or.inl rfl) rfl hs0 rfl rfl rfl (pc' := 75) rfl ?_
  exact st_return rfl k
theorem B_Ta_find_0 {d : Nat} {h : PH} {Q : PQ} {r0 : Nat} {l1 : Int64} {v3 : Value}  (k : wpx d P_Ta_find 2 [.ref r0, .long l1, .retAddr 2, .int 0] [] h Q) : wpx d P_Ta_find 0 [.ref r0, .long l1, .retAddr 2, v3] [] h Q := by
  refine st_ipush (pc' := 1) (v := 0) rfl rfl (by decide) ?_
  refine st_istore (pc' := 2) (ls' := [.ref r0, .long l1, .retAddr 2, .int 0]) rfl rfl (Nat.le_of_ble_eq_true rfl) rfl ?_
  exact k
theorem B_Ta_find_2 {d : Nat} {h : PH} {Q : PQ} {r0 : Nat} {l1 : Int64} {x3 : Int32} (hs0 : h_sh h r0 = some (0, 6)) (kt : (h_i h r0 3) ≤ x3 → wpx d P_Ta_find 29 [.ref r0, .long l1, .retAddr 2, .int x3] [] h Q) (kf : ¬ ((h_i h r0 3) ≤ x3) → wpx d P_Ta_find 10 [.ref r0, .long l1, .retAddr 2, .int x3] [] h Q) : wpx d P_Ta_find 2 [.ref r0, .long l1, .retAddr 2, .int x3] [] h Q := by
  refine st_iload (pc' := 3) rfl rfl rfl ?_
  refine st_aload (pc' := 4) rfl rfl rfl ?_
  refine st_getfi (Or.inl rfl) rfl hs0 rfl (pc' := 7) rfl ?_
  exact st_icmp_ge (pc' := 10) rfl rfl kt kf
theorem B_Ta_find_10 {d : Nat} {h : PH} {Q : PQ} {r0 : Nat} {l1 : Int64} {x3 : Int32} {a0 : Nat} {n1 : Nat} (hs0 : h_sh h r0 = some (0, 6)) (hr1 : h_r h r0 0 = some a0) (hs2 : h_sh h a0 = some (4, n1)) (hb3 : vp_in x3 n1) (kt : ¬ ((lg_cmp (h_l h a0 x3.toNatClampNeg) l1) = 0) → wpx d P_Ta_find 23 [.ref r0, .long l1, .retAddr 2, .int x3] [] h Q) (kf : (lg_cmp (h_l h a0 x3.toNatClampNeg) l1) = 0 → wpx d P_Ta_find 21 [.ref r0, .long l1, .retAddr 2, .int x3] [] h Q) : wpx d P_Ta_find 10 [.ref r0, .long l1, .retAddr 2, .int x3] [] h Q := by
  refine st_aload (pc' := 11) rfl rfl rfl ?_
  refine st_getfr (x := some a0) (Or.inl rfl) rfl hs0 rfl hr1 (pc' := 14) rfl ?_
  refine st_iload (pc' := 15) rfl rfl rfl ?_
  refine st_laload rfl hs2 hb3 (j := x3.toNatClampNeg) rfl (pc' := 16) rfl ?_
  refine st_lload (pc' := 17) rfl rfl rfl rfl ?_
  refine st_lcmp (pc' := 18) rfl rfl ?_
  exact st_if_ne (pc' := 21) rfl rfl kt kf
theorem B_Ta_find_21 {d : Nat} {h : PH} {Q : PQ} {r0 : Nat} {l1 : Int64} {x3 : Int32}  (k : Q (some (.int x3)) h) : wpx d P_Ta_find 21 [.ref r0, .long l1, .retAddr 2, .int x3] [] h Q := by
  refine st_iload (pc' := 22) rfl rfl rfl ?_
  exact st_ireturn (ty := .int) rfl rfl rfl k
theorem B_Ta_find_23 {d : Nat} {h : PH} {Q : PQ} {r0 : Nat} {l1 : Int64} {x3 : Int32}  (k : wpx d P_Ta_find 2 [.ref r0, .long l1, .retAddr 2, .int (x3 + 1)] [] h Q) : wpx d P_Ta_find 23 [.ref r0, .long l1, .retAddr 2, .int x3] [] h Q := by
  refine st_iinc (pc' := 26) (v := 1) (ls' := [.ref r0, .long l1, .retAddr 2, .int (x3 + 1)]) rfl rfl rfl (by decide) rfl ?_
  exact st_goto rfl k
theorem B_Ta_find_29 {d : Nat} {h : PH} {Q : PQ} {r0 : Nat} {l1 : Int64} {x3 : Int32}  (k : Q (some (.int (-1))) h) : wpx d P_Ta_find 29 [.ref r0, .long l1, .retAddr 2, .int x3] [] h Q := by
  refine st_ipush (pc' := 30) (v := (-1)) rfl rfl (by decide) ?_
  exact st_ireturn (ty := .int) rfl rfl rfl k
theorem B_Ta_sortAsInDictionary_0 {d : Nat} {h : PH} {Q : PQ} {r0 : Nat} {x1 : Int32} {x2 : Int32} {v3 : Value} {v4 : Value} {v5 : Value} {v6 : Value} {v7 : Value} {v8 : Value}  (k : wpx d P_Ta_sortAsInDictionary 4 [.ref r0, .int x1, .int x2, .int (x1 + (1 : Int32)), v4, v5, v6, v7, v8] [] h Q) : wpx d P_Ta_sortAsInDictionary 0 [.ref r0, .int x1, .int x2, v3, v4, v5, v6, v7, v8] [] h Q := by
  refine st_iload (pc' := 1) rfl rfl rfl ?_
  refine st_ipush (pc' := 2) (v := 1) rfl rfl (by decide) ?_
  refine st_iadd (pc' := 3) rfl rfl ?_
  refine st_istore (pc' := 4) (ls' := [.ref r0, .int x1, .int x2, .int (x1 + (1 : Int32)), v4, v5, v6, v7, v8]) rfl rfl (Nat.le_of_ble_eq_true rfl) rfl ?_
  exact k
theorem B_Ta_sortAsInDictionary_4 {d : Nat} {h : PH} {Q : PQ} {r0 : Nat} {x1 : Int32} {x2 : Int32} {x3 : Int32} {v4 : Value} {v5 : Value} {v6 : Value} {v7 : Value} {v8 : Value}  (kt : x2 ≤ x3 → wpx d P_Ta_sortAsInDictionary 165 [.ref r0, .int x1, .int x2, .int x3, v4, v5, v6, v7, v8] [] h Q) (kf : ¬ (x2 ≤ x3) → wpx d P_Ta_sortAsInDictionary 9 [.ref r0, .int x1, .int x2, .int x3, v4, v5, v6, v7, v8] [] h Q) : wpx d P_Ta_sortAsInDictionary 4 [.ref r0, .int x1, .int x2, .int x3, v4, v5, v6, v7, v8] [] h Q := by
  refine st_iload (pc' := 5) rfl rfl rfl ?_
  refine st_iload (pc' := 6) rfl rfl rfl ?_
  exact st_icmp_ge (pc' := 9) rfl rfl kt kf
theorem B_Ta_sortAsInDictionary_9 {d : Nat} {h : PH} {Q : PQ} {r0 : Nat} {x1 : Int32} {x2 : Int32} {x3 : Int32} {v4 : Value} {v5 : Value} {v6 : Value} {v7 : Value} {v8 : Value} {a0 : Nat} {n1 : Nat} {a2 : Nat} {n3 : Nat} {a4 : Nat} {n5 : Nat} (hs0 : h_sh h r0 = some (0, 6)) (hr1 : h_r h r0 0 = some a0) (hs2 : h_sh h a0 = some (4, n1)) (hb3 : vp_in x3 n1) (hr4 : h_r h r0 1 = some a2) (hs5 : h_sh h a2 = some (1, n3)) (hb6 : vp_in x3 n3) (hr7 : h_r h r0 2 = some a4) (hs8 : h_sh h a4 = some (1, n5)) (hb9 : vp_in x3 n5) (k : wpx d P_Ta_sortAsInDictionary 38 [.ref r0, .int x1, .int x2, .int x3, .long (h_l h a0 x3.toNatClampNeg), .retAddr 2, .int (h_i h a2 x3.toNatClampNeg), .int (h_i h a4 x3.toNatClampNeg), .int (x3 - (1 : Int32))] [] h Q) : wpx d P_Ta_sortAsInDictionary 9 [.ref r0, .int x1, .int x2, .int x3, v4, v5, v6, v7, v8] [] h Q := by
  refine st_aload (pc' := 10) rfl rfl rfl ?_
  refine st_getfr (x := some a0) (Or.inl rfl) rfl hs0 rfl hr1 (pc' := 13) rfl ?_
  refine st_iload (pc' := 14) rfl rfl rfl ?_
  refine st_laload rfl hs2 hb3 (j := x3.toNatClampNeg) rfl (pc' := 15) rfl ?_
  refine st_lstore (pc' := 17) (ls' := [.ref r0, .int x1, .int x2, .int x3, .long (h_l h a0 x3.toNatClampNeg), .retAddr 2, v6, v7, v8]) rfl rfl (Nat.le_of_ble_eq_true rfl) rfl ?_
  refine st_aload (pc' := 18) rfl rfl rfl ?_
  refine st_getfr (x := some a2) (Or.inl rfl) rfl hs0 rfl hr4 (pc' := 21) rfl ?_
  refine st_iload (pc' := 22) rfl rfl rfl ?_
  refine st_iaload rfl hs5 hb6 (j := x3.toNatClampNeg) rfl (pc' := 23) rfl ?_
  refine st_istore (pc' := 25) (ls' := [.ref r0, .int x1, .int x2, .int x3, .long (h_l h a0 x3.toNatClampNeg), .retAddr 2, .int (h_i h a2 x3.toNatClampNeg), v7, v8]) rfl rfl (Nat.le_of_ble_eq_true rfl) rfl ?_
  refine st_aload (pc' := 26) rfl rfl rfl ?_
  refine st_getfr (x := some a4) (Or.inl rfl) rfl hs0 rfl hr7 (pc' := 29) rfl ?_
  refine st_iload (pc' := 30) rfl rfl rfl ?_
  refine st_iaload rfl hs8 hb9 (j := x3.toNatClampNeg) rfl (pc' := 31) rfl ?_
  refine st_istore (pc' := 33) (ls' := [.ref r0, .int x1, .int x2, .int x3, .long (h_l h a0 x3.toNatClampNeg), .retAddr 2, .int (h_i h a2 x3.toNatClampNeg), .int (h_i h a4 x3.toNatClampNeg), v8]) rfl rfl (Nat.le_of_ble_eq_true rfl) rfl ?_
  refine st_iload (pc' := 34) rfl rfl rfl ?_
  refine st_ipush (pc' := 35) (v := 1) rfl rfl (by decide) ?_
  refine st_isub (pc' := 36) rfl rfl ?_
  refine st_istore (pc' := 38) (ls' := [.ref r0, .int x1, .int x2, .int x3, .long (h_l h a0 x3.toNatClampNeg), .retAddr 2, .int (h_i h a2 x3.toNatClampNeg), .int (h_i h a4 x3.toNatClampNeg), .int (x3 - (1 : Int32))]) rfl rfl (Nat.le_of_ble_eq_true rfl) rfl ?_
  exact k
theorem B_Ta_sortAsInDictionary_38 {d : Nat} {h : PH} {Q : PQ} {r0 : Nat} {x1 : Int32} {x2 : Int32} {x3 : Int32} {l4 : Int64} {x6 : Int32} {x7 : Int32} {x8 : Int32}  (kt : x8 < x1 → wpx d P_Ta_sortAsInDictionary 126 [.ref r0, .int x1, .int x2, .int x3, .long l4, .retAddr 2, .int x6, .int x7, .int x8] [] h Q) (kf : ¬ (x8 < x1) → wpx d P_Ta_sortAsInDictionary 44 [.ref r0, .int x1, .int x2, .int x3, .long l4, .retAddr 2, .int x6, .int x7, .int x8] [] h Q) : wpx d P_Ta_sortAsInDictionary 38 [.ref r0, .int x1, .int x2, .int x3, .long l4, .retAddr 2, .int x6, .int x7, .int x8] [] h Q := by
  refine st_iload (pc' := 40) rfl rfl rfl ?_
  refine st_iload (pc' := 41) rfl rfl rfl ?_
  exact st_icmp_lt (pc' := 44) rfl rfl kt kf
theorem B_Ta_sortAsInDictionary_44 {d : Nat} {h : PH} {Q : PQ} {r0 : Nat} {x1 : Int32} {x2 : Int32} {x3 : Int32} {l4 : Int64} {x6 : Int32} {x7 : Int32} {x8 : Int32} {a0 : Nat} {n1 : Nat} {a2 : Nat} {n3 : Nat} (hs0 : h_sh h r0 = some (0, 6)) (hr1 : h_r h r0 0 = some a0) (hs2 : h_sh h a0 = some (4, n1)) (hb3 : vp_in x8 n1) (hr4 : h_r h r0 1 = some a2) (hs5 : h_sh h a2 = some (1, n3)) (hb6 : vp_in x8 n3) (k : wpm d 167 [.long (h_l h a0 x8.toNatClampNeg), .int (h_i h a2 x8.toNatClampNeg)] h (fun r h' => wpx d P_Ta_sortAsInDictionary 61 [.ref r0, .int x1, .int x2, .int x3, .long l4, .retAddr 2, .int x6, .int x7, .int x8] (r.toList ++ []) h' Q)) : wpx d P_Ta_sortAsInDictionary 44 [.ref r0, .int x1, .int x2, .int x3, .long l4, .retAddr 2, .int x6, .int x7, .int x8] [] h Q := by
  refine st_aload (pc' := 45) rfl rfl rfl ?_
  refine st_getfr (x := some a0) (Or.inl rfl) rfl hs0 rfl hr1 (pc' := 48) rfl ?_
  refine st_iload (pc' := 50) rfl rfl rfl ?_
  refine st_laload rfl hs2 hb3 (j := x8.toNatClampNeg) rfl (pc' := 51) rfl ?_
  refine st_aload (pc' := 52) rfl rfl rfl ?_
  refine st_getfr (x := some a2) (Or.inl rfl) rfl hs0 rfl hr4 (pc' := 55) rfl ?_
  refine st_iload (pc' := 57) rfl rfl rfl ?_
  refine st_iaload rfl hs5 hb6 (j := x8.toNatClampNeg) rfl (pc' := 58) rfl ?_
  exact st_call (pc' := 61) (as := [.long (h_l h a0 x8.toNatClampNeg), .int (h_i h a2 x8.toNatClampNeg)]) (rest := []) rfl rfl (Nat.le_of_ble_eq_true rfl) rfl rfl (Nat.le_of_ble_eq_true rfl) (kd := 0) (o := 11) rfl rfl rfl k
theorem B_Ta_sortAsInDictionary_61 {d : Nat} {h : PH} {Q : PQ} {r0 : Nat} {x1 : Int32} {x2 : Int32} {x3 : Int32} {l4 : Int64} {x6 : Int32} {x7 : Int32} {x8 : Int32} {t0 : Int64}  (k : wpm d 167 [.long l4, .int x6] h (fun r h' => wpx d P_Ta_sortAsInDictionary 68 [.ref r0, .int x1, .int x2, .int x3, .long l4, .retAddr 2, .int x6, .int x7, .int x8] (r.toList ++ [.long t0]) h' Q)) : wpx d P_Ta_sortAsInDictionary 61 [.ref r0, .int x1, .int x2, .int x3, .long l4, .retAddr 2, .int x6, .int x7, .int x8] [.long t0] h Q := by
  refine st_lload (pc' := 63) rfl rfl rfl rfl ?_
  refine st_iload (pc' := 65) rfl rfl rfl ?_
  exact st_call (pc' := 68) (as := [.long l4, .int x6]) (rest := [.long t0]) rfl rfl (Nat.le_of_ble_eq_true rfl) rfl rfl (Nat.le_of_ble_eq_true rfl) (kd := 0) (o := 11) rfl rfl rfl k
theorem B_Ta_sortAsInDictionary_68 {d : Nat} {h : PH} {Q : PQ} {r0 : Nat} {x1 : Int32} {x2 : Int32} {x3 : Int32} {l4 : Int64} {x6 : Int32} {x7 : Int32} {x8 : Int32} {t0 : Int64} {t1 : Int64}  (kt : (lg_cmp t0 t1) ≤ 0 → wpx d P_Ta_sortAsInDictionary 126 [.ref r0, .int x1, .int x2, .int x3, .long l4, .retAddr 2, .int x6, .int x7, .int x8] [] h Q) (kf : ¬ ((lg_cmp t0 t1) ≤ 0) → wpx d P_Ta_sortAsInDictionary 72 [.ref r0, .int x1, .int x2, .int x3, .long l4, .retAddr 2, .int x6, .int x7, .int x8] [] h Q) : wpx d P_Ta_sortAsInDictionary 68 [.ref r0, .int x1, .int x2, .int x3, .long l4, .retAddr 2, .int x6, .int x7, .int x8] [.long t1, .long t0] h Q := by
  refine st_lcmp (pc' := 69) rfl rfl ?_
  exact st_if_le (pc' := 72) rfl rfl kt kf
theorem B_Ta_sortAsInDictionary_72 {d : Nat} {h : PH} {Q : PQ} {r0 : Nat} {x1 : Int32} {x2 : Int32} {x3 : Int32} {l4 : Int64} {x6 : Int32} {x7 : Int32} {x8 : Int32} {a0 : Nat} {n1 : Nat} {a2 : Nat} {n3 : Nat} {a4 : Nat} {n5 : Nat} (hs0 : h_sh h r0 = some (0, 6)) (hr1 : h_r h r0 0 = some a0) (hs2 : h_sh h a0 = some (4, n1)) (hb3 : vp_in x8 n1) (hb4 : vp_in (x8 + (1 : Int32)) n1) (hr5 : h_r h r0 1 = some a2) (hs6 : h_sh h a2 = some (1, n3)) (hb7 : vp_in x8 n3) (hb8 : vp_in (x8 + (1 : Int32)) n3) (hr9 : h_r h r0 2 = some a4) (hs10 : h_sh h a4 = some (1, n5)) (hb11 : vp_in x8 n5) (hb12 : vp_in (x8 + (1 : Int32)) n5) (k : wpx d P_Ta_sortAsInDictionary 120 [.ref r0, .int x1, .int x2, .int x3, .long l4, .retAddr 2, .int x6, .int x7, .int x8] [] (w_i (w_i (w_l h a0 ((x8 + (1 : Int32)).toNatClampNeg) (h_l h a0 x8.toNatClampNeg)) a2 ((x8 + (1 : Int32)).toNatClampNeg) (h_i (w_l h a0 ((x8 + (1 : Int32)).toNatClampNeg) (h_l h a0 x8.toNatClampNeg)) a2 x8.toNatClampNeg)) a4 ((x8 + (1 : Int32)).toNatClampNeg) (h_i (w_i (w_l h a0 ((x8 + (1 : Int32)).toNatClampNeg) (h_l h a0 x8.toNatClampNeg)) a2 ((x8 + (1 : Int32)).toNatClampNeg) (h_i (w_l h a0 ((x8 + (1 : Int32)).toNatClampNeg) (h_l h a0 x8.toNatClampNeg)) a2 x8.toNatClampNeg)) a4 x8.toNatClampNeg)) Q) : wpx d P_Ta_sortAsInDictionary 72 [.ref r0, .int x1, .int x2, .int x3, .long l4, .retAddr 2, .int x6, .int x7, .int x8] [] h Q := by
  refine st_aload (pc' := 73) rfl rfl rfl ?_
  refine st_getfr (x := some a0) (Or.inl rfl) rfl hs0 rfl hr1 (pc' := 76) rfl ?_
  refine st_iload (pc' := 78) rfl rfl rfl ?_
  refine st_ipush (pc' := 79) (v := 1) rfl rfl (by decide) ?_
  refine st_iadd (pc' := 80) rfl rfl ?_
  refine st_aload (pc' := 81) rfl rfl rfl ?_
  refine st_getfr (x := some a0) (Or.inl rfl) rfl hs0 rfl hr1 (pc' := 84) rfl ?_
  refine st_iload (pc' := 86) rfl rfl rfl ?_
  refine st_laload rfl hs2 hb3 (j := x8.toNatClampNeg) rfl (pc' := 87) rfl ?_
  refine st_lastore rfl hs2 hb4 (j := (x8 + (1 : Int32)).toNatClampNeg) rfl (pc' := 88) rfl ?_
  refine st_aload (pc' := 89) rfl rfl rfl ?_
  refine st_getfr (x := some a2) (Or.inl rfl) rfl hs0 rfl hr5 (pc' := 92) rfl ?_
  refine st_iload (pc' := 94) rfl rfl rfl ?_
  refine st_ipush (pc' := 95) (v := 1) rfl rfl (by decide) ?_
  refine st_iadd (pc' := 96) rfl rfl ?_
  refine st_aload (pc' := 97) rfl rfl rfl ?_
  refine st_getfr (x := some a2) (Or.inl rfl) rfl hs0 rfl hr5 (pc' := 100) rfl ?_
  refine st_iload (pc' := 102) rfl rfl rfl ?_
  refine st_iaload rfl hs6 hb7 (j := x8.toNatClampNeg) rfl (pc' := 103) rfl ?_
  refine st_iastore rfl hs6 hb8 (j := (x8 + (1 : Int32)).toNatClampNeg) rfl (pc' := 104) rfl ?_
  refine st_aload (pc' := 105) rfl rfl rfl ?_
  refine st_getfr (x := some a4) (Or.inl rfl) rfl hs0 rfl hr9 (pc' := 108) rfl ?_
  refine st_iload (pc' := 110) rfl rfl rfl ?_
  refine st_ipush (pc' := 111) (v := 1) rfl rfl (by decide) ?_
  refine st_iadd (pc' := 112) rfl rfl ?_
  refine st_aload (pc' := 113) rfl rfl rfl ?_
  refine st_getfr (x := some a4) (Or.inl rfl) rfl hs0 rfl hr9 (pc' := 116) rfl ?_
  refine st_iload (pc' := 118) rfl rfl rfl ?_
  refine st_iaload rfl hs10 hb11 (j := x8.toNatClampNeg) rfl (pc' := 119) rfl ?_
  refine st_iastore rfl hs10 hb12 (j := (x8 + (1 : Int32)).toNatClampNeg) rfl (pc' := 120) rfl ?_
  exact k
theorem B_Ta_sortAsInDictionary_126 {d : Nat} {h : PH} {Q : PQ} {r0 : Nat} {x1 : Int32} {x2 : Int32} {x3 : Int32} {l4 : Int64} {x6 : Int32} {x7 : Int32} {x8 : Int32} {a0 : Nat} {n1 : Nat} {a2 : Nat} {n3 : Nat} {a4 : Nat} {n5 : Nat} (hs0 : h_sh h r0 = some (0, 6)) (hr1 : h_r h r0 0 = some a0) (hs2 : h_sh h a0 = some (4, n1)) (hb3 : vp_in (x8 + (1 : Int32)) n1) (hr4 : h_r h r0 1 = some a2) (hs5 : h_sh h a2 = some (1, n3)) (hb6 : vp_in (x8 + (1 : Int32)) n3) (hr7 : h_r h r0 2 = some a4) (hs8 : h_sh h a4 = some (1, n5)) (hb9 : vp_in (x8 + (1 : Int32)) n5) (k : wpx d P_Ta_sortAsInDictionary 4 [.ref r0, .int x1, .int x2, .int (x3 + 1), .long l4, .retAddr 2, .int x6, .int x7, .int x8] [] (w_i (w_i (w_l h a0 ((x8 + (1 : Int32)).toNatClampNeg) l4) a2 ((x8 + (1 : Int32)).toNatClampNeg) x6) a4 ((x8 + (1 : Int32)).toNatClampNeg) x7) Q) : wpx d P_Ta_sortAsInDictionary 126 [.ref r0, .int x1, .int x2, .int x3, .long l4, .retAddr 2, .int x6, .int x7, .int x8] [] h Q := by
  refine st_aload (pc' := 127) rfl rfl rfl ?_
  refine st_getfr (x := some a0) (Or.inl rfl) rfl hs0 rfl hr1 (pc' := 130) rfl ?_
  refine st_iload (pc' := 132) rfl rfl rfl ?_
  refine st_ipush (pc' := 133) (v := 1) rfl rfl (by decide) ?_
  refine st_iadd (pc' := 134) rfl rfl ?_
  refine st_lload (pc' := 136) rfl rfl rfl rfl ?_
  refine st_lastore rfl hs2 hb3 (j := (x8 + (1 : Int32)).toNatClampNeg) rfl (pc' := 137) rfl ?_
  refine st_aload (pc' := 138) rfl rfl rfl ?_
  refine st_getfr (x := some a2) (Or.inl rfl) rfl hs0 rfl hr4 (pc' := 141) rfl ?_
  refine st_iload (pc' := 143) rfl rfl rfl ?_
  refine st_ipush (pc' := 144) (v := 1) rfl rfl (by decide) ?_
  refine st_iadd (pc' := 145) rfl rfl ?_
  refine st_iload (pc' := 147) rfl rfl rfl ?_
  refine st_iastore rfl hs5 hb6 (j := (x8 + (1 : Int32)).toNatClampNeg) rfl (pc' := 148) rfl ?_
  refine st_aload (pc' := 149) rfl rfl rfl ?_
  refine st_getfr (x := some a4) (Or.inl rfl) rfl hs0 rfl hr7 (pc' := 152) rfl ?_
  refine st_iload (pc' := 154) rfl rfl rfl ?_
  refine st_ipush (pc' := 155) (v := 1) rfl rfl (by decide) ?_
  refine st_iadd (pc' := 156) rfl rfl ?_
  refine st_iload (pc' := 158) rfl rfl rfl ?_
  refine st_iastore rfl hs8 hb9 (j := (x8 + (1 : Int32)).toNatClampNeg) rfl (pc' := 159) rfl ?_
  refine st_iinc (pc' := 162) (v := 1) (ls' := [.ref r0, .int x1, .int x2, .int (x3 + 1), .long l4, .retAddr 2, .int x6, .int x7, .int x8]) rfl rfl rfl (by decide) rfl ?_
  exact st_goto rfl k
theorem B_Ta_sortAsInDictionary_165 {d : Nat} {h : PH} {Q : PQ} {r0 : Nat} {x1 : Int32} {x2 : Int32} {x3 : Int32} {v4 : Value} {v5 : Value} {v6 : Value} {v7 : Value} {v8 : Value}  (k : Q none h) : wpx d P_Ta_sortAsInDictionary 165 [.ref r0, .int x1, .int x2, .int x3, v4, v5, v6, v7, v8] [] h Q := by
  exact st_return rfl k
theorem B_Ta_sortAsInDictionary_120 {d : Nat} {h : PH} {Q : PQ} {r0 : Nat} {x1 : Int32} {x2 : Int32} {x3 : Int32} {l4 : Int64} {x6 : Int32} {x7 : Int32} {x8 : Int32}  (k : wpx d P_Ta_sortAsInDictionary 38 [.ref r0, .int x1, .int x2, .int x3, .long l4, .retAddr 2, .int x6, .int x7, .int (x8 + (-1))] [] h Q) : wpx d P_Ta_sortAsInDictionary 120 [.ref r0, .int x1, .int x2, .int x3, .long l4, .retAddr 2, .int x6, .int x7, .int x8] [] h Q := by
  refine st_iinc (pc' := 123) (v := (-1)) (ls' := [.ref r0, .int x1, .int x2, .int x3, .long l4, .retAddr 2, .int x6, .int x7, .int (x8 + (-1))]) rfl rfl rfl (by decide) rfl ?_
  exact st_goto rfl k
theorem B_Ta_seekDoubt_0 {d : Nat} {h : PH} {Q : PQ} {r0 : Nat} {r1 : Nat} {x2 : Int32} {v3 : Value} {v4 : Value} {a0 : Nat} {n1 : Nat} (hs0 : h_sh h r0 = some (0, 6)) (hr1 : h_r h r0 4 = some a0) (hs2 : h_sh h a0 = some (1, n1)) (hb3 : vp_in x2 n1) (k : wpx d P_Ta_seekDoubt 7 [.ref r0, .ref r1, .int x2, .int (h_i h a0 x2.toNatClampNeg), v4] [] h Q) : wpx d P_Ta_seekDoubt 0 [.ref r0, .ref r1, .int x2, v3, v4] [] h Q := by
  refine st_aload (pc' := 1) rfl rfl rfl ?_
  refine st_getfr (x := some a0) (Or.inl rfl) rfl hs0 rfl hr1 (pc' := 4) rfl ?_
  refine st_iload (pc' := 5) rfl rfl rfl ?_
  refine st_iaload rfl hs2 hb3 (j := x2.toNatClampNeg) rfl (pc' := 6) rfl ?_
  refine st_istore (pc' := 7) (ls' := [.ref r0, .ref r1, .int x2, .int (h_i h a0 x2.toNatClampNeg), v4]) rfl rfl (Nat.le_of_ble_eq_true rfl) rfl ?_
  exact k
theorem B_Ta_seekDoubt_7 {d : Nat} {h : PH} {Q : PQ} {r0 : Nat} {r1 : Nat} {x2 : Int32} {x3 : Int32} {v4 : Value} (hs0 : h_sh h r0 = some (0, 6)) (kt : (h_i h r0 3) ≤ x3 → wpx d P_Ta_seekDoubt 86 [.ref r0, .ref r1, .int x2, .int x3, v4] [] h Q) (kf : ¬ ((h_i h r0 3) ≤ x3) → wpx d P_Ta_seekDoubt 15 [.ref r0, .ref r1, .int x2, .int x3, v4] [] h Q) : wpx d P_Ta_seekDoubt 7 [.ref r0, .ref r1, .int x2, .int x3, v4] [] h Q := by
  refine st_iload (pc' := 8) rfl rfl rfl ?_
  refine st_aload (pc' := 9) rfl rfl rfl ?_
  refine st_getfi (Or.inl rfl) rfl hs0 rfl (pc' := 12) rfl ?_
  exact st_icmp_ge (pc' := 15) rfl rfl kt kf
theorem B_Ta_seekDoubt_15 {d : Nat} {h : PH} {Q : PQ} {r0 : Nat} {r1 : Nat} {x2 : Int32} {x3 : Int32} {v4 : Value}  (k : wpx d P_Ta_seekDoubt 18 [.ref r0, .ref r1, .int x2, .int x3, .int 0] [] h Q) : wpx d P_Ta_seekDoubt 15 [.ref r0, .ref r1, .int x2, .int x3, v4] [] h Q := by
  refine st_ipush (pc' := 16) (v := 0) rfl rfl (by decide) ?_
  refine st_istore (pc' := 18) (ls' := [.ref r0, .ref r1, .int x2, .int x3, .int 0]) rfl rfl (Nat.le_of_ble_eq_true rfl) rfl ?_
  exact k
theorem B_Ta_seekDoubt_18 {d : Nat} {h : PH} {Q : PQ} {r0 : Nat} {r1 : Nat} {x2 : Int32} {x3 : Int32} {x4 : Int32} (hs0 : h_sh h r1 = some (0, 3)) (kt : (h_i h r1 3) ≤ x4 → wpx d P_Ta_seekDoubt 80 [.ref r0, .ref r1, .int x2, .int x3, .int x4] [] h Q) (kf : ¬ ((h_i h r1 3) ≤ x4) → wpx d P_Ta_seekDoubt 27 [.ref r0, .ref r1, .int x2, .int x3, .int x4] [] h Q) : wpx d P_Ta_seekDoubt 18 [.ref r0, .ref r1, .int x2, .int x3, .int x4] [] h Q := by
  refine st_iload (pc' := 20) rfl rfl rfl ?_
  refine st_aload (pc' := 21) rfl rfl rfl ?_
  refine st_getfi (Or.inr rfl) rfl hs0 rfl (pc' := 24) rfl ?_
  exact st_icmp_ge (pc' := 27) rfl rfl kt kf
theorem B_Ta_seekDoubt_27 {d : Nat} {h : PH} {Q : PQ} {r0 : Nat} {r1 : Nat} {x2 : Int32} {x3 : Int32} {x4 : Int32} (hs0 : h_sh h r1 = some (0, 3)) (k : wpm d 35 [.ref r1, .int x4] h (fun r h' => wpx d P_Ta_seekDoubt 33 [.ref r0, .ref r1, .int x2, .int x3, .int x4] (r.toList ++ []) h' Q)) : wpx d P_Ta_seekDoubt 27 [.ref r0, .ref r1, .int x2, .int x3, .int x4] [] h Q := by
  refine st_aload (pc' := 28) rfl rfl rfl ?_
  refine st_iload (pc' := 30) rfl rfl rfl ?_
  exact st_call (pc' := 33) (as := [.ref r1, .int x4]) (rest := []) rfl rfl (Nat.le_of_ble_eq_true rfl) rfl rfl (Nat.le_of_ble_eq_true rfl) (kd := 1) (o := 3) rfl rfl (beq_iff_eq.mpr hs0) k
theorem B_Ta_seekDoubt_33 {d : Nat} {h : PH} {Q : PQ} {r0 : Nat} {r1 : Nat} {x2 : Int32} {x3 : Int32} {x4 : Int32} {s0 : Int32}  (kt : s0 = 0 → wpx d P_Ta_seekDoubt 74 [.ref r0, .ref r1, .int x2, .int x3, .int x4] [] h Q) (kf : ¬ (s0 = 0) → wpx d P_Ta_seekDoubt 36 [.ref r0, .ref r1, .int x2, .int x3, .int x4] [] h Q) : wpx d P_Ta_seekDoubt 33 [.ref r0, .ref r1, .int x2, .int x3, .int x4] [.int s0] h Q := by
  exact st_if_eq (pc' := 36) rfl rfl kt kf
theorem B_Ta_seekDoubt_36 {d : Nat} {h : PH} {Q : PQ} {r0 : Nat} {r1 : Nat} {x2 : Int32} {x3 : Int32} {x4 : Int32} {a0 : Nat} {n1 : Nat} {a2 : Nat} {n3 : Nat} (hs0 : h_sh h r1 = some (0, 3)) (hr1 : h_r h r1 0 = some a0) (hs2 : h_sh h a0 = some (4, n1)) (hb3 : vp_in x4 n1) (hs4 : h_sh h r0 = some (0, 6)) (hr5 : h_r h r0 0 = some a2) (hs6 : h_sh h a2 = some (4, n3)) (hb7 : vp_in x3 n3) (kt : ¬ ((lg_cmp (h_l h a0 x4.toNatClampNeg) (h_l h a2 x3.toNatClampNeg)) = 0) → wpx d P_Ta_seekDoubt 74 [.ref r0, .ref r1, .int x2, .int x3, .int x4] [] h Q) (kf : (lg_cmp (h_l h a0 x4.toNatClampNeg) (h_l h a2 x3.toNatClampNeg)) = 0 → wpx d P_Ta_seekDoubt 53 [.ref r0, .ref r1, .int x2, .int x3, .int x4] [] h Q) : wpx d P_Ta_seekDoubt 36 [.ref r0, .ref r1, .int x2, .int x3, .int x4] [] h Q := by
  refine st_aload (pc' := 37) rfl rfl rfl ?_
  refine st_getfr (x := some a0) (Or.inr rfl) rfl hs0 rfl hr1 (pc' := 40) rfl ?_
  refine st_iload (pc' := 42) rfl rfl rfl ?_
  refine st_laload rfl hs2 hb3 (j := x4.toNatClampNeg) rfl (pc' := 43) rfl ?_
  refine st_aload (pc' := 44) rfl rfl rfl ?_
  refine st_getfr (x := some a2) (Or.inl rfl) rfl hs4 rfl hr5 (pc' := 47) rfl ?_
  refine st_iload (pc' := 48) rfl rfl rfl ?_
  refine st_laload rfl hs6 hb7 (j := x3.toNatClampNeg) rfl (pc' := 49) rfl ?_
  refine st_lcmp (pc' := 50) rfl rfl ?_
  exact st_if_ne (pc' := 53) rfl rfl kt kf
theorem B_Ta_seekDoubt_53 {d : Nat} {h : PH} {Q : PQ} {r0 : Nat} {r1 : Nat} {x2 : Int32} {x3 : Int32} {x4 : Int32} {a0 : Nat} {n1 : Nat} (hs0 : h_sh h r0 = some (0, 6)) (hr1 : h_r h r0 2 = some a0) (hs2 : h_sh h a0 = some (1, n1)) (hb3 : vp_in x3 n1) (k : Q none (w_i (w_i h r0 6 x2) r0 7 ((h_i (w_i h r0 6 x2) a0 x3.toNatClampNeg) ||| ((1 : Int32) <<< (x4 &&& 31))))) : wpx d P_Ta_seekDoubt 53 [.ref r0, .ref r1, .int x2, .int x3, .int x4] [] h Q := by
  refine st_aload (pc' := 54) rfl rfl rfl ?_
  refine st_iload (pc' := 55) rfl rfl rfl ?_
  refine st_putf (h' := w_i h r0 6 x2) (Or.inl rfl) rfl hs0 rfl rfl rfl (pc' := 58) rfl ?_
  refine st_aload (pc' := 59) rfl rfl rfl ?_
  refine st_aload (pc' := 60) rfl rfl rfl ?_
  refine st_getfr (x := some a0) (Or.inl rfl) rfl hs0 rfl hr1 (pc' := 63) rfl ?_
  refine st_iload (pc' := 64) rfl rfl rfl ?_
  refine st_iaload rfl hs2 hb3 (j := x3.toNatClampNeg) rfl (pc' := 65) rfl ?_
  refine st_ipush (pc' := 66) (v := 1) rfl rfl (by decide) ?_
  refine st_iload (pc' := 68) rfl rfl rfl ?_
  refine st_ishl (pc' := 69) rfl rfl ?_
  refine st_ior (pc' := 70) rfl rfl ?_
  refine st_putf (h' := w_i (w_i h r0 6 x2) r0 7 ((h_i (w_i h r0 6 x2) a0 x3.toNatClampNeg) ||| ((1 : Int32) <<< (x4 &&& 31)))) (Or.inl rfl) rfl hs0 rfl rfl rfl (pc' := 73) rfl ?_
  exact st_return rfl k
theorem B_Ta_seekDoubt_74 {d : Nat} {h : PH} {Q : PQ} {r0 : Nat} {r1 : Nat} {x2 : Int32} {x3 : Int32} {x4 : Int32}  (k : wpx d P_Ta_seekDoubt 18 [.ref r0, .ref r1, .int x2, .int x3, .int (x4 + 1)] [] h Q) : wpx d P_Ta_seekDoubt 74 [.ref r0, .ref r1, .int x2, .int x3, .int x4] [] h Q := by
  refine st_iinc (pc' := 77) (v := 1) (ls' := [.ref r0, .ref r1, .int x2, .int x3, .int (x4 + 1)]) rfl rfl rfl (by decide) rfl ?_
  exact st_goto rfl k
theorem B_Ta_seekDoubt_80 {d : Nat} {h : PH} {Q : PQ} {r0 : Nat} {r1 : Nat} {x2 : Int32} {x3 : Int32} {x4 : Int32}  (k : wpx d P_Ta_seekDoubt 7 [.ref r0, .ref r1, .int x2, .int (x3 + 1), .int x4] [] h Q) : wpx d P_Ta_seekDoubt 80 [.ref r0, .ref r1, .int x2, .int x3, .int x4] [] h Q := by
  refine st_iinc (pc' := 83) (v := 1) (ls' := [.ref r0, .ref r1, .int x2, .int (x3 + 1), .int x4]) rfl rfl rfl (by decide) rfl ?_
  exact st_goto rfl k
theorem B_Ta_seekDoubt_86 {d : Nat} {h : PH} {Q : PQ} {r0 : Nat} {r1 : Nat} {x2 : Int32} {x3 : Int32} {v4 : Value}  (k : Q none h) : wpx d P_Ta_seekDoubt 86 [.ref r0, .ref r1, .int x2, .int x3, v4] [] h Q := by
  exact st_return rfl k
theorem B_Ta_sizeOf_0 {d : Nat} {h : PH} {Q : PQ} {r0 : Nat} {x1 : Int32}  (kt : x1 < (1 : Int32) → wpx d P_Ta_sizeOf 13 [.ref r0, .int x1] [] h Q) (kf : ¬ (x1 < (1 : Int32)) → wpx d P_Ta_sizeOf 5 [.ref r0, .int x1] [] h Q) : wpx d P_Ta_sizeOf 0 [.ref r0, .int x1] [] h Q := by
  refine st_iload (pc' := 1) rfl rfl rfl ?_
  refine st_ipush (pc' := 2) (v := 1) rfl rfl (by decide) ?_
  exact st_icmp_lt (pc' := 5) rfl rfl kt kf
theorem B_Ta_sizeOf_5 {d : Nat} {h : PH} {Q : PQ} {r0 : Nat} {x1 : Int32} (hs0 : h_sh h r0 = some (0, 6)) (kt : x1 ≤ (h_i h r0 5) → wpx d P_Ta_sizeOf 17 [.ref r0, .int x1] [] h Q) (kf : ¬ (x1 ≤ (h_i h r0 5)) → wpx d P_Ta_sizeOf 13 [.ref r0, .int x1] [] h Q) : wpx d P_Ta_sizeOf 5 [.ref r0, .int x1] [] h Q := by
  refine st_iload (pc' := 6) rfl rfl rfl ?_
  refine st_aload (pc' := 7) rfl rfl rfl ?_
  refine st_getfi (Or.inl rfl) rfl hs0 rfl (pc' := 10) rfl ?_
  exact st_icmp_le (pc' := 13) rfl rfl kt kf
theorem B_Ta_sizeOf_13 {d : Nat} {h : PH} {Q : PQ} {r0 : Nat} {x1 : Int32}  (k : wpx d P_Ta_sizeOf 32 [.ref r0, .int x1] [.int 0] h Q) : wpx d P_Ta_sizeOf 13 [.ref r0, .int x1] [] h Q := by
  refine st_ipush (pc' := 14) (v := 0) rfl rfl (by decide) ?_
  exact st_goto rfl k
theorem B_Ta_sizeOf_17 {d : Nat} {h : PH} {Q : PQ} {r0 : Nat} {x1 : Int32} {a0 : Nat} {n1 : Nat} (hs0 : h_sh h r0 = some (0, 6)) (hr1 : h_r h r0 4 = some a0) (hs2 : h_sh h a0 = some (1, n1)) (hb3 : vp_in (x1 + (1 : Int32)) n1) (hb4 : vp_in x1 n1) (k : wpx d P_Ta_sizeOf 32 [.ref r0, .int x1] [.int ((h_i h a0 (x1 + (1 : Int32)).toNatClampNeg) - (h_i h a0 x1.toNatClampNeg))] h Q) : wpx d P_Ta_sizeOf 17 [.ref r0, .int x1] [] h Q := by
  refine st_aload (pc' := 18) rfl rfl rfl ?_
  refine st_getfr (x := some a0) (Or.inl rfl) rfl hs0 rfl hr1 (pc' := 21) rfl ?_
  refine st_iload (pc' := 22) rfl rfl rfl ?_
  refine st_ipush (pc' := 23) (v := 1) rfl rfl (by decide) ?_
  refine st_iadd (pc' := 24) rfl rfl ?_
  refine st_iaload rfl hs2 hb3 (j := (x1 + (1 : Int32)).toNatClampNeg) rfl (pc' := 25) rfl ?_
  refine st_aload (pc' := 26) rfl rfl rfl ?_
  refine st_getfr (x := some a0) (Or.inl rfl) rfl hs0 rfl hr1 (pc' := 29) rfl ?_
  refine st_iload (pc' := 30) rfl rfl rfl ?_
  refine st_iaload rfl hs2 hb4 (j := x1.toNatClampNeg) rfl (pc' := 31) rfl ?_
  refine st_isub (pc' := 32) rfl rfl ?_
  exact k
theorem B_Ta_sizeOf_32 {d : Nat} {h : PH} {Q : PQ} {r0 : Nat} {x1 : Int32} {s0 : Int32}  (k : Q (some (.int s0)) h) : wpx d P_Ta_sizeOf 32 [.ref r0, .int x1] [.int s0] h Q := by
  exact st_ireturn (ty := .int) rfl rfl rfl k
theorem B_Ta_indexOf_0 {d : Nat} {h : PH} {Q : PQ} {r0 : Nat} {x1 : Int32} {x2 : Int32}  (kt : x2 < 0 → wpx d P_Ta_indexOf 13 [.ref r0, .int x1, .int x2] [] h Q) (kf : ¬ (x2 < 0) → wpx d P_Ta_indexOf 4 [.ref r0, .int x1, .int x2] [] h Q) : wpx d P_Ta_indexOf 0 [.ref r0, .int x1, .int x2] [] h Q := by
  refine st_iload (pc' := 1) rfl rfl rfl ?_
  exact st_if_lt (pc' := 4) rfl rfl kt kf
theorem B_Ta_indexOf_4 {d : Nat} {h : PH} {Q : PQ} {r0 : Nat} {x1 : Int32} {x2 : Int32} (hs0 : h_sh h r0 = some (0, 6)) (k : wpm d 76 [.ref r0, .int x1] h (fun r h' => wpx d P_Ta_indexOf 10 [.ref r0, .int x1, .int x2] (r.toList ++ [.int x2]) h' Q)) : wpx d P_Ta_indexOf 4 [.ref r0, .int x1, .int x2] [] h Q := by
  refine st_iload (pc' := 5) rfl rfl rfl ?_
  refine st_aload (pc' := 6) rfl rfl rfl ?_
  refine st_iload (pc' := 7) rfl rfl rfl ?_
  exact st_call (pc' := 10) (as := [.ref r0, .int x1]) (rest := [.int x2]) rfl rfl (Nat.le_of_ble_eq_true rfl) rfl rfl (Nat.le_of_ble_eq_true rfl) (kd := 1) (o := 6) rfl rfl (beq_iff_eq.mpr hs0) k
theorem B_Ta_indexOf_10 {d : Nat} {h : PH} {Q : PQ} {r0 : Nat} {x1 : Int32} {x2 : Int32} {s0 : Int32} {s1 : Int32}  (kt : s0 < s1 → wpx d P_Ta_indexOf 17 [.ref r0, .int x1, .int x2] [] h Q) (kf : ¬ (s0 < s1) → wpx d P_Ta_indexOf 13 [.ref r0, .int x1, .int x2] [] h Q) : wpx d P_Ta_indexOf 10 [.ref r0, .int x1, .int x2] [.int s1, .int s0] h Q := by
  exact st_icmp_lt (pc' := 13) rfl rfl kt kf
theorem B_Ta_indexOf_13 {d : Nat} {h : PH} {Q : PQ} {r0 : Nat} {x1 : Int32} {x2 : Int32}  (k : wpx d P_Ta_indexOf 25 [.ref r0, .int x1, .int x2] [.int (-1)] h Q) : wpx d P_Ta_indexOf 13 [.ref r0, .int x1, .int x2] [] h Q := by
  refine st_ipush (pc' := 14) (v := (-1)) rfl rfl (by decide) ?_
  exact st_goto rfl k
theorem B_Ta_indexOf_17 {d : Nat} {h : PH} {Q : PQ} {r0 : Nat} {x1 : Int32} {x2 : Int32} {a0 : Nat} {n1 : Nat} (hs0 : h_sh h r0 = some (0, 6)) (hr1 : h_r h r0 4 = some a0) (hs2 : h_sh h a0 = some (1, n1)) (hb3 : vp_in x1 n1) (k : wpx d P_Ta_indexOf 25 [.ref r0, .int x1, .int x2] [.int ((h_i h a0 x1.toNatClampNeg) + x2)] h Q) : wpx d P_Ta_indexOf 17 [.ref r0, .int x1, .int x2] [] h Q := by
  refine st_aload (pc' := 18) rfl rfl rfl ?_
  refine st_getfr (x := some a0) (Or.inl rfl) rfl hs0 rfl hr1 (pc' := 21) rfl ?_
  refine st_iload (pc' := 22) rfl rfl rfl ?_
  refine st_iaload rfl hs2 hb3 (j := x1.toNatClampNeg) rfl (pc' := 23) rfl ?_
  refine st_iload (pc' := 24) rfl rfl rfl ?_
  refine st_iadd (pc' := 25) rfl rfl ?_
  exact k
theorem B_Ta_indexOf_25 {d : Nat} {h : PH} {Q : PQ} {r0 : Nat} {x1 : Int32} {x2 : Int32} {s0 : Int32}  (k : Q (some (.int s0)) h) : wpx d P_Ta_indexOf 25 [.ref r0, .int x1, .int x2] [.int s0] h Q := by
  exact st_ireturn (ty := .int) rfl rfl rfl k
theorem B_Ta_lookAhead_0 {d : Nat} {h : PH} {Q : PQ} {r0 : Nat} {r1 : Nat} {v2 : Value} {v3 : Value} {v4 : Value} {v5 : Value} (hs0 : h_sh h r0 = some (0, 6)) (kt : (h_i h r0 6) = ((-1) : Int32) → wpx d P_Ta_lookAhead 10 [.ref r0, .ref r1, v2, v3, v4, v5] [] h Q) (kf : ¬ ((h_i h r0 6) = ((-1) : Int32)) → wpx d P_Ta_lookAhead 8 [.ref r0, .ref r1, v2, v3, v4, v5] [] h Q) : wpx d P_Ta_lookAhead 0 [.ref r0, .ref r1, v2, v3, v4, v5] [] h Q := by
  refine st_aload (pc' := 1) rfl rfl rfl ?_
  refine st_getfi (Or.inl rfl) rfl hs0 rfl (pc' := 4) rfl ?_
  refine st_ipush (pc' := 5) (v := (-1)) rfl rfl (by decide) ?_
  exact st_icmp_eq (pc' := 8) rfl rfl kt kf
theorem B_Ta_lookAhead_8 {d : Nat} {h : PH} {Q : PQ} {r0 : Nat} {r1 : Nat} {v2 : Value} {v3 : Value} {v4 : Value} {v5 : Value}  (k : Q (some (.int (-1))) h) : wpx d P_Ta_lookAhead 8 [.ref r0, .ref r1, v2, v3, v4, v5] [] h Q := by
  refine st_ipush (pc' := 9) (v := (-1)) rfl rfl (by decide) ?_
  exact st_ireturn (ty := .int) rfl rfl rfl k
theorem B_Ta_lookAhead_10 {d : Nat} {h : PH} {Q : PQ} {r0 : Nat} {r1 : Nat} {v2 : Value} {v3 : Value} {v4 : Value} {v5 : Value} (hs0 : h_sh h r0 = some (0, 6)) (k : wpm d 80 [.ref r0, .ref r1] h (fun r h' => wpx d P_Ta_lookAhead 15 [.ref r0, .ref r1, v2, v3, v4, v5] (r.toList ++ []) h' Q)) : wpx d P_Ta_lookAhead 10 [.ref r0, .ref r1, v2, v3, v4, v5] [] h Q := by
  refine st_aload (pc' := 11) rfl rfl rfl ?_
  refine st_aload (pc' := 12) rfl rfl rfl ?_
  exact st_call (pc' := 15) (as := [.ref r0, .ref r1]) (rest := []) rfl rfl (Nat.le_of_ble_eq_true rfl) rfl rfl (Nat.le_of_ble_eq_true rfl) (kd := 1) (o := 6) rfl rfl (beq_iff_eq.mpr hs0) k
theorem B_Ta_lookAhead_15 {d : Nat} {h : PH} {Q : PQ} {r0 : Nat} {r1 : Nat} {v2 : Value} {v3 : Value} {v4 : Value} {v5 : Value}  (k : wpx d P_Ta_lookAhead 19 [.ref r0, .ref r1, .int 1, .int 0, v4, v5] [] h Q) : wpx d P_Ta_lookAhead 15 [.ref r0, .ref r1, v2, v3, v4, v5] [] h Q := by
  refine st_ipush (pc' := 16) (v := 1) rfl rfl (by decide) ?_
  refine st_istore (pc' := 17) (ls' := [.ref r0, .ref r1, .int 1, v3, v4, v5]) rfl rfl (Nat.le_of_ble_eq_true rfl) rfl ?_
  refine st_ipush (pc' := 18) (v := 0) rfl rfl (by decide) ?_
  refine st_istore (pc' := 19) (ls' := [.ref r0, .ref r1, .int 1, .int 0, v4, v5]) rfl rfl (Nat.le_of_ble_eq_true rfl) rfl ?_
  exact k
theorem B_Ta_lookAhead_19 {d : Nat} {h : PH} {Q : PQ} {r0 : Nat} {r1 : Nat} {x2 : Int32} {x3 : Int32} {v4 : Value} {v5 : Value} (hs0 : h_sh h r0 = some (0, 6)) (kt : ((h_i h r0 3) + (2 : Int32)) ≤ x3 → wpx d P_Ta_lookAhead 48 [.ref r0, .ref r1, .int x2, .int x3, v4, v5] [] h Q) (kf : ¬ (((h_i h r0 3) + (2 : Int32)) ≤ x3) → wpx d P_Ta_lookAhead 29 [.ref r0, .ref r1, .int x2, .int x3, v4, v5] [] h Q) : wpx d P_Ta_lookAhead 19 [.ref r0, .ref r1, .int x2, .int x3, v4, v5] [] h Q := by
  refine st_iload (pc' := 20) rfl rfl rfl ?_
  refine st_aload (pc' := 21) rfl rfl rfl ?_
  refine st_getfi (Or.inl rfl) rfl hs0 rfl (pc' := 24) rfl ?_
  refine st_ipush (pc' := 25) (v := 2) rfl rfl (by decide) ?_
  refine st_iadd (pc' := 26) rfl rfl ?_
  exact st_icmp_ge (pc' := 29) rfl rfl kt kf
theorem B_Ta_lookAhead_29 {d : Nat} {h : PH} {Q : PQ} {r0 : Nat} {r1 : Nat} {x2 : Int32} {x3 : Int32} {v4 : Value} {v5 : Value}  (kt : x2 = 0 → wpx d P_Ta_lookAhead 48 [.ref r0, .ref r1, .int x2, .int x3, v4, v5] [] h Q) (kf : ¬ (x2 = 0) → wpx d P_Ta_lookAhead 33 [.ref r0, .ref r1, .int x2, .int x3, v4, v5] [] h Q) : wpx d P_Ta_lookAhead 29 [.ref r0, .ref r1, .int x2, .int x3, v4, v5] [] h Q := by
  refine st_iload (pc' := 30) rfl rfl rfl ?_
  exact st_if_eq (pc' := 33) rfl rfl kt kf
theorem B_Ta_lookAhead_33 {d : Nat} {h : PH} {Q : PQ} {r0 : Nat} {r1 : Nat} {x2 : Int32} {x3 : Int32} {v4 : Value} {v5 : Value} (hs0 : h_sh h r1 = some (0, 3)) (hs1 : h_sh h r0 = some (0, 6)) (k : wpm d 81 [.ref r0, .int (h_i h r1 3)] h (fun r h' => wpx d P_Ta_lookAhead 41 [.ref r0, .ref r1, .int x2, .int x3, v4, v5] (r.toList ++ []) h' Q)) : wpx d P_Ta_lookAhead 33 [.ref r0, .ref r1, .int x2, .int x3, v4, v5] [] h Q := by
  refine st_aload (pc' := 34) rfl rfl rfl ?_
  refine st_aload (pc' := 35) rfl rfl rfl ?_
  refine st_getfi (Or.inr rfl) rfl hs0 rfl (pc' := 38) rfl ?_
  exact st_call (pc' := 41) (as := [.ref r0, .int (h_i h r1 3)]) (rest := []) rfl rfl (Nat.le_of_ble_eq_true rfl) rfl rfl (Nat.le_of_ble_eq_true rfl) (kd := 1) (o := 6) rfl rfl (beq_iff_eq.mpr hs1) k
theorem B_Ta_lookAhead_41 {d : Nat} {h : PH} {Q : PQ} {r0 : Nat} {r1 : Nat} {x2 : Int32} {x3 : Int32} {v4 : Value} {v5 : Value} {s0 : Int32}  (k : wpx d P_Ta_lookAhead 19 [.ref r0, .ref r1, .int s0, .int (x3 + 1), v4, v5] [] h Q) : wpx d P_Ta_lookAhead 41 [.ref r0, .ref r1, .int x2, .int x3, v4, v5] [.int s0] h Q := by
  refine st_istore (pc' := 42) (ls' := [.ref r0, .ref r1, .int s0, .int x3, v4, v5]) rfl rfl (Nat.le_of_ble_eq_true rfl) rfl ?_
  refine st_iinc (pc' := 45) (v := 1) (ls' := [.ref r0, .ref r1, .int s0, .int (x3 + 1), v4, v5]) rfl rfl rfl (by decide) rfl ?_
  exact st_goto rfl k
theorem B_Ta_lookAhead_48 {d : Nat} {h : PH} {Q : PQ} {r0 : Nat} {r1 : Nat} {x2 : Int32} {x3 : Int32} {v4 : Value} {v5 : Value}  (kt : x2 = 0 → wpx d P_Ta_lookAhead 54 [.ref r0, .ref r1, .int x2, .int x3, v4, v5] [] h Q) (kf : ¬ (x2 = 0) → wpx d P_Ta_lookAhead 52 [.ref r0, .ref r1, .int x2, .int x3, v4, v5] [] h Q) : wpx d P_Ta_lookAhead 48 [.ref r0, .ref r1, .int x2, .int x3, v4, v5] [] h Q := by
  refine st_iload (pc' := 49) rfl rfl rfl ?_
  exact st_if_eq (pc' := 52) rfl rfl kt kf
theorem B_Ta_lookAhead_52 {d : Nat} {h : PH} {Q : PQ} {r0 : Nat} {r1 : Nat} {x2 : Int32} {x3 : Int32} {v4 : Value} {v5 : Value}  (k : Q (some (.int (-1))) h) : wpx d P_Ta_lookAhead 52 [.ref r0, .ref r1, .int x2, .int x3, v4, v5] [] h Q := by
  refine st_ipush (pc' := 53) (v := (-1)) rfl rfl (by decide) ?_
  exact st_ireturn (ty := .int) rfl rfl rfl k
theorem B_Ta_lookAhead_54 {d : Nat} {h : PH} {Q : PQ} {r0 : Nat} {r1 : Nat} {x2 : Int32} {x3 : Int32} {v4 : Value} {v5 : Value}  (k : wpx d P_Ta_lookAhead 59 [.ref r0, .ref r1, .int x2, .int 0, .int 0, v5] [] h Q) : wpx d P_Ta_lookAhead 54 [.ref r0, .ref r1, .int x2, .int x3, v4, v5] [] h Q := by
  refine st_ipush (pc' := 55) (v := 0) rfl rfl (by decide) ?_
  refine st_istore (pc' := 56) (ls' := [.ref r0, .ref r1, .int x2, .int 0, v4, v5]) rfl rfl (Nat.le_of_ble_eq_true rfl) rfl ?_
  refine st_ipush (pc' := 57) (v := 0) rfl rfl (by decide) ?_
  refine st_istore (pc' := 59) (ls' := [.ref r0, .ref r1, .int x2, .int 0, .int 0, v5]) rfl rfl (Nat.le_of_ble_eq_true rfl) rfl ?_
  exact k
theorem B_Ta_lookAhead_59 {d : Nat} {h : PH} {Q : PQ} {r0 : Nat} {r1 : Nat} {x2 : Int32} {x3 : Int32} {x4 : Int32} {v5 : Value} (hs0 : h_sh h r1 = some (0, 3)) (kt : (h_i h r1 3) ≤ x4 → wpx d P_Ta_lookAhead 131 [.ref r0, .ref r1, .int x2, .int x3, .int x4, v5] [] h Q) (kf : ¬ ((h_i h r1 3) ≤ x4) → wpx d P_Ta_lookAhead 68 [.ref r0, .ref r1, .int x2, .int x3, .int x4, v5] [] h Q) : wpx d P_Ta_lookAhead 59 [.ref r0, .ref r1, .int x2, .int x3, .int x4, v5] [] h Q := by
  refine st_iload (pc' := 61) rfl rfl rfl ?_
  refine st_aload (pc' := 62) rfl rfl rfl ?_
  refine st_getfi (Or.inr rfl) rfl hs0 rfl (pc' := 65) rfl ?_
  exact st_icmp_ge (pc' := 68) rfl rfl kt kf
theorem B_Ta_lookAhead_68 {d : Nat} {h : PH} {Q : PQ} {r0 : Nat} {r1 : Nat} {x2 : Int32} {x3 : Int32} {x4 : Int32} {v5 : Value}  (k : wpx d P_Ta_lookAhead 71 [.ref r0, .ref r1, .int x2, .int x3, .int x4, .int 0] [] h Q) : wpx d P_Ta_lookAhead 68 [.ref r0, .ref r1, .int x2, .int x3, .int x4, v5] [] h Q := by
  refine st_ipush (pc' := 69) (v := 0) rfl rfl (by decide) ?_
  refine st_istore (pc' := 71) (ls' := [.ref r0, .ref r1, .int x2, .int x3, .int x4, .int 0]) rfl rfl (Nat.le_of_ble_eq_true rfl) rfl ?_
  exact k
theorem B_Ta_lookAhead_71 {d : Nat} {h : PH} {Q : PQ} {r0 : Nat} {r1 : Nat} {x2 : Int32} {x3 : Int32} {x4 : Int32} {x5 : Int32} (hs0 : h_sh h r1 = some (0, 3)) (kt : (h_i h r1 3) ≤ x5 → wpx d P_Ta_lookAhead 125 [.ref r0, .ref r1, .int x2, .int x3, .int x4, .int x5] [] h Q) (kf : ¬ ((h_i h r1 3) ≤ x5) → wpx d P_Ta_lookAhead 80 [.ref r0, .ref r1, .int x2, .int x3, .int x4, .int x5] [] h Q) : wpx d P_Ta_lookAhead 71 [.ref r0, .ref r1, .int x2, .int x3, .int x4, .int x5] [] h Q := by
  refine st_iload (pc' := 73) rfl rfl rfl ?_
  refine st_aload (pc' := 74) rfl rfl rfl ?_
  refine st_getfi (Or.inr rfl) rfl hs0 rfl (pc' := 77) rfl ?_
  exact st_icmp_ge (pc' := 80) rfl rfl kt kf
theorem B_Ta_lookAhead_80 {d : Nat} {h : PH} {Q : PQ} {r0 : Nat} {r1 : Nat} {x2 : Int32} {x3 : Int32} {x4 : Int32} {x5 : Int32}  (kt : x4 = x5 → wpx d P_Ta_lookAhead 119 [.ref r0, .ref r1, .int x2, .int x3, .int x4, .int x5] [] h Q) (kf : ¬ (x4 = x5) → wpx d P_Ta_lookAhead 87 [.ref r0, .ref r1, .int x2, .int x3, .int x4, .int x5] [] h Q) : wpx d P_Ta_lookAhead 80 [.ref r0, .ref r1, .int x2, .int x3, .int x4, .int x5] [] h Q := by
  refine st_iload (pc' := 82) rfl rfl rfl ?_
  refine st_iload (pc' := 84) rfl rfl rfl ?_
  exact st_icmp_eq (pc' := 87) rfl rfl kt kf
theorem B_Ta_lookAhead_87 {d : Nat} {h : PH} {Q : PQ} {r0 : Nat} {r1 : Nat} {x2 : Int32} {x3 : Int32} {x4 : Int32} {x5 : Int32} (hs0 : h_sh h r1 = some (0, 3)) (k : wpm d 35 [.ref r1, .int x4] h (fun r h' => wpx d P_Ta_lookAhead 93 [.ref r0, .ref r1, .int x2, .int x3, .int x4, .int x5] (r.toList ++ []) h' Q)) : wpx d P_Ta_lookAhead 87 [.ref r0, .ref r1, .int x2, .int x3, .int x4, .int x5] [] h Q := by
  refine st_aload (pc' := 88) rfl rfl rfl ?_
  refine st_iload (pc' := 90) rfl rfl rfl ?_
  exact st_call (pc' := 93) (as := [.ref r1, .int x4]) (rest := []) rfl rfl (Nat.le_of_ble_eq_true rfl) rfl rfl (Nat.le_of_ble_eq_true rfl) (kd := 1) (o := 3) rfl rfl (beq_iff_eq.mpr hs0) k
theorem B_Ta_lookAhead_93 {d : Nat} {h : PH} {Q : PQ} {r0 : Nat} {r1 : Nat} {x2 : Int32} {x3 : Int32} {x4 : Int32} {x5 : Int32} {s0 : Int32}  (kt : s0 = 0 → wpx d P_Ta_lookAhead 119 [.ref r0, .ref r1, .int x2, .int x3, .int x4, .int x5] [] h Q) (kf : ¬ (s0 = 0) → wpx d P_Ta_lookAhead 96 [.ref r0, .ref r1, .int x2, .int x3, .int x4, .int x5] [] h Q) : wpx d P_Ta_lookAhead 93 [.ref r0, .ref r1, .int x2, .int x3, .int x4, .int x5] [.int s0] h Q := by
  exact st_if_eq (pc' := 96) rfl rfl kt kf
theorem B_Ta_lookAhead_96 {d : Nat} {h : PH} {Q : PQ} {r0 : Nat} {r1 : Nat} {x2 : Int32} {x3 : Int32} {x4 : Int32} {x5 : Int32} (hs0 : h_sh h r1 = some (0, 3)) (k : wpm d 35 [.ref r1, .int x5] h (fun r h' => wpx d P_Ta_lookAhead 102 [.ref r0, .ref r1, .int x2, .int x3, .int x4, .int x5] (r.toList ++ []) h' Q)) : wpx d P_Ta_lookAhead 96 [.ref r0, .ref r1, .int x2, .int x3, .int x4, .int x5] [] h Q := by
  refine st_aload (pc' := 97) rfl rfl rfl ?_
  refine st_iload (pc' := 99) rfl rfl rfl ?_
  exact st_call (pc' := 102) (as := [.ref r1, .int x5]) (rest := []) rfl rfl (Nat.le_of_ble_eq_true rfl) rfl rfl (Nat.le_of_ble_eq_true rfl) (kd := 1) (o := 3) rfl rfl (beq_iff_eq.mpr hs0) k
theorem B_Ta_lookAhead_102 {d : Nat} {h : PH} {Q : PQ} {r0 : Nat} {r1 : Nat} {x2 : Int32} {x3 : Int32} {x4 : Int32} {x5 : Int32} {s0 : Int32}  (kt : s0 = 0 → wpx d P_Ta_lookAhead 119 [.ref r0, .ref r1, .int x2, .int x3, .int x4, .int x5] [] h Q) (kf : ¬ (s0 = 0) → wpx d P_Ta_lookAhead 105 [.ref r0, .ref r1, .int x2, .int x3, .int x4, .int x5] [] h Q) : wpx d P_Ta_lookAhead 102 [.ref r0, .ref r1, .int x2, .int x3, .int x4, .int x5] [.int s0] h Q := by
  exact st_if_eq (pc' := 105) rfl rfl kt kf
theorem B_Ta_lookAhead_105 {d : Nat} {h : PH} {Q : PQ} {r0 : Nat} {r1 : Nat} {x2 : Int32} {x3 : Int32} {x4 : Int32} {x5 : Int32} (hs0 : h_sh h r0 = some (0, 6)) (k : wpm d 79 [.ref r0, .ref r1, .int x4, .int x5] h (fun r h' => wpx d P_Ta_lookAhead 115 [.ref r0, .ref r1, .int x2, .int x3, .int x4, .int x5] (r.toList ++ [.int x3]) h' Q)) : wpx d P_Ta_lookAhead 105 [.ref r0, .ref r1, .int x2, .int x3, .int x4, .int x5] [] h Q := by
  refine st_iload (pc' := 106) rfl rfl rfl ?_
  refine st_aload (pc' := 107) rfl rfl rfl ?_
  refine st_aload (pc' := 108) rfl rfl rfl ?_
  refine st_iload (pc' := 110) rfl rfl rfl ?_
  refine st_iload (pc' := 112) rfl rfl rfl ?_
  exact st_call (pc' := 115) (as := [.ref r0, .ref r1, .int x4, .int x5]) (rest := [.int x3]) rfl rfl (Nat.le_of_ble_eq_true rfl) rfl rfl (Nat.le_of_ble_eq_true rfl) (kd := 1) (o := 6) rfl rfl (beq_iff_eq.mpr hs0) k
theorem B_Ta_lookAhead_115 {d : Nat} {h : PH} {Q : PQ} {r0 : Nat} {r1 : Nat} {x2 : Int32} {x3 : Int32} {x4 : Int32} {x5 : Int32} {s0 : Int32} {s1 : Int32}  (k : wpx d P_Ta_lookAhead 119 [.ref r0, .ref r1, .int x2, .int (if s0 < s1 then s1 else s0), .int x4, .int x5] [] h Q) : wpx d P_Ta_lookAhead 115 [.ref r0, .ref r1, .int x2, .int x3, .int x4, .int x5] [.int s1, .int s0] h Q := by
  refine st_mmax (pc' := 118) rfl rfl (Nat.le_of_ble_eq_true rfl) ?_
  refine st_istore (pc' := 119) (ls' := [.ref r0, .ref r1, .int x2, .int (if s0 < s1 then s1 else s0), .int x4, .int x5]) rfl rfl (Nat.le_of_ble_eq_true rfl) rfl ?_
  exact k
theorem B_Ta_lookAhead_119 {d : Nat} {h : PH} {Q : PQ} {r0 : Nat} {r1 : Nat} {x2 : Int32} {x3 : Int32} {x4 : Int32} {x5 : Int32}  (k : wpx d P_Ta_lookAhead 71 [.ref r0, .ref r1, .int x2, .int x3, .int x4, .int (x5 + 1)] [] h Q) : wpx d P_Ta_lookAhead 119 [.ref r0, .ref r1, .int x2, .int x3, .int x4, .int x5] [] h Q := by
  refine st_iinc (pc' := 122) (v := 1) (ls' := [.ref r0, .ref r1, .int x2, .int x3, .int x4, .int (x5 + 1)]) rfl rfl rfl (by decide) rfl ?_
  exact st_goto rfl k
theorem B_Ta_lookAhead_125 {d : Nat} {h : PH} {Q : PQ} {r0 : Nat} {r1 : Nat} {x2 : Int32} {x3 : Int32} {x4 : Int32} {x5 : Int32}  (k : wpx d P_Ta_lookAhead 59 [.ref r0, .ref r1, .int x2, .int x3, .int (x4 + 1), .int x5] [] h Q) : wpx d P_Ta_lookAhead 125 [.ref r0, .ref r1, .int x2, .int x3, .int x4, .int x5] [] h Q := by
  refine st_iinc (pc' := 128) (v := 1) (ls' := [.ref r0, .ref r1, .int x2, .int x3, .int (x4 + 1), .int x5]) rfl rfl rfl (by decide) rfl ?_
  exact st_goto rfl k
theorem B_Ta_lookAhead_131 {d : Nat} {h : PH} {Q : PQ} {r0 : Nat} {r1 : Nat} {x2 : Int32} {x3 : Int32} {x4 : Int32} {v5 : Value}  (k : Q (some (.int x3)) h) : wpx d P_Ta_lookAhead 131 [.ref r0, .ref r1, .int x2, .int x3, .int x4, v5] [] h Q := by
  refine st_iload (pc' := 132) rfl rfl rfl ?_
  exact st_ireturn (ty := .int) rfl rfl rfl k
theorem B_Ta_inCommon_0 {d : Nat} {h : PH} {Q : PQ} {r0 : Nat} {r1 : Nat} {x2 : Int32} {x3 : Int32} {v4 : Value} {v5 : Value} {a0 : Nat} {n1 : Nat} {a2 : Nat} {n3 : Nat} (hs0 : h_sh h r1 = some (0, 3)) (hr1 : h_r h r1 0 = some a0) (hs2 : h_sh h a0 = some (4, n1)) (hb3 : vp_in x2 n1) (hr4 : h_r h r1 1 = some a2) (hs5 : h_sh h a2 = some (1, n3)) (hb6 : vp_in x2 n3) (hb7 : vp_in x3 n1) (hb8 : vp_in x3 n3) (k : wpm d 168 [.long (h_l h a0 x2.toNatClampNeg), .int (h_i h a2 x2.toNatClampNeg), .long (h_l h a0 x3.toNatClampNeg), .int (h_i h a2 x3.toNatClampNeg)] h (fun r h' => wpx d P_Ta_inCommon 27 [.ref r0, .ref r1, .int x2, .int x3, v4, v5] (r.toList ++ []) h' Q)) : wpx d P_Ta_inCommon 0 [.ref r0, .ref r1, .int x2, .int x3, v4, v5] [] h Q := by
  refine st_aload (pc' := 1) rfl rfl rfl ?_
  refine st_getfr (x := some a0) (Or.inr rfl) rfl hs0 rfl hr1 (pc' := 4) rfl ?_
  refine st_iload (pc' := 5) rfl rfl rfl ?_
  refine st_laload rfl hs2 hb3 (j := x2.toNatClampNeg) rfl (pc' := 6) rfl ?_
  refine st_aload (pc' := 7) rfl rfl rfl ?_
  refine st_getfr (x := some a2) (Or.inr rfl) rfl hs0 rfl hr4 (pc' := 10) rfl ?_
  refine st_iload (pc' := 11) rfl rfl rfl ?_
  refine st_iaload rfl hs5 hb6 (j := x2.toNatClampNeg) rfl (pc' := 12) rfl ?_
  refine st_aload (pc' := 13) rfl rfl rfl ?_
  refine st_getfr (x := some a0) (Or.inr rfl) rfl hs0 rfl hr1 (pc' := 16) rfl ?_
  refine st_iload (pc' := 17) rfl rfl rfl ?_
  refine st_laload rfl hs2 hb7 (j := x3.toNatClampNeg) rfl (pc' := 18) rfl ?_
  refine st_aload (pc' := 19) rfl rfl rfl ?_
  refine st_getfr (x := some a2) (Or.inr rfl) rfl hs0 rfl hr4 (pc' := 22) rfl ?_
  refine st_iload (pc' := 23) rfl rfl rfl ?_
  refine st_iaload rfl hs5 hb8 (j := x3.toNatClampNeg) rfl (pc' := 24) rfl ?_
  exact st_call (pc' := 27) (as := [.long (h_l h a0 x2.toNatClampNeg), .int (h_i h a2 x2.toNatClampNeg), .long (h_l h a0 x3.toNatClampNeg), .int (h_i h a2 x3.toNatClampNeg)]) (rest := []) rfl rfl (Nat.le_of_ble_eq_true rfl) rfl rfl (Nat.le_of_ble_eq_true rfl) (kd := 0) (o := 11) rfl rfl rfl k
theorem B_Ta_inCommon_27 {d : Nat} {h : PH} {Q : PQ} {r0 : Nat} {r1 : Nat} {x2 : Int32} {x3 : Int32} {v4 : Value} {v5 : Value} {s0 : Int32} {a0 : Nat} {n1 : Nat} (hs0 : h_sh h r1 = some (0, 3)) (hr1 : h_r h r1 1 = some a0) (hs2 : h_sh h a0 = some (1, n1)) (hb3 : vp_in x2 n1) (kt : (h_i h a0 x2.toNatClampNeg) ≤ s0 → wpx d P_Ta_inCommon 43 [.ref r0, .ref r1, .int x2, .int x3, .int s0, v5] [] h Q) (kf : ¬ ((h_i h a0 x2.toNatClampNeg) ≤ s0) → wpx d P_Ta_inCommon 40 [.ref r0, .ref r1, .int x2, .int x3, .int s0, v5] [] h Q) : wpx d P_Ta_inCommon 27 [.ref r0, .ref r1, .int x2, .int x3, v4, v5] [.int s0] h Q := by
  refine st_istore (pc' := 29) (ls' := [.ref r0, .ref r1, .int x2, .int x3, .int s0, v5]) rfl rfl (Nat.le_of_ble_eq_true rfl) rfl ?_
  refine st_iload (pc' := 31) rfl rfl rfl ?_
  refine st_aload (pc' := 32) rfl rfl rfl ?_
  refine st_getfr (x := some a0) (Or.inr rfl) rfl hs0 rfl hr1 (pc' := 35) rfl ?_
  refine st_iload (pc' := 36) rfl rfl rfl ?_
  refine st_iaload rfl hs2 hb3 (j := x2.toNatClampNeg) rfl (pc' := 37) rfl ?_
  exact st_icmp_ge (pc' := 40) rfl rfl kt kf
theorem B_Ta_inCommon_40 {d : Nat} {h : PH} {Q : PQ} {r0 : Nat} {r1 : Nat} {x2 : Int32} {x3 : Int32} {x4 : Int32} {v5 : Value}  (k : Q (some (.int x4)) h) : wpx d P_Ta_inCommon 40 [.ref r0, .ref r1, .int x2, .int x3, .int x4, v5] [] h Q := by
  refine st_iload (pc' := 42) rfl rfl rfl ?_
  exact st_ireturn (ty := .int) rfl rfl rfl k
theorem B_Ta_inCommon_43 {d : Nat} {h : PH} {Q : PQ} {r0 : Nat} {r1 : Nat} {x2 : Int32} {x3 : Int32} {x4 : Int32} {v5 : Value} {a0 : Nat} {n1 : Nat} {a2 : Nat} {n3 : Nat} (hs0 : h_sh h r1 = some (0, 3)) (hr1 : h_r h r1 0 = some a0) (hs2 : h_sh h a0 = some (4, n1)) (hb3 : vp_in x3 n1) (hr4 : h_r h r1 1 = some a2) (hs5 : h_sh h a2 = some (1, n3)) (hb6 : vp_in x3 n3) (k : wpm d 164 [.long (h_l h a0 x3.toNatClampNeg), .int ((h_i h a2 x3.toNatClampNeg) - x4)] h (fun r h' => wpx d P_Ta_inCommon 62 [.ref r0, .ref r1, .int x2, .int x3, .int x4, v5] (r.toList ++ [.ref r0]) h' Q)) : wpx d P_Ta_inCommon 43 [.ref r0, .ref r1, .int x2, .int x3, .int x4, v5] [] h Q := by
  refine st_aload (pc' := 44) rfl rfl rfl ?_
  refine st_aload (pc' := 45) rfl rfl rfl ?_
  refine st_getfr (x := some a0) (Or.inr rfl) rfl hs0 rfl hr1 (pc' := 48) rfl ?_
  refine st_iload (pc' := 49) rfl rfl rfl ?_
  refine st_laload rfl hs2 hb3 (j := x3.toNatClampNeg) rfl (pc' := 50) rfl ?_
  refine st_aload (pc' := 51) rfl rfl rfl ?_
  refine st_getfr (x := some a2) (Or.inr rfl) rfl hs0 rfl hr4 (pc' := 54) rfl ?_
  refine st_iload (pc' := 55) rfl rfl rfl ?_
  refine st_iaload rfl hs5 hb6 (j := x3.toNatClampNeg) rfl (pc' := 56) rfl ?_
  refine st_iload (pc' := 58) rfl rfl rfl ?_
  refine st_isub (pc' := 59) rfl rfl ?_
  exact st_call (pc' := 62) (as := [.long (h_l h a0 x3.toNatClampNeg), .int ((h_i h a2 x3.toNatClampNeg) - x4)]) (rest := [.ref r0]) rfl rfl (Nat.le_of_ble_eq_true rfl) rfl rfl (Nat.le_of_ble_eq_true rfl) (kd := 0) (o := 11) rfl rfl rfl k
theorem B_Ta_inCommon_62 {d : Nat} {h : PH} {Q : PQ} {r0 : Nat} {r1 : Nat} {x2 : Int32} {x3 : Int32} {x4 : Int32} {v5 : Value} {q0 : Nat} {t1 : Int64} (hs0 : h_sh h q0 = some (0, 6)) (k : wpm d 73 [.ref q0, .long t1] h (fun r h' => wpx d P_Ta_inCommon 65 [.ref r0, .ref r1, .int x2, .int x3, .int x4, v5] (r.toList ++ []) h' Q)) : wpx d P_Ta_inCommon 62 [.ref r0, .ref r1, .int x2, .int x3, .int x4, v5] [.long t1, .ref q0] h Q := by
  exact st_call (pc' := 65) (as := [.ref q0, .long t1]) (rest := []) rfl rfl (Nat.le_of_ble_eq_true rfl) rfl rfl (Nat.le_of_ble_eq_true rfl) (kd := 1) (o := 6) rfl rfl (beq_iff_eq.mpr hs0) k
theorem B_Ta_inCommon_65 {d : Nat} {h : PH} {Q : PQ} {r0 : Nat} {r1 : Nat} {x2 : Int32} {x3 : Int32} {x4 : Int32} {v5 : Value} {s0 : Int32}  (kt : ¬ (s0 = ((-1) : Int32)) → wpx d P_Ta_inCommon 78 [.ref r0, .ref r1, .int x2, .int x3, .int x4, .int s0] [] h Q) (kf : s0 = ((-1) : Int32) → wpx d P_Ta_inCommon 73 [.ref r0, .ref r1, .int x2, .int x3, .int x4, .int s0] [] h Q) : wpx d P_Ta_inCommon 65 [.ref r0, .ref r1, .int x2, .int x3, .int x4, v5] [.int s0] h Q := by
  refine st_istore (pc' := 67) (ls' := [.ref r0, .ref r1, .int x2, .int x3, .int x4, .int s0]) rfl rfl (Nat.le_of_ble_eq_true rfl) rfl ?_
  refine st_iload (pc' := 69) rfl rfl rfl ?_
  refine st_ipush (pc' := 70) (v := (-1)) rfl rfl (by decide) ?_
  exact st_icmp_ne (pc' := 73) rfl rfl kt kf
theorem B_Ta_inCommon_73 {d : Nat} {h : PH} {Q : PQ} {r0 : Nat} {r1 : Nat} {x2 : Int32} {x3 : Int32} {x4 : Int32} {x5 : Int32}  (k : wpx d P_Ta_inCommon 88 [.ref r0, .ref r1, .int x2, .int x3, .int x4, .int x5] [.int x4] h Q) : wpx d P_Ta_inCommon 73 [.ref r0, .ref r1, .int x2, .int x3, .int x4, .int x5] [] h Q := by
  refine st_iload (pc' := 75) rfl rfl rfl ?_
  exact st_goto rfl k
theorem B_Ta_inCommon_78 {d : Nat} {h : PH} {Q : PQ} {r0 : Nat} {r1 : Nat} {x2 : Int32} {x3 : Int32} {x4 : Int32} {x5 : Int32} {a0 : Nat} {n1 : Nat} (hs0 : h_sh h r0 = some (0, 6)) (hr1 : h_r h r0 9 = some a0) (hs2 : h_sh h a0 = some (1, n1)) (hb3 : vp_in x5 n1) (k : wpx d P_Ta_inCommon 88 [.ref r0, .ref r1, .int x2, .int x3, .int x4, .int x5] [.int (x4 + (h_i h a0 x5.toNatClampNeg))] h Q) : wpx d P_Ta_inCommon 78 [.ref r0, .ref r1, .int x2, .int x3, .int x4, .int x5] [] h Q := by
  refine st_iload (pc' := 80) rfl rfl rfl ?_
  refine st_aload (pc' := 81) rfl rfl rfl ?_
  refine st_getfr (x := some a0) (Or.inl rfl) rfl hs0 rfl hr1 (pc' := 84) rfl ?_
  refine st_iload (pc' := 86) rfl rfl rfl ?_
  refine st_iaload rfl hs2 hb3 (j := x5.toNatClampNeg) rfl (pc' := 87) rfl ?_
  refine st_iadd (pc' := 88) rfl rfl ?_
  exact k
theorem B_Ta_inCommon_88 {d : Nat} {h : PH} {Q : PQ} {r0 : Nat} {r1 : Nat} {x2 : Int32} {x3 : Int32} {x4 : Int32} {x5 : Int32} {s0 : Int32}  (k : Q (some (.int s0)) h) : wpx d P_Ta_inCommon 88 [.ref r0, .ref r1, .int x2, .int x3, .int x4, .int x5] [.int s0] h Q := by
  exact st_ireturn (ty := .int) rfl rfl rfl k
theorem B_Ta_prepareSteps_0 {d : Nat} {h : PH} {Q : PQ} {r0 : Nat} {r1 : Nat} {v2 : Value} {v3 : Value} {v4 : Value} {v5 : Value}  (k : wpx d P_Ta_prepareSteps 2 [.ref r0, .ref r1, .int 0, v3, v4, v5] [] h Q) : wpx d P_Ta_prepareSteps 0 [.ref r0, .ref r1, v2, v3, v4, v5] [] h Q := by
  refine st_ipush (pc' := 1) (v := 0) rfl rfl (by decide) ?_
  refine st_istore (pc' := 2) (ls' := [.ref r0, .ref r1, .int 0, v3, v4, v5]) rfl rfl (Nat.le_of_ble_eq_true rfl) rfl ?_
  exact k
theorem B_Ta_prepareSteps_2 {d : Nat} {h : PH} {Q : PQ} {r0 : Nat} {r1 : Nat} {x2 : Int32} {v3 : Value} {v4 : Value} {v5 : Value} (hs0 : h_sh h r0 = some (0, 6)) (kt : (h_i h r0 3) ≤ x2 → wpx d P_Ta_prepareSteps 192 [.ref r0, .ref r1, .int x2, v3, v4, v5] [] h Q) (kf : ¬ ((h_i h r0 3) ≤ x2) → wpx d P_Ta_prepareSteps 10 [.ref r0, .ref r1, .int x2, v3, v4, v5] [] h Q) : wpx d P_Ta_prepareSteps 2 [.ref r0, .ref r1, .int x2, v3, v4, v5] [] h Q := by
  refine st_iload (pc' := 3) rfl rfl rfl ?_
  refine st_aload (pc' := 4) rfl rfl rfl ?_
  refine st_getfi (Or.inl rfl) rfl hs0 rfl (pc' := 7) rfl ?_
  exact st_icmp_ge (pc' := 10) rfl rfl kt kf
theorem B_Ta_prepareSteps_10 {d : Nat} {h : PH} {Q : PQ} {r0 : Nat} {r1 : Nat} {x2 : Int32} {v3 : Value} {v4 : Value} {v5 : Value} {a0 : Nat} {n1 : Nat} (hs0 : h_sh h r0 = some (0, 6)) (hr1 : h_r h r0 9 = some a0) (hs2 : h_sh h a0 = some (1, n1)) (hb3 : vp_in x2 n1) (k : wpx d P_Ta_prepareSteps 19 [.ref r0, .ref r1, .int x2, .int 0, v4, v5] [] (w_i h a0 x2.toNatClampNeg 0) Q) : wpx d P_Ta_prepareSteps 10 [.ref r0, .ref r1, .int x2, v3, v4, v5] [] h Q := by
  refine st_aload (pc' := 11) rfl rfl rfl ?_
  refine st_getfr (x := some a0) (Or.inl rfl) rfl hs0 rfl hr1 (pc' := 14) rfl ?_
  refine st_iload (pc' := 15) rfl rfl rfl ?_
  refine st_ipush (pc' := 16) (v := 0) rfl rfl (by decide) ?_
  refine st_iastore rfl hs2 hb3 (j := x2.toNatClampNeg) rfl (pc' := 17) rfl ?_
  refine st_ipush (pc' := 18) (v := 0) rfl rfl (by decide) ?_
  refine st_istore (pc' := 19) (ls' := [.ref r0, .ref r1, .int x2, .int 0, v4, v5]) rfl rfl (Nat.le_of_ble_eq_true rfl) rfl ?_
  exact k
theorem B_Ta_prepareSteps_19 {d : Nat} {h : PH} {Q : PQ} {r0 : Nat} {r1 : Nat} {x2 : Int32} {x3 : Int32} {v4 : Value} {v5 : Value} (hs0 : h_sh h r1 = some (0, 3)) (kt : (h_i h r1 3) ≤ x3 → wpx d P_Ta_prepareSteps 186 [.ref r0, .ref r1, .int x2, .int x3, v4, v5] [] h Q) (kf : ¬ ((h_i h r1 3) ≤ x3) → wpx d P_Ta_prepareSteps 27 [.ref r0, .ref r1, .int x2, .int x3, v4, v5] [] h Q) : wpx d P_Ta_prepareSteps 19 [.ref r0, .ref r1, .int x2, .int x3, v4, v5] [] h Q := by
  refine st_iload (pc' := 20) rfl rfl rfl ?_
  refine st_aload (pc' := 21) rfl rfl rfl ?_
  refine st_getfi (Or.inr rfl) rfl hs0 rfl (pc' := 24) rfl ?_
  exact st_icmp_ge (pc' := 27) rfl rfl kt kf
theorem B_Ta_prepareSteps_27 {d : Nat} {h : PH} {Q : PQ} {r0 : Nat} {r1 : Nat} {x2 : Int32} {x3 : Int32} {v4 : Value} {v5 : Value} {a0 : Nat} {n1 : Nat} {a2 : Nat} {n3 : Nat} (hs0 : h_sh h r0 = some (0, 6)) (hr1 : h_r h r0 10 = some a0) (hs2 : h_sh h a0 = some (1, n1)) (hb3 : vp_in ((x2 * (14 : Int32)) + x3) n1) (hr4 : h_r h r0 11 = some a2) (hs5 : h_sh h a2 = some (1, n3)) (hb6 : vp_in ((x2 * (14 : Int32)) + x3) n3) (hs7 : h_sh h r1 = some (0, 3)) (k : wpm d 35 [.ref r1, .int x3] (w_i (w_i h a0 (((x2 * (14 : Int32)) + x3).toNatClampNeg) 0) a2 (((x2 * (14 : Int32)) + x3).toNatClampNeg) (-1)) (fun r h' => wpx d P_Ta_prepareSteps 56 [.ref r0, .ref r1, .int x2, .int x3, .int ((x2 * (14 : Int32)) + x3), v5] (r.toList ++ []) h' Q)) : wpx d P_Ta_prepareSteps 27 [.ref r0, .ref r1, .int x2, .int x3, v4, v5] [] h Q := by
  refine st_iload (pc' := 28) rfl rfl rfl ?_
  refine st_ipush (pc' := 30) (v := 14) rfl rfl (by decide) ?_
  refine st_imul (pc' := 31) rfl rfl ?_
  refine st_iload (pc' := 32) rfl rfl rfl ?_
  refine st_iadd (pc' := 33) rfl rfl ?_
  refine st_istore (pc' := 35) (ls' := [.ref r0, .ref r1, .int x2, .int x3, .int ((x2 * (14 : Int32)) + x3), v5]) rfl rfl (Nat.le_of_ble_eq_true rfl) rfl ?_
  refine st_aload (pc' := 36) rfl rfl rfl ?_
  refine st_getfr (x := some a0) (Or.inl rfl) rfl hs0 rfl hr1 (pc' := 39) rfl ?_
  refine st_iload (pc' := 41) rfl rfl rfl ?_
  refine st_ipush (pc' := 42) (v := 0) rfl rfl (by decide) ?_
  refine st_iastore rfl hs2 hb3 (j := ((x2 * (14 : Int32)) + x3).toNatClampNeg) rfl (pc' := 43) rfl ?_
  refine st_aload (pc' := 44) rfl rfl rfl ?_
  refine st_getfr (x := some a2) (Or.inl rfl) rfl hs0 rfl hr4 (pc' := 47) rfl ?_
  refine st_iload (pc' := 49) rfl rfl rfl ?_
  refine st_ipush (pc' := 50) (v := (-1)) rfl rfl (by decide) ?_
  refine st_iastore rfl hs5 hb6 (j := ((x2 * (14 : Int32)) + x3).toNatClampNeg) rfl (pc' := 51) rfl ?_
  refine st_aload (pc' := 52) rfl rfl rfl ?_
  refine st_iload (pc' := 53) rfl rfl rfl ?_
  exact st_call (pc' := 56) (as := [.ref r1, .int x3]) (rest := []) rfl rfl (Nat.le_of_ble_eq_true rfl) rfl rfl (Nat.le_of_ble_eq_true rfl) (kd := 1) (o := 3) rfl rfl (beq_iff_eq.mpr hs7) k
theorem B_Ta_prepareSteps_56 {d : Nat} {h : PH} {Q : PQ} {r0 : Nat} {r1 : Nat} {x2 : Int32} {x3 : Int32} {x4 : Int32} {v5 : Value} {s0 : Int32}  (kt : s0 = 0 → wpx d P_Ta_prepareSteps 180 [.ref r0, .ref r1, .int x2, .int x3, .int x4, v5] [] h Q) (kf : ¬ (s0 = 0) → wpx d P_Ta_prepareSteps 59 [.ref r0, .ref r1, .int x2, .int x3, .int x4, v5] [] h Q) : wpx d P_Ta_prepareSteps 56 [.ref r0, .ref r1, .int x2, .int x3, .int x4, v5] [.int s0] h Q := by
  exact st_if_eq (pc' := 59) rfl rfl kt kf
theorem B_Ta_prepareSteps_59 {d : Nat} {h : PH} {Q : PQ} {r0 : Nat} {r1 : Nat} {x2 : Int32} {x3 : Int32} {x4 : Int32} {v5 : Value} {a0 : Nat} {n1 : Nat} {a2 : Nat} {n3 : Nat} {a4 : Nat} {n5 : Nat} {a6 : Nat} {n7 : Nat} (hs0 : h_sh h r0 = some (0, 6)) (hr1 : h_r h r0 0 = some a0) (hs2 : h_sh h a0 = some (4, n1)) (hb3 : vp_in x2 n1) (hr4 : h_r h r0 1 = some a2) (hs5 : h_sh h a2 = some (1, n3)) (hb6 : vp_in x2 n3) (hs7 : h_sh h r1 = some (0, 3)) (hr8 : h_r h r1 0 = some a4) (hs9 : h_sh h a4 = some (4, n5)) (hb10 : vp_in x3 n5) (hr11 : h_r h r1 1 = some a6) (hs12 : h_sh h a6 = some (1, n7)) (hb13 : vp_in x3 n7) (k : wpm d 168 [.long (h_l h a0 x2.toNatClampNeg), .int (h_i h a2 x2.toNatClampNeg), .long (h_l h a4 x3.toNatClampNeg), .int (h_i h a6 x3.toNatClampNeg)] h (fun r h' => wpx d P_Ta_prepareSteps 86 [.ref r0, .ref r1, .int x2, .int x3, .int x4, v5] (r.toList ++ []) h' Q)) : wpx d P_Ta_prepareSteps 59 [.ref r0, .ref r1, .int x2, .int x3, .int x4, v5] [] h Q := by
  refine st_aload (pc' := 60) rfl rfl rfl ?_
  refine st_getfr (x := some a0) (Or.inl rfl) rfl hs0 rfl hr1 (pc' := 63) rfl ?_
  refine st_iload (pc' := 64) rfl rfl rfl ?_
  refine st_laload rfl hs2 hb3 (j := x2.toNatClampNeg) rfl (pc' := 65) rfl ?_
  refine st_aload (pc' := 66) rfl rfl rfl ?_
  refine st_getfr (x := some a2) (Or.inl rfl) rfl hs0 rfl hr4 (pc' := 69) rfl ?_
  refine st_iload (pc' := 70) rfl rfl rfl ?_
  refine st_iaload rfl hs5 hb6 (j := x2.toNatClampNeg) rfl (pc' := 71) rfl ?_
  refine st_aload (pc' := 72) rfl rfl rfl ?_
  refine st_getfr (x := some a4) (Or.inr rfl) rfl hs7 rfl hr8 (pc' := 75) rfl ?_
  refine st_iload (pc' := 76) rfl rfl rfl ?_
  refine st_laload rfl hs9 hb10 (j := x3.toNatClampNeg) rfl (pc' := 77) rfl ?_
  refine st_aload (pc' := 78) rfl rfl rfl ?_
  refine st_getfr (x := some a6) (Or.inr rfl) rfl hs7 rfl hr11 (pc' := 81) rfl ?_
  refine st_iload (pc' := 82) rfl rfl rfl ?_
  refine st_iaload rfl hs12 hb13 (j := x3.toNatClampNeg) rfl (pc' := 83) rfl ?_
  exact st_call (pc' := 86) (as := [.long (h_l h a0 x2.toNatClampNeg), .int (h_i h a2 x2.toNatClampNeg), .long (h_l h a4 x3.toNatClampNeg), .int (h_i h a6 x3.toNatClampNeg)]) (rest := []) rfl rfl (Nat.le_of_ble_eq_true rfl) rfl rfl (Nat.le_of_ble_eq_true rfl) (kd := 0) (o := 11) rfl rfl rfl k
theorem B_Ta_prepareSteps_86 {d : Nat} {h : PH} {Q : PQ} {r0 : Nat} {r1 : Nat} {x2 : Int32} {x3 : Int32} {x4 : Int32} {v5 : Value} {s0 : Int32} {a0 : Nat} {n1 : Nat} {a2 : Nat} {n3 : Nat} (hs0 : h_sh h r0 = some (0, 6)) (hr1 : h_r h r0 10 = some a0) (hs2 : h_sh h a0 = some (1, n1)) (hb3 : vp_in x4 n1) (hr4 : h_r h r0 1 = some a2) (hs5 : h_sh h a2 = some (1, n3)) (hb6 : vp_in x2 n3) (kt : ¬ (s0 = (h_i (w_i h a0 x4.toNatClampNeg s0) a2 x2.toNatClampNeg)) → wpx d P_Ta_prepareSteps 140 [.ref r0, .ref r1, .int x2, .int x3, .int x4, .int s0] [] (w_i h a0 x4.toNatClampNeg s0) Q) (kf : s0 = (h_i (w_i h a0 x4.toNatClampNeg s0) a2 x2.toNatClampNeg) → wpx d P_Ta_prepareSteps 108 [.ref r0, .ref r1, .int x2, .int x3, .int x4, .int s0] [] (w_i h a0 x4.toNatClampNeg s0) Q) : wpx d P_Ta_prepareSteps 86 [.ref r0, .ref r1, .int x2, .int x3, .int x4, v5] [.int s0] h Q := by
  refine st_istore (pc' := 88) (ls' := [.ref r0, .ref r1, .int x2, .int x3, .int x4, .int s0]) rfl rfl (Nat.le_of_ble_eq_true rfl) rfl ?_
  refine st_aload (pc' := 89) rfl rfl rfl ?_
  refine st_getfr (x := some a0) (Or.inl rfl) rfl hs0 rfl hr1 (pc' := 92) rfl ?_
  refine st_iload (pc' := 94) rfl rfl rfl ?_
  refine st_iload (pc' := 96) rfl rfl rfl ?_
  refine st_iastore rfl hs2 hb3 (j := x4.toNatClampNeg) rfl (pc' := 97) rfl ?_
  refine st_iload (pc' := 99) rfl rfl rfl ?_
  refine st_aload (pc' := 100) rfl rfl rfl ?_
  refine st_getfr (x := some a2) (Or.inl rfl) rfl hs0 rfl hr4 (pc' := 103) rfl ?_
  refine st_iload (pc' := 104) rfl rfl rfl ?_
  refine st_iaload rfl hs5 hb6 (j := x2.toNatClampNeg) rfl (pc' := 105) rfl ?_
  exact st_icmp_ne (pc' := 108) rfl rfl kt kf
theorem B_Ta_prepareSteps_108 {d : Nat} {h : PH} {Q : PQ} {r0 : Nat} {r1 : Nat} {x2 : Int32} {x3 : Int32} {x4 : Int32} {x5 : Int32} {a0 : Nat} {a1 : Nat} {n2 : Nat} {a3 : Nat} {n4 : Nat} (hs0 : h_sh h r0 = some (0, 6)) (hr1 : h_r h r0 11 = some a0) (hs2 : h_sh h r1 = some (0, 3)) (hr3 : h_r h r1 0 = some a1) (hs4 : h_sh h a1 = some (4, n2)) (hb5 : vp_in x3 n2) (hr6 : h_r h r1 1 = some a3) (hs7 : h_sh h a3 = some (1, n4)) (hb8 : vp_in x3 n4) (k : wpm d 164 [.long (h_l h a1 x3.toNatClampNeg), .int ((h_i h a3 x3.toNatClampNeg) - x5)] h (fun r h' => wpx d P_Ta_prepareSteps 133 [.ref r0, .ref r1, .int x2, .int x3, .int x4, .int x5] (r.toList ++ [.ref r0, .int x4, .ref a0]) h' Q)) : wpx d P_Ta_prepareSteps 108 [.ref r0, .ref r1, .int x2, .int x3, .int x4, .int x5] [] h Q := by
  refine st_aload (pc' := 109) rfl rfl rfl ?_
  refine st_getfr (x := some a0) (Or.inl rfl) rfl hs0 rfl hr1 (pc' := 112) rfl ?_
  refine st_iload (pc' := 114) rfl rfl rfl ?_
  refine st_aload (pc' := 115) rfl rfl rfl ?_
  refine st_aload (pc' := 116) rfl rfl rfl ?_
  refine st_getfr (x := some a1) (Or.inr rfl) rfl hs2 rfl hr3 (pc' := 119) rfl ?_
  refine st_iload (pc' := 120) rfl rfl rfl ?_
  refine st_laload rfl hs4 hb5 (j := x3.toNatClampNeg) rfl (pc' := 121) rfl ?_
  refine st_aload (pc' := 122) rfl rfl rfl ?_
  refine st_getfr (x := some a3) (Or.inr rfl) rfl hs2 rfl hr6 (pc' := 125) rfl ?_
  refine st_iload (pc' := 126) rfl rfl rfl ?_
  refine st_iaload rfl hs7 hb8 (j := x3.toNatClampNeg) rfl (pc' := 127) rfl ?_
  refine st_iload (pc' := 129) rfl rfl rfl ?_
  refine st_isub (pc' := 130) rfl rfl ?_
  exact st_call (pc' := 133) (as := [.long (h_l h a1 x3.toNatClampNeg), .int ((h_i h a3 x3.toNatClampNeg) - x5)]) (rest := [.ref r0, .int x4, .ref a0]) rfl rfl (Nat.le_of_ble_eq_true rfl) rfl rfl (Nat.le_of_ble_eq_true rfl) (kd := 0) (o := 11) rfl rfl rfl k
theorem B_Ta_prepareSteps_133 {d : Nat} {h : PH} {Q : PQ} {r0 : Nat} {r1 : Nat} {x2 : Int32} {x3 : Int32} {x4 : Int32} {x5 : Int32} {q0 : Nat} {s1 : Int32} {q2 : Nat} {t3 : Int64} (hs0 : h_sh h q2 = some (0, 6)) (k : wpm d 73 [.ref q2, .long t3] h (fun r h' => wpx d P_Ta_prepareSteps 136 [.ref r0, .ref r1, .int x2, .int x3, .int x4, .int x5] (r.toList ++ [.int s1, .ref q0]) h' Q)) : wpx d P_Ta_prepareSteps 133 [.ref r0, .ref r1, .int x2, .int x3, .int x4, .int x5] [.long t3, .ref q2, .int s1, .ref q0] h Q := by
  exact st_call (pc' := 136) (as := [.ref q2, .long t3]) (rest := [.int s1, .ref q0]) rfl rfl (Nat.le_of_ble_eq_true rfl) rfl rfl (Nat.le_of_ble_eq_true rfl) (kd := 1) (o := 6) rfl rfl (beq_iff_eq.mpr hs0) k
theorem B_Ta_prepareSteps_136 {d : Nat} {h : PH} {Q : PQ} {r0 : Nat} {r1 : Nat} {x2 : Int32} {x3 : Int32} {x4 : Int32} {x5 : Int32} {q0 : Nat} {s1 : Int32} {s2 : Int32} {n0 : Nat} (hs0 : h_sh h q0 = some (1, n0)) (hb1 : vp_in s1 n0) (k : wpx d P_Ta_prepareSteps 180 [.ref r0, .ref r1, .int x2, .int x3, .int x4, .int x5] [] (w_i h q0 s1.toNatClampNeg s2) Q) : wpx d P_Ta_prepareSteps 136 [.ref r0, .ref r1, .int x2, .int x3, .int x4, .int x5] [.int s2, .int s1, .ref q0] h Q := by
  refine st_iastore rfl hs0 hb1 (j := s1.toNatClampNeg) rfl (pc' := 137) rfl ?_
  exact st_goto rfl k
theorem B_Ta_prepareSteps_140 {d : Nat} {h : PH} {Q : PQ} {r0 : Nat} {r1 : Nat} {x2 : Int32} {x3 : Int32} {x4 : Int32} {x5 : Int32} {a0 : Nat} {n1 : Nat} (hs0 : h_sh h r1 = some (0, 3)) (hr1 : h_r h r1 1 = some a0) (hs2 : h_sh h a0 = some (1, n1)) (hb3 : vp_in x3 n1) (kt : ¬ (x5 = (h_i h a0 x3.toNatClampNeg)) → wpx d P_Ta_prepareSteps 180 [.ref r0, .ref r1, .int x2, .int x3, .int x4, .int x5] [] h Q) (kf : x5 = (h_i h a0 x3.toNatClampNeg) → wpx d P_Ta_prepareSteps 151 [.ref r0, .ref r1, .int x2, .int x3, .int x4, .int x5] [] h Q) : wpx d P_Ta_prepareSteps 140 [.ref r0, .ref r1, .int x2, .int x3, .int x4, .int x5] [] h Q := by
  refine st_iload (pc' := 142) rfl rfl rfl ?_
  refine st_aload (pc' := 143) rfl rfl rfl ?_
  refine st_getfr (x := some a0) (Or.inr rfl) rfl hs0 rfl hr1 (pc' := 146) rfl ?_
  refine st_iload (pc' := 147) rfl rfl rfl ?_
  refine st_iaload rfl hs2 hb3 (j := x3.toNatClampNeg) rfl (pc' := 148) rfl ?_
  exact st_icmp_ne (pc' := 151) rfl rfl kt kf
theorem B_Ta_prepareSteps_151 {d : Nat} {h : PH} {Q : PQ} {r0 : Nat} {r1 : Nat} {x2 : Int32} {x3 : Int32} {x4 : Int32} {x5 : Int32} {a0 : Nat} {a1 : Nat} {n2 : Nat} {a3 : Nat} {n4 : Nat} (hs0 : h_sh h r0 = some (0, 6)) (hr1 : h_r h r0 11 = some a0) (hr2 : h_r h r0 0 = some a1) (hs3 : h_sh h a1 = some (4, n2)) (hb4 : vp_in x2 n2) (hr5 : h_r h r0 1 = some a3) (hs6 : h_sh h a3 = some (1, n4)) (hb7 : vp_in x2 n4) (k : wpm d 164 [.long (h_l h a1 x2.toNatClampNeg), .int ((h_i h a3 x2.toNatClampNeg) - x5)] h (fun r h' => wpx d P_Ta_prepareSteps 176 [.ref r0, .ref r1, .int x2, .int x3, .int x4, .int x5] (r.toList ++ [.ref r0, .int x4, .ref a0]) h' Q)) : wpx d P_Ta_prepareSteps 151 [.ref r0, .ref r1, .int x2, .int x3, .int x4, .int x5] [] h Q := by
  refine st_aload (pc' := 152) rfl rfl rfl ?_
  refine st_getfr (x := some a0) (Or.inl rfl) rfl hs0 rfl hr1 (pc' := 155) rfl ?_
  refine st_iload (pc' := 157) rfl rfl rfl ?_
  refine st_aload (pc' := 158) rfl rfl rfl ?_
  refine st_aload (pc' := 159) rfl rfl rfl ?_
  refine st_getfr (x := some a1) (Or.inl rfl) rfl hs0 rfl hr2 (pc' := 162) rfl ?_
  refine st_iload (pc' := 163) rfl rfl rfl ?_
  refine st_laload rfl hs3 hb4 (j := x2.toNatClampNeg) rfl (pc' := 164) rfl ?_
  refine st_aload (pc' := 165) rfl rfl rfl ?_
  refine st_getfr (x := some a3) (Or.inl rfl) rfl hs0 rfl hr5 (pc' := 168) rfl ?_
  refine st_iload (pc' := 169) rfl rfl rfl ?_
  refine st_iaload rfl hs6 hb7 (j := x2.toNatClampNeg) rfl (pc' := 170) rfl ?_
  refine st_iload (pc' := 172) rfl rfl rfl ?_
  refine st_isub (pc' := 173) rfl rfl ?_
  exact st_call (pc' := 176) (as := [.long (h_l h a1 x2.toNatClampNeg), .int ((h_i h a3 x2.toNatClampNeg) - x5)]) (rest := [.ref r0, .int x4, .ref a0]) rfl rfl (Nat.le_of_ble_eq_true rfl) rfl rfl (Nat.le_of_ble_eq_true rfl) (kd := 0) (o := 11) rfl rfl rfl k
theorem B_Ta_prepareSteps_176 {d : Nat} {h : PH} {Q : PQ} {r0 : Nat} {r1 : Nat} {x2 : Int32} {x3 : Int32} {x4 : Int32} {x5 : Int32} {q0 : Nat} {s1 : Int32} {q2 : Nat} {t3 : Int64} (hs0 : h_sh h q2 = some (0, 6)) (k : wpm d 73 [.ref q2, .long t3] h (fun r h' => wpx d P_Ta_prepareSteps 179 [.ref r0, .ref r1, .int x2, .int x3, .int x4, .int x5] (r.toList ++ [.int s1, .ref q0]) h' Q)) : wpx d P_Ta_prepareSteps 176 [.ref r0, .ref r1, .int x2, .int x3, .int x4, .int x5] [.long t3, .ref q2, .int s1, .ref q0] h Q := by
  exact st_call (pc' := 179) (as := [.ref q2, .long t3]) (rest := [.int s1, .ref q0]) rfl rfl (Nat.le_of_ble_eq_true rfl) rfl rfl (Nat.le_of_ble_eq_true rfl) (kd := 1) (o := 6) rfl rfl (beq_iff_eq.mpr hs0) k
theorem B_Ta_prepareSteps_179 {d : Nat} {h : PH} {Q : PQ} {r0 : Nat} {r1 : Nat} {x2 : Int32} {x3 : Int32} {x4 : Int32} {x5 : Int32} {q0 : Nat} {s1 : Int32} {s2 : Int32} {n0 : Nat} (hs0 : h_sh h q0 = some (1, n0)) (hb1 : vp_in s1 n0) (k : wpx d P_Ta_prepareSteps 180 [.ref r0, .ref r1, .int x2, .int x3, .int x4, .int x5] [] (w_i h q0 s1.toNatClampNeg s2) Q) : wpx d P_Ta_prepareSteps 179 [.ref r0, .ref r1, .int x2, .int x3, .int x4, .int x5] [.int s2, .int s1, .ref q0] h Q := by
  refine st_iastore rfl hs0 hb1 (j := s1.toNatClampNeg) rfl (pc' := 180) rfl ?_
  exact k
theorem B_Ta_prepareSteps_180 {d : Nat} {h : PH} {Q : PQ} {r0 : Nat} {r1 : Nat} {x2 : Int32} {x3 : Int32} {x4 : Int32} {v5 : Value}  (k : wpx d P_Ta_prepareSteps 19 [.ref r0, .ref r1, .int x2, .int (x3 + 1), .int x4, v5] [] h Q) : wpx d P_Ta_prepareSteps 180 [.ref r0, .ref r1, .int x2, .int x3, .int x4, v5] [] h Q := by
  refine st_iinc (pc' := 183) (v := 1) (ls' := [.ref r0, .ref r1, .int x2, .int (x3 + 1), .int x4, v5]) rfl rfl rfl (by decide) rfl ?_
  exact st_goto rfl k
theorem B_Ta_prepareSteps_186 {d : Nat} {h : PH} {Q : PQ} {r0 : Nat} {r1 : Nat} {x2 : Int32} {x3 : Int32} {v4 : Value} {v5 : Value}  (k : wpx d P_Ta_prepareSteps 2 [.ref r0, .ref r1, .int (x2 + 1), .int x3, v4, v5] [] h Q) : wpx d P_Ta_prepareSteps 186 [.ref r0, .ref r1, .int x2, .int x3, v4, v5] [] h Q := by
  refine st_iinc (pc' := 189) (v := 1) (ls' := [.ref r0, .ref r1, .int (x2 + 1), .int x3, v4, v5]) rfl rfl rfl (by decide) rfl ?_
  exact st_goto rfl k
theorem B_Ta_prepareSteps_192 {d : Nat} {h : PH} {Q : PQ} {r0 : Nat} {r1 : Nat} {x2 : Int32} {v3 : Value} {v4 : Value} {v5 : Value}  (k : Q none h) : wpx d P_Ta_prepareSteps 192 [.ref r0, .ref r1, .int x2, v3, v4, v5] [] h Q := by
  exact st_return rfl k
theorem B_Ta_deepen_0 {d : Nat} {h : PH} {Q : PQ} {r0 : Nat} {x1 : Int32} {v2 : Value} {v3 : Value} {v4 : Value} {v5 : Value} {v6 : Value} {v7 : Value}  (k : wpx d P_Ta_deepen 4 [.ref r0, .int x1, .int 0, .int 0, v4, v5, v6, v7] [] h Q) : wpx d P_Ta_deepen 0 [.ref r0, .int x1, v2, v3, v4, v5, v6, v7] [] h Q := by
  refine st_ipush (pc' := 1) (v := 0) rfl rfl (by decide) ?_
  refine st_istore (pc' := 2) (ls' := [.ref r0, .int x1, .int 0, v3, v4, v5, v6, v7]) rfl rfl (Nat.le_of_ble_eq_true rfl) rfl ?_
  refine st_ipush (pc' := 3) (v := 0) rfl rfl (by decide) ?_
  refine st_istore (pc' := 4) (ls' := [.ref r0, .int x1, .int 0, .int 0, v4, v5, v6, v7]) rfl rfl (Nat.le_of_ble_eq_true rfl) rfl ?_
  exact k
theorem B_Ta_deepen_4 {d : Nat} {h : PH} {Q : PQ} {r0 : Nat} {x1 : Int32} {x2 : Int32} {x3 : Int32} {v4 : Value} {v5 : Value} {v6 : Value} {v7 : Value} (hs0 : h_sh h r0 = some (0, 6)) (kt : (h_i h r0 3) ≤ x3 → wpx d P_Ta_deepen 105 [.ref r0, .int x1, .int x2, .int x3, v4, v5, v6, v7] [] h Q) (kf : ¬ ((h_i h r0 3) ≤ x3) → wpx d P_Ta_deepen 12 [.ref r0, .int x1, .int x2, .int x3, v4, v5, v6, v7] [] h Q) : wpx d P_Ta_deepen 4 [.ref r0, .int x1, .int x2, .int x3, v4, v5, v6, v7] [] h Q := by
  refine st_iload (pc' := 5) rfl rfl rfl ?_
  refine st_aload (pc' := 6) rfl rfl rfl ?_
  refine st_getfi (Or.inl rfl) rfl hs0 rfl (pc' := 9) rfl ?_
  exact st_icmp_ge (pc' := 12) rfl rfl kt kf
theorem B_Ta_deepen_12 {d : Nat} {h : PH} {Q : PQ} {r0 : Nat} {x1 : Int32} {x2 : Int32} {x3 : Int32} {v4 : Value} {v5 : Value} {v6 : Value} {v7 : Value}  (k : wpx d P_Ta_deepen 15 [.ref r0, .int x1, .int x2, .int x3, .int 0, v5, v6, v7] [] h Q) : wpx d P_Ta_deepen 12 [.ref r0, .int x1, .int x2, .int x3, v4, v5, v6, v7] [] h Q := by
  refine st_ipush (pc' := 13) (v := 0) rfl rfl (by decide) ?_
  refine st_istore (pc' := 15) (ls' := [.ref r0, .int x1, .int x2, .int x3, .int 0, v5, v6, v7]) rfl rfl (Nat.le_of_ble_eq_true rfl) rfl ?_
  exact k
theorem B_Ta_deepen_15 {d : Nat} {h : PH} {Q : PQ} {r0 : Nat} {x1 : Int32} {x2 : Int32} {x3 : Int32} {x4 : Int32} {v5 : Value} {v6 : Value} {v7 : Value}  (kt : x1 ≤ x4 → wpx d P_Ta_deepen 99 [.ref r0, .int x1, .int x2, .int x3, .int x4, v5, v6, v7] [] h Q) (kf : ¬ (x1 ≤ x4) → wpx d P_Ta_deepen 21 [.ref r0, .int x1, .int x2, .int x3, .int x4, v5, v6, v7] [] h Q) : wpx d P_Ta_deepen 15 [.ref r0, .int x1, .int x2, .int x3, .int x4, v5, v6, v7] [] h Q := by
  refine st_iload (pc' := 17) rfl rfl rfl ?_
  refine st_iload (pc' := 18) rfl rfl rfl ?_
  exact st_icmp_ge (pc' := 21) rfl rfl kt kf
theorem B_Ta_deepen_21 {d : Nat} {h : PH} {Q : PQ} {r0 : Nat} {x1 : Int32} {x2 : Int32} {x3 : Int32} {x4 : Int32} {v5 : Value} {v6 : Value} {v7 : Value} {a0 : Nat} {n1 : Nat} (hs0 : h_sh h r0 = some (0, 6)) (hr1 : h_r h r0 11 = some a0) (hs2 : h_sh h a0 = some (1, n1)) (hb3 : vp_in ((x3 * (14 : Int32)) + x4) n1) (kt : ¬ ((h_i h a0 ((x3 * (14 : Int32)) + x4).toNatClampNeg) = ((-1) : Int32)) → wpx d P_Ta_deepen 55 [.ref r0, .int x1, .int x2, .int x3, .int x4, .int ((x3 * (14 : Int32)) + x4), .int (h_i h a0 ((x3 * (14 : Int32)) + x4).toNatClampNeg), v7] [] h Q) (kf : (h_i h a0 ((x3 * (14 : Int32)) + x4).toNatClampNeg) = ((-1) : Int32) → wpx d P_Ta_deepen 45 [.ref r0, .int x1, .int x2, .int x3, .int x4, .int ((x3 * (14 : Int32)) + x4), .int (h_i h a0 ((x3 * (14 : Int32)) + x4).toNatClampNeg), v7] [] h Q) : wpx d P_Ta_deepen 21 [.ref r0, .int x1, .int x2, .int x3, .int x4, v5, v6, v7] [] h Q := by
  refine st_iload (pc' := 22) rfl rfl rfl ?_
  refine st_ipush (pc' := 24) (v := 14) rfl rfl (by decide) ?_
  refine st_imul (pc' := 25) rfl rfl ?_
  refine st_iload (pc' := 27) rfl rfl rfl ?_
  refine st_iadd (pc' := 28) rfl rfl ?_
  refine st_istore (pc' := 30) (ls' := [.ref r0, .int x1, .int x2, .int x3, .int x4, .int ((x3 * (14 : Int32)) + x4), v6, v7]) rfl rfl (Nat.le_of_ble_eq_true rfl) rfl ?_
  refine st_aload (pc' := 31) rfl rfl rfl ?_
  refine st_getfr (x := some a0) (Or.inl rfl) rfl hs0 rfl hr1 (pc' := 34) rfl ?_
  refine st_iload (pc' := 36) rfl rfl rfl ?_
  refine st_iaload rfl hs2 hb3 (j := ((x3 * (14 : Int32)) + x4).toNatClampNeg) rfl (pc' := 37) rfl ?_
  refine st_istore (pc' := 39) (ls' := [.ref r0, .int x1, .int x2, .int x3, .int x4, .int ((x3 * (14 : Int32)) + x4), .int (h_i h a0 ((x3 * (14 : Int32)) + x4).toNatClampNeg), v7]) rfl rfl (Nat.le_of_ble_eq_true rfl) rfl ?_
  refine st_iload (pc' := 41) rfl rfl rfl ?_
  refine st_ipush (pc' := 42) (v := (-1)) rfl rfl (by decide) ?_
  exact st_icmp_ne (pc' := 45) rfl rfl kt kf
theorem B_Ta_deepen_45 {d : Nat} {h : PH} {Q : PQ} {r0 : Nat} {x1 : Int32} {x2 : Int32} {x3 : Int32} {x4 : Int32} {x5 : Int32} {x6 : Int32} {v7 : Value} {a0 : Nat} {n1 : Nat} (hs0 : h_sh h r0 = some (0, 6)) (hr1 : h_r h r0 10 = some a0) (hs2 : h_sh h a0 = some (1, n1)) (hb3 : vp_in x5 n1) (k : wpx d P_Ta_deepen 70 [.ref r0, .int x1, .int x2, .int x3, .int x4, .int x5, .int x6, v7] [.int (h_i h a0 x5.toNatClampNeg)] h Q) : wpx d P_Ta_deepen 45 [.ref r0, .int x1, .int x2, .int x3, .int x4, .int x5, .int x6, v7] [] h Q := by
  refine st_aload (pc' := 46) rfl rfl rfl ?_
  refine st_getfr (x := some a0) (Or.inl rfl) rfl hs0 rfl hr1 (pc' := 49) rfl ?_
  refine st_iload (pc' := 51) rfl rfl rfl ?_
  refine st_iaload rfl hs2 hb3 (j := x5.toNatClampNeg) rfl (pc' := 52) rfl ?_
  exact st_goto rfl k
theorem B_Ta_deepen_55 {d : Nat} {h : PH} {Q : PQ} {r0 : Nat} {x1 : Int32} {x2 : Int32} {x3 : Int32} {x4 : Int32} {x5 : Int32} {x6 : Int32} {v7 : Value} {a0 : Nat} {n1 : Nat} {a2 : Nat} {n3 : Nat} (hs0 : h_sh h r0 = some (0, 6)) (hr1 : h_r h r0 10 = some a0) (hs2 : h_sh h a0 = some (1, n1)) (hb3 : vp_in x5 n1) (hr4 : h_r h r0 9 = some a2) (hs5 : h_sh h a2 = some (1, n3)) (hb6 : vp_in x6 n3) (k : wpx d P_Ta_deepen 70 [.ref r0, .int x1, .int x2, .int x3, .int x4, .int x5, .int x6, v7] [.int ((h_i h a0 x5.toNatClampNeg) + (h_i h a2 x6.toNatClampNeg))] h Q) : wpx d P_Ta_deepen 55 [.ref r0, .int x1, .int x2, .int x3, .int x4, .int x5, .int x6, v7] [] h Q := by
  refine st_aload (pc' := 56) rfl rfl rfl ?_
  refine st_getfr (x := some a0) (Or.inl rfl) rfl hs0 rfl hr1 (pc' := 59) rfl ?_
  refine st_iload (pc' := 61) rfl rfl rfl ?_
  refine st_iaload rfl hs2 hb3 (j := x5.toNatClampNeg) rfl (pc' := 62) rfl ?_
  refine st_aload (pc' := 63) rfl rfl rfl ?_
  refine st_getfr (x := some a2) (Or.inl rfl) rfl hs0 rfl hr4 (pc' := 66) rfl ?_
  refine st_iload (pc' := 68) rfl rfl rfl ?_
  refine st_iaload rfl hs5 hb6 (j := x6.toNatClampNeg) rfl (pc' := 69) rfl ?_
  refine st_iadd (pc' := 70) rfl rfl ?_
  exact k
theorem B_Ta_deepen_70 {d : Nat} {h : PH} {Q : PQ} {r0 : Nat} {x1 : Int32} {x2 : Int32} {x3 : Int32} {x4 : Int32} {x5 : Int32} {x6 : Int32} {v7 : Value} {s0 : Int32} {a0 : Nat} {n1 : Nat} (hs0 : h_sh h r0 = some (0, 6)) (hr1 : h_r h r0 9 = some a0) (hs2 : h_sh h a0 = some (1, n1)) (hb3 : vp_in x3 n1) (kt : s0 ≤ (h_i h a0 x3.toNatClampNeg) → wpx d P_Ta_deepen 93 [.ref r0, .int x1, .int x2, .int x3, .int x4, .int x5, .int x6, .int s0] [] h Q) (kf : ¬ (s0 ≤ (h_i h a0 x3.toNatClampNeg)) → wpx d P_Ta_deepen 83 [.ref r0, .int x1, .int x2, .int x3, .int x4, .int x5, .int x6, .int s0] [] h Q) : wpx d P_Ta_deepen 70 [.ref r0, .int x1, .int x2, .int x3, .int x4, .int x5, .int x6, v7] [.int s0] h Q := by
  refine st_istore (pc' := 72) (ls' := [.ref r0, .int x1, .int x2, .int x3, .int x4, .int x5, .int x6, .int s0]) rfl rfl (Nat.le_of_ble_eq_true rfl) rfl ?_
  refine st_iload (pc' := 74) rfl rfl rfl ?_
  refine st_aload (pc' := 75) rfl rfl rfl ?_
  refine st_getfr (x := some a0) (Or.inl rfl) rfl hs0 rfl hr1 (pc' := 78) rfl ?_
  refine st_iload (pc' := 79) rfl rfl rfl ?_
  refine st_iaload rfl hs2 hb3 (j := x3.toNatClampNeg) rfl (pc' := 80) rfl ?_
  exact st_icmp_le (pc' := 83) rfl rfl kt kf
theorem B_Ta_deepen_83 {d : Nat} {h : PH} {Q : PQ} {r0 : Nat} {x1 : Int32} {x2 : Int32} {x3 : Int32} {x4 : Int32} {x5 : Int32} {x6 : Int32} {x7 : Int32} {a0 : Nat} {n1 : Nat} (hs0 : h_sh h r0 = some (0, 6)) (hr1 : h_r h r0 9 = some a0) (hs2 : h_sh h a0 = some (1, n1)) (hb3 : vp_in x3 n1) (k : wpx d P_Ta_deepen 93 [.ref r0, .int x1, .int 1, .int x3, .int x4, .int x5, .int x6, .int x7] [] (w_i h a0 x3.toNatClampNeg x7) Q) : wpx d P_Ta_deepen 83 [.ref r0, .int x1, .int x2, .int x3, .int x4, .int x5, .int x6, .int x7] [] h Q := by
  refine st_aload (pc' := 84) rfl rfl rfl ?_
  refine st_getfr (x := some a0) (Or.inl rfl) rfl hs0 rfl hr1 (pc' := 87) rfl ?_
  refine st_iload (pc' := 88) rfl rfl rfl ?_
  refine st_iload (pc' := 90) rfl rfl rfl ?_
  refine st_iastore rfl hs2 hb3 (j := x3.toNatClampNeg) rfl (pc' := 91) rfl ?_
  refine st_ipush (pc' := 92) (v := 1) rfl rfl (by decide) ?_
  refine st_istore (pc' := 93) (ls' := [.ref r0, .int x1, .int 1, .int x3, .int x4, .int x5, .int x6, .int x7]) rfl rfl (Nat.le_of_ble_eq_true rfl) rfl ?_
  exact k
theorem B_Ta_deepen_93 {d : Nat} {h : PH} {Q : PQ} {r0 : Nat} {x1 : Int32} {x2 : Int32} {x3 : Int32} {x4 : Int32} {x5 : Int32} {x6 : Int32} {x7 : Int32}  (k : wpx d P_Ta_deepen 15 [.ref r0, .int x1, .int x2, .int x3, .int (x4 + 1), .int x5, .int x6, .int x7] [] h Q) : wpx d P_Ta_deepen 93 [.ref r0, .int x1, .int x2, .int x3, .int x4, .int x5, .int x6, .int x7] [] h Q := by
  refine st_iinc (pc' := 96) (v := 1) (ls' := [.ref r0, .int x1, .int x2, .int x3, .int (x4 + 1), .int x5, .int x6, .int x7]) rfl rfl rfl (by decide) rfl ?_
  exact st_goto rfl k
theorem B_Ta_deepen_99 {d : Nat} {h : PH} {Q : PQ} {r0 : Nat} {x1 : Int32} {x2 : Int32} {x3 : Int32} {x4 : Int32} {v5 : Value} {v6 : Value} {v7 : Value}  (k : wpx d P_Ta_deepen 4 [.ref r0, .int x1, .int x2, .int (x3 + 1), .int x4, v5, v6, v7] [] h Q) : wpx d P_Ta_deepen 99 [.ref r0, .int x1, .int x2, .int x3, .int x4, v5, v6, v7] [] h Q := by
  refine st_iinc (pc' := 102) (v := 1) (ls' := [.ref r0, .int x1, .int x2, .int (x3 + 1), .int x4, v5, v6, v7]) rfl rfl rfl (by decide) rfl ?_
  exact st_goto rfl k
theorem B_Ta_deepen_105 {d : Nat} {h : PH} {Q : PQ} {r0 : Nat} {x1 : Int32} {x2 : Int32} {x3 : Int32} {v4 : Value} {v5 : Value} {v6 : Value} {v7 : Value} (hz0 : narrow .boolean (.int x2) = .int x2) (k : Q (some (.int x2)) h) : wpx d P_Ta_deepen 105 [.ref r0, .int x1, .int x2, .int x3, v4, v5, v6, v7] [] h Q := by
  refine st_iload (pc' := 106) rfl rfl rfl ?_
  exact st_ireturn (ty := .boolean) rfl rfl hz0 k
