/-! stretches of methods -/
theorem B_Gr_init_0 {d : Nat} {h : PH} {Q : PQ} {r0 : Nat} (hs0 : h_sh (h_new h (4, 14) 14) r0 = some (0, 3)) (hs1 : h_sh (h_new (w_r (h_new h (4, 14) 14) r0 0 (some (h_ct h))) (1, 14) 14) r0 = some (0, 3)) (hs2 : h_sh (h_new (w_r (h_new (w_r (h_new h (4, 14) 14) r0 0 (some (h_ct h))) (1, 14) 14) r0 1 (some (h_ct (w_r (h_new h (4, 14) 14) r0 0 (some (h_ct h)))))) (1, 14) 14) r0 = some (0, 3)) (k : wpx d P_Gr_init 28 [.ref r0] [] (w_r (h_new (w_r (h_new (w_r (h_new h (4, 14) 14) r0 0 (some (h_ct h))) (1, 14) 14) r0 1 (some (h_ct (w_r (h_new h (4, 14) 14) r0 0 (some (h_ct h)))))) (1, 14) 14) r0 2 (some (h_ct (w_r (h_new (w_r (h_new h (4, 14) 14) r0 0 (some (h_ct h))) (1, 14) 14) r0 1 (some (h_ct (w_r (h_new h (4, 14) 14) r0 0 (some (h_ct h))))))))) Q) : wpx d P_Gr_init 0 [.ref r0] [] h Q := by
  refine st_aload (pc' := 1) rfl rfl rfl ?_
  refine st_oinit (pc' := 4) rfl rfl (Nat.le_of_ble_eq_true rfl) ?_
  refine st_aload (pc' := 5) rfl rfl rfl ?_
  refine st_ipush (pc' := 7) (v := 14) rfl rfl (by decide) ?_
  refine st_newL rfl (by decide) (j := 14) (by decide) (pc' := 9) rfl ?_
  refine st_putf (h' := w_r (h_new h (4, 14) 14) r0 0 (some (h_ct h))) (Or.inr (Or.inr rfl)) rfl hs0 rfl rfl rfl (pc' := 12) rfl ?_
  refine st_aload (pc' := 13) rfl rfl rfl ?_
  refine st_ipush (pc' := 15) (v := 14) rfl rfl (by decide) ?_
  refine st_newI rfl (by decide) (j := 14) (by decide) (pc' := 17) rfl ?_
  refine st_putf (h' := w_r (h_new (w_r (h_new h (4, 14) 14) r0 0 (some (h_ct h))) (1, 14) 14) r0 1 (some (h_ct (w_r (h_new h (4, 14) 14) r0 0 (some (h_ct h)))))) (Or.inr (Or.inr rfl)) rfl hs1 rfl rfl rfl (pc' := 20) rfl ?_
  refine st_aload (pc' := 21) rfl rfl rfl ?_
  refine st_ipush (pc' := 23) (v := 14) rfl rfl (by decide) ?_
  refine st_newI rfl (by decide) (j := 14) (by decide) (pc' := 25) rfl ?_
  refine st_putf (h' := w_r (h_new (w_r (h_new (w_r (h_new h (4, 14) 14) r0 0 (some (h_ct h))) (1, 14) 14) r0 1 (some (h_ct (w_r (h_new h (4, 14) 14) r0 0 (some (h_ct h)))))) (1, 14) 14) r0 2 (some (h_ct (w_r (h_new (w_r (h_new h (4, 14) 14) r0 0 (some (h_ct h))) (1, 14) 14) r0 1 (some (h_ct (w_r (h_new h (4, 14) 14) r0 0 (some (h_ct h))))))))) (Or.inr (Or.inr rfl)) rfl hs2 rfl rfl rfl (pc' := 28) rfl ?_
  exact k
theorem B_Gr_init_28 {d : Nat} {h : PH} {Q : PQ} {r0 : Nat} (hs0 : h_sh (h_new h (1, 12) 12) r0 = some (0, 3)) (hs1 : h_sh (h_new (w_r (h_new h (1, 12) 12) r0 7 (some (h_ct h))) (1, 12) 12) r0 = some (0, 3)) (k : Q none (w_r (h_new (w_r (h_new h (1, 12) 12) r0 7 (some (h_ct h))) (1, 12) 12) r0 8 (some (h_ct (w_r (h_new h (1, 12) 12) r0 7 (some (h_ct h))))))) : wpx d P_Gr_init 28 [.ref r0] [] h Q := by
  refine st_aload (pc' := 29) rfl rfl rfl ?_
  refine st_ipush (pc' := 31) (v := 12) rfl rfl (by decide) ?_
  refine st_newI rfl (by decide) (j := 12) (by decide) (pc' := 33) rfl ?_
  refine st_putf (h' := w_r (h_new h (1, 12) 12) r0 7 (some (h_ct h))) (Or.inr (Or.inr rfl)) rfl hs0 rfl rfl rfl (pc' := 36) rfl ?_
  refine st_aload (pc' := 37) rfl rfl rfl ?_
  refine st_ipush (pc' := 39) (v := 12) rfl rfl (by decide) ?_
  refine st_newI rfl (by decide) (j := 12) (by decide) (pc' := 41) rfl ?_
  refine st_putf (h' := w_r (h_new (w_r (h_new h (1, 12) 12) r0 7 (some (h_ct h))) (1, 12) 12) r0 8 (some (h_ct (w_r (h_new h (1, 12) 12) r0 7 (some (h_ct h)))))) (Or.inr (Or.inr rfl)) rfl hs1 rfl rfl rfl (pc' := 44) rfl ?_
  exact st_return rfl k
theorem B_Gr_has_0 {d : Nat} {h : PH} {Q : PQ} {r0 : Nat} {x1 : Int32}  (kt : x1 < 0 → wpx d P_Gr_has 16 [.ref r0, .int x1] [] h Q) (kf : ¬ (x1 < 0) → wpx d P_Gr_has 4 [.ref r0, .int x1] [] h Q) : wpx d P_Gr_has 0 [.ref r0, .int x1] [] h Q := by
  refine st_iload (pc' := 1) rfl rfl rfl ?_
  exact st_if_lt (pc' := 4) rfl rfl kt kf
theorem B_Gr_has_4 {d : Nat} {h : PH} {Q : PQ} {r0 : Nat} {x1 : Int32} (hs0 : h_sh h r0 = some (0, 3)) (kt : (h_i h r0 3) ≤ x1 → wpx d P_Gr_has 16 [.ref r0, .int x1] [] h Q) (kf : ¬ ((h_i h r0 3) ≤ x1) → wpx d P_Gr_has 12 [.ref r0, .int x1] [] h Q) : wpx d P_Gr_has 4 [.ref r0, .int x1] [] h Q := by
  refine st_iload (pc' := 5) rfl rfl rfl ?_
  refine st_aload (pc' := 6) rfl rfl rfl ?_
  refine st_getfi (Or.inl rfl) rfl hs0 rfl (pc' := 9) rfl ?_
  exact st_icmp_ge (pc' := 12) rfl rfl kt kf
theorem B_Gr_has_12 {d : Nat} {h : PH} {Q : PQ} {r0 : Nat} {x1 : Int32}  (k : wpx d P_Gr_has 17 [.ref r0, .int x1] [.int 1] h Q) : wpx d P_Gr_has 12 [.ref r0, .int x1] [] h Q := by
  refine st_ipush (pc' := 13) (v := 1) rfl rfl (by decide) ?_
  exact st_goto rfl k
theorem B_Gr_has_16 {d : Nat} {h : PH} {Q : PQ} {r0 : Nat} {x1 : Int32}  (k : wpx d P_Gr_has 17 [.ref r0, .int x1] [.int 0] h Q) : wpx d P_Gr_has 16 [.ref r0, .int x1] [] h Q := by
  refine st_ipush (pc' := 17) (v := 0) rfl rfl (by decide) ?_
  exact k
theorem B_Gr_has_17 {d : Nat} {h : PH} {Q : PQ} {r0 : Nat} {x1 : Int32} {s0 : Int32} (hz0 : narrow .boolean (.int s0) = .int s0) (k : Q (some (.int s0)) h) : wpx d P_Gr_has 17 [.ref r0, .int x1] [.int s0] h Q := by
  exact st_ireturn (ty := .boolean) rfl rfl hz0 k
theorem B_Gr_isIn_0 {d : Nat} {h : PH} {Q : PQ} {r0 : Nat} {x1 : Int32} (hs0 : h_sh h r0 = some (0, 3)) (k : wpm d 34 [.ref r0, .int x1] h (fun r h' => wpx d P_Gr_isIn 5 [.ref r0, .int x1] (r.toList ++ []) h' Q)) : wpx d P_Gr_isIn 0 [.ref r0, .int x1] [] h Q := by
  refine st_aload (pc' := 1) rfl rfl rfl ?_
  refine st_iload (pc' := 2) rfl rfl rfl ?_
  exact st_call (pc' := 5) (as := [.ref r0, .int x1]) (rest := []) rfl rfl (Nat.le_of_ble_eq_true rfl) rfl rfl (Nat.le_of_ble_eq_true rfl) (kd := 1) (o := 3) rfl rfl (beq_iff_eq.mpr hs0) k
theorem B_Gr_isIn_5 {d : Nat} {h : PH} {Q : PQ} {r0 : Nat} {x1 : Int32} {s0 : Int32}  (kt : s0 = 0 → wpx d P_Gr_isIn 24 [.ref r0, .int x1] [] h Q) (kf : ¬ (s0 = 0) → wpx d P_Gr_isIn 8 [.ref r0, .int x1] [] h Q) : wpx d P_Gr_isIn 5 [.ref r0, .int x1] [.int s0] h Q := by
  exact st_if_eq (pc' := 8) rfl rfl kt kf
theorem B_Gr_isIn_8 {d : Nat} {h : PH} {Q : PQ} {r0 : Nat} {x1 : Int32} (hs0 : h_sh h r0 = some (0, 3)) (kt : ¬ (((((h_i h r0 5).toUInt32 >>> (x1.toUInt32 &&& Int32.toUInt32 31)).toInt32) &&& (1 : Int32)) = (1 : Int32)) → wpx d P_Gr_isIn 24 [.ref r0, .int x1] [] h Q) (kf : ((((h_i h r0 5).toUInt32 >>> (x1.toUInt32 &&& Int32.toUInt32 31)).toInt32) &&& (1 : Int32)) = (1 : Int32) → wpx d P_Gr_isIn 20 [.ref r0, .int x1] [] h Q) : wpx d P_Gr_isIn 8 [.ref r0, .int x1] [] h Q := by
  refine st_aload (pc' := 9) rfl rfl rfl ?_
  refine st_getfi (Or.inl rfl) rfl hs0 rfl (pc' := 12) rfl ?_
  refine st_iload (pc' := 13) rfl rfl rfl ?_
  refine st_iushr (pc' := 14) rfl rfl ?_
  refine st_ipush (pc' := 15) (v := 1) rfl rfl (by decide) ?_
  refine st_iand (pc' := 16) rfl rfl ?_
  refine st_ipush (pc' := 17) (v := 1) rfl rfl (by decide) ?_
  exact st_icmp_ne (pc' := 20) rfl rfl kt kf
theorem B_Gr_isIn_20 {d : Nat} {h : PH} {Q : PQ} {r0 : Nat} {x1 : Int32}  (k : wpx d P_Gr_isIn 25 [.ref r0, .int x1] [.int 1] h Q) : wpx d P_Gr_isIn 20 [.ref r0, .int x1] [] h Q := by
  refine st_ipush (pc' := 21) (v := 1) rfl rfl (by decide) ?_
  exact st_goto rfl k
theorem B_Gr_isIn_24 {d : Nat} {h : PH} {Q : PQ} {r0 : Nat} {x1 : Int32}  (k : wpx d P_Gr_isIn 25 [.ref r0, .int x1] [.int 0] h Q) : wpx d P_Gr_isIn 24 [.ref r0, .int x1] [] h Q := by
  refine st_ipush (pc' := 25) (v := 0) rfl rfl (by decide) ?_
  exact k
theorem B_Gr_isIn_25 {d : Nat} {h : PH} {Q : PQ} {r0 : Nat} {x1 : Int32} {s0 : Int32} (hz0 : narrow .boolean (.int s0) = .int s0) (k : Q (some (.int s0)) h) : wpx d P_Gr_isIn 25 [.ref r0, .int x1] [.int s0] h Q := by
  exact st_ireturn (ty := .boolean) rfl rfl hz0 k
theorem B_Gr_takeTold_0 {d : Nat} {h : PH} {Q : PQ} {r0 : Nat} {r1 : Nat} {a0 : Nat} {a1 : Nat} {n2 : Nat} {n3 : Nat} (hs0 : h_sh h r1 = some (0, 7)) (hs1 : h_sh h r0 = some (0, 3)) (hr2 : h_r h r1 2 = some a0) (hr3 : h_r h r0 0 = some a1) (hs4 : h_sh h a0 = some (4, n2)) (hs5 : h_sh h a1 = some (4, n3)) (hc6 : (¬ (0 : Int32) < 0) ∧ (¬ (0 : Int32) < 0) ∧ (¬ (h_i (w_i (w_i h r0 3 (h_i h r1 5)) r0 4 (h_i (w_i h r0 3 (h_i h r1 5)) r1 1)) r0 3) < 0) ∧ (0 : Int32).toNatClampNeg + (h_i (w_i (w_i h r0 3 (h_i h r1 5)) r0 4 (h_i (w_i h r0 3 (h_i h r1 5)) r1 1)) r0 3).toNatClampNeg ≤ n2 ∧ (0 : Int32).toNatClampNeg + (h_i (w_i (w_i h r0 3 (h_i h r1 5)) r0 4 (h_i (w_i h r0 3 (h_i h r1 5)) r1 1)) r0 3).toNatClampNeg ≤ n3) (k : wpx d P_Gr_takeTold 33 [.ref r0, .ref r1] [] (w_rl (w_i (w_i h r0 3 (h_i h r1 5)) r0 4 (h_i (w_i h r0 3 (h_i h r1 5)) r1 1)) a1 (va_cpy (h_l (w_i (w_i h r0 3 (h_i h r1 5)) r0 4 (h_i (w_i h r0 3 (h_i h r1 5)) r1 1)) a0) (h_l (w_i (w_i h r0 3 (h_i h r1 5)) r0 4 (h_i (w_i h r0 3 (h_i h r1 5)) r1 1)) a1) 0 0 ((h_i (w_i (w_i h r0 3 (h_i h r1 5)) r0 4 (h_i (w_i h r0 3 (h_i h r1 5)) r1 1)) r0 3).toNatClampNeg))) Q) : wpx d P_Gr_takeTold 0 [.ref r0, .ref r1] [] h Q := by
  refine st_aload (pc' := 1) rfl rfl rfl ?_
  refine st_aload (pc' := 2) rfl rfl rfl ?_
  refine st_getfi (Or.inr rfl) rfl hs0 rfl (pc' := 5) rfl ?_
  refine st_putf (h' := w_i h r0 3 (h_i h r1 5)) (Or.inl rfl) rfl hs1 rfl rfl rfl (pc' := 8) rfl ?_
  refine st_aload (pc' := 9) rfl rfl rfl ?_
  refine st_aload (pc' := 10) rfl rfl rfl ?_
  refine st_getfi (Or.inr rfl) rfl hs0 rfl (pc' := 13) rfl ?_
  refine st_putf (h' := w_i (w_i h r0 3 (h_i h r1 5)) r0 4 (h_i (w_i h r0 3 (h_i h r1 5)) r1 1)) (Or.inl rfl) rfl hs1 rfl rfl rfl (pc' := 16) rfl ?_
  refine st_aload (pc' := 17) rfl rfl rfl ?_
  refine st_getfr (x := some a0) (Or.inr rfl) rfl hs0 rfl hr2 (pc' := 20) rfl ?_
  refine st_ipush (pc' := 21) (v := 0) rfl rfl (by decide) ?_
  refine st_aload (pc' := 22) rfl rfl rfl ?_
  refine st_getfr (x := some a1) (Or.inl rfl) rfl hs1 rfl hr3 (pc' := 25) rfl ?_
  refine st_ipush (pc' := 26) (v := 0) rfl rfl (by decide) ?_
  refine st_aload (pc' := 27) rfl rfl rfl ?_
  refine st_getfi (Or.inl rfl) rfl hs1 rfl (pc' := 30) rfl ?_
  refine st_copyL (pc' := 33) rfl rfl (Nat.le_of_ble_eq_true rfl) hs4 hs5 hc6 (js := 0) (jd := 0) (jn := (h_i (w_i (w_i h r0 3 (h_i h r1 5)) r0 4 (h_i (w_i h r0 3 (h_i h r1 5)) r1 1)) r0 3).toNatClampNeg) (by decide) (by decide) rfl ?_
  exact k
theorem B_Gr_takeTold_33 {d : Nat} {h : PH} {Q : PQ} {r0 : Nat} {r1 : Nat} {a0 : Nat} {a1 : Nat} {n2 : Nat} {n3 : Nat} {a4 : Nat} {a5 : Nat} {n6 : Nat} {n7 : Nat} (hs0 : h_sh h r1 = some (0, 7)) (hr1 : h_r h r1 3 = some a0) (hs2 : h_sh h r0 = some (0, 3)) (hr3 : h_r h r0 1 = some a1) (hs4 : h_sh h a0 = some (1, n2)) (hs5 : h_sh h a1 = some (1, n3)) (hc6 : (¬ (0 : Int32) < 0) ∧ (¬ (0 : Int32) < 0) ∧ (¬ (h_i h r0 3) < 0) ∧ (0 : Int32).toNatClampNeg + (h_i h r0 3).toNatClampNeg ≤ n2 ∧ (0 : Int32).toNatClampNeg + (h_i h r0 3).toNatClampNeg ≤ n3) (hr7 : h_r h r1 4 = some a4) (hr8 : h_r h r0 2 = some a5) (hs9 : h_sh h a4 = some (1, n6)) (hs10 : h_sh h a5 = some (1, n7)) (hc11 : (¬ (0 : Int32) < 0) ∧ (¬ (0 : Int32) < 0) ∧ (¬ (h_i (w_ri h a1 (va_cpy (h_i h a0) (h_i h a1) 0 0 ((h_i h r0 3).toNatClampNeg))) r0 3) < 0) ∧ (0 : Int32).toNatClampNeg + (h_i (w_ri h a1 (va_cpy (h_i h a0) (h_i h a1) 0 0 ((h_i h r0 3).toNatClampNeg))) r0 3).toNatClampNeg ≤ n6 ∧ (0 : Int32).toNatClampNeg + (h_i (w_ri h a1 (va_cpy (h_i h a0) (h_i h a1) 0 0 ((h_i h r0 3).toNatClampNeg))) r0 3).toNatClampNeg ≤ n7) (k : wpx d P_Gr_takeTold 67 [.ref r0, .ref r1] [] (w_ri (w_ri h a1 (va_cpy (h_i h a0) (h_i h a1) 0 0 ((h_i h r0 3).toNatClampNeg))) a5 (va_cpy (h_i (w_ri h a1 (va_cpy (h_i h a0) (h_i h a1) 0 0 ((h_i h r0 3).toNatClampNeg))) a4) (h_i (w_ri h a1 (va_cpy (h_i h a0) (h_i h a1) 0 0 ((h_i h r0 3).toNatClampNeg))) a5) 0 0 ((h_i (w_ri h a1 (va_cpy (h_i h a0) (h_i h a1) 0 0 ((h_i h r0 3).toNatClampNeg))) r0 3).toNatClampNeg))) Q) : wpx d P_Gr_takeTold 33 [.ref r0, .ref r1] [] h Q := by
  refine st_aload (pc' := 34) rfl rfl rfl ?_
  refine st_getfr (x := some a0) (Or.inr rfl) rfl hs0 rfl hr1 (pc' := 37) rfl ?_
  refine st_ipush (pc' := 38) (v := 0) rfl rfl (by decide) ?_
  refine st_aload (pc' := 39) rfl rfl rfl ?_
  refine st_getfr (x := some a1) (Or.inl rfl) rfl hs2 rfl hr3 (pc' := 42) rfl ?_
  refine st_ipush (pc' := 43) (v := 0) rfl rfl (by decide) ?_
  refine st_aload (pc' := 44) rfl rfl rfl ?_
  refine st_getfi (Or.inl rfl) rfl hs2 rfl (pc' := 47) rfl ?_
  refine st_copyI (pc' := 50) rfl rfl (Nat.le_of_ble_eq_true rfl) hs4 hs5 hc6 (js := 0) (jd := 0) (jn := (h_i h r0 3).toNatClampNeg) (by decide) (by decide) rfl ?_
  refine st_aload (pc' := 51) rfl rfl rfl ?_
  refine st_getfr (x := some a4) (Or.inr rfl) rfl hs0 rfl hr7 (pc' := 54) rfl ?_
  refine st_ipush (pc' := 55) (v := 0) rfl rfl (by decide) ?_
  refine st_aload (pc' := 56) rfl rfl rfl ?_
  refine st_getfr (x := some a5) (Or.inl rfl) rfl hs2 rfl hr8 (pc' := 59) rfl ?_
  refine st_ipush (pc' := 60) (v := 0) rfl rfl (by decide) ?_
  refine st_aload (pc' := 61) rfl rfl rfl ?_
  refine st_getfi (Or.inl rfl) rfl hs2 rfl (pc' := 64) rfl ?_
  refine st_copyI (pc' := 67) rfl rfl (Nat.le_of_ble_eq_true rfl) hs9 hs10 hc11 (js := 0) (jd := 0) (jn := (h_i (w_ri h a1 (va_cpy (h_i h a0) (h_i h a1) 0 0 ((h_i h r0 3).toNatClampNeg))) r0 3).toNatClampNeg) (by decide) (by decide) rfl ?_
  exact k
theorem B_Gr_takeTold_67 {d : Nat} {h : PH} {Q : PQ} {r0 : Nat} {r1 : Nat} (hs0 : h_sh h r0 = some (0, 3)) (k : Q none (w_i (w_i (w_i h r0 5 (((1 : Int32) <<< ((h_i h r0 3) &&& 31)) - (1 : Int32))) r0 9 0) r0 6 ((h_i (w_i (w_i h r0 5 (((1 : Int32) <<< ((h_i h r0 3) &&& 31)) - (1 : Int32))) r0 9 0) r0 6) + (1 : Int32)))) : wpx d P_Gr_takeTold 67 [.ref r0, .ref r1] [] h Q := by
  refine st_aload (pc' := 68) rfl rfl rfl ?_
  refine st_ipush (pc' := 69) (v := 1) rfl rfl (by decide) ?_
  refine st_aload (pc' := 70) rfl rfl rfl ?_
  refine st_getfi (Or.inl rfl) rfl hs0 rfl (pc' := 73) rfl ?_
  refine st_ishl (pc' := 74) rfl rfl ?_
  refine st_ipush (pc' := 75) (v := 1) rfl rfl (by decide) ?_
  refine st_isub (pc' := 76) rfl rfl ?_
  refine st_putf (h' := w_i h r0 5 (((1 : Int32) <<< ((h_i h r0 3) &&& 31)) - (1 : Int32))) (Or.inl rfl) rfl hs0 rfl rfl rfl (pc' := 79) rfl ?_
  refine st_aload (pc' := 80) rfl rfl rfl ?_
  refine st_ipush (pc' := 81) (v := 0) rfl rfl (by decide) ?_
  refine st_putf (h' := w_i (w_i h r0 5 (((1 : Int32) <<< ((h_i h r0 3) &&& 31)) - (1 : Int32))) r0 9 0) (Or.inl rfl) rfl hs0 rfl rfl rfl (pc' := 84) rfl ?_
  refine st_aload (pc' := 85) rfl rfl rfl ?_
  refine st_dup (pc' := 86) rfl rfl rfl ?_
  refine st_getfi (Or.inl rfl) rfl hs0 rfl (pc' := 89) rfl ?_
  refine st_ipush (pc' := 90) (v := 1) rfl rfl (by decide) ?_
  refine st_iadd (pc' := 91) rfl rfl ?_
  refine st_putf (h' := w_i (w_i (w_i h r0 5 (((1 : Int32) <<< ((h_i h r0 3) &&& 31)) - (1 : Int32))) r0 9 0) r0 6 ((h_i (w_i (w_i h r0 5 (((1 : Int32) <<< ((h_i h r0 3) &&& 31)) - (1 : Int32))) r0 9 0) r0 6) + (1 : Int32))) (Or.inl rfl) rfl hs0 rfl rfl rfl (pc' := 94) rfl ?_
  exact st_return rfl k
theorem B_Gr_copyFrom_0 {d : Nat} {h : PH} {Q : PQ} {r0 : Nat} {r1 : Nat} {a0 : Nat} {a1 : Nat} {n2 : Nat} {n3 : Nat} {a4 : Nat} {a5 : Nat} {n6 : Nat} {n7 : Nat} (hs0 : h_sh h r1 = some (0, 3)) (hs1 : h_sh h r0 = some (0, 3)) (hr2 : h_r h r1 0 = some a0) (hr3 : h_r h r0 0 = some a1) (hs4 : h_sh h a0 = some (4, n2)) (hs5 : h_sh h a1 = some (4, n3)) (hc6 : (¬ (0 : Int32) < 0) ∧ (¬ (0 : Int32) < 0) ∧ (¬ (h_i (w_i h r0 3 (h_i h r1 3)) r0 3) < 0) ∧ (0 : Int32).toNatClampNeg + (h_i (w_i h r0 3 (h_i h r1 3)) r0 3).toNatClampNeg ≤ n2 ∧ (0 : Int32).toNatClampNeg + (h_i (w_i h r0 3 (h_i h r1 3)) r0 3).toNatClampNeg ≤ n3) (hr7 : h_r h r1 1 = some a4) (hr8 : h_r h r0 1 = some a5) (hs9 : h_sh h a4 = some (1, n6)) (hs10 : h_sh h a5 = some (1, n7)) (hc11 : (¬ (0 : Int32) < 0) ∧ (¬ (0 : Int32) < 0) ∧ (¬ (h_i (w_rl (w_i h r0 3 (h_i h r1 3)) a1 (va_cpy (h_l (w_i h r0 3 (h_i h r1 3)) a0) (h_l (w_i h r0 3 (h_i h r1 3)) a1) 0 0 ((h_i (w_i h r0 3 (h_i h r1 3)) r0 3).toNatClampNeg))) r0 3) < 0) ∧ (0 : Int32).toNatClampNeg + (h_i (w_rl (w_i h r0 3 (h_i h r1 3)) a1 (va_cpy (h_l (w_i h r0 3 (h_i h r1 3)) a0) (h_l (w_i h r0 3 (h_i h r1 3)) a1) 0 0 ((h_i (w_i h r0 3 (h_i h r1 3)) r0 3).toNatClampNeg))) r0 3).toNatClampNeg ≤ n6 ∧ (0 : Int32).toNatClampNeg + (h_i (w_rl (w_i h r0 3 (h_i h r1 3)) a1 (va_cpy (h_l (w_i h r0 3 (h_i h r1 3)) a0) (h_l (w_i h r0 3 (h_i h r1 3)) a1) 0 0 ((h_i (w_i h r0 3 (h_i h r1 3)) r0 3).toNatClampNeg))) r0 3).toNatClampNeg ≤ n7) (k : wpx d P_Gr_copyFrom 42 [.ref r0, .ref r1] [] (w_ri (w_rl (w_i h r0 3 (h_i h r1 3)) a1 (va_cpy (h_l (w_i h r0 3 (h_i h r1 3)) a0) (h_l (w_i h r0 3 (h_i h r1 3)) a1) 0 0 ((h_i (w_i h r0 3 (h_i h r1 3)) r0 3).toNatClampNeg))) a5 (va_cpy (h_i (w_rl (w_i h r0 3 (h_i h r1 3)) a1 (va_cpy (h_l (w_i h r0 3 (h_i h r1 3)) a0) (h_l (w_i h r0 3 (h_i h r1 3)) a1) 0 0 ((h_i (w_i h r0 3 (h_i h r1 3)) r0 3).toNatClampNeg))) a4) (h_i (w_rl (w_i h r0 3 (h_i h r1 3)) a1 (va_cpy (h_l (w_i h r0 3 (h_i h r1 3)) a0) (h_l (w_i h r0 3 (h_i h r1 3)) a1) 0 0 ((h_i (w_i h r0 3 (h_i h r1 3)) r0 3).toNatClampNeg))) a5) 0 0 ((h_i (w_rl (w_i h r0 3 (h_i h r1 3)) a1 (va_cpy (h_l (w_i h r0 3 (h_i h r1 3)) a0) (h_l (w_i h r0 3 (h_i h r1 3)) a1) 0 0 ((h_i (w_i h r0 3 (h_i h r1 3)) r0 3).toNatClampNeg))) r0 3).toNatClampNeg))) Q) : wpx d P_Gr_copyFrom 0 [.ref r0, .ref r1] [] h Q := by
  refine st_aload (pc' := 1) rfl rfl rfl ?_
  refine st_aload (pc' := 2) rfl rfl rfl ?_
  refine st_getfi (Or.inl rfl) rfl hs0 rfl (pc' := 5) rfl ?_
  refine st_putf (h' := w_i h r0 3 (h_i h r1 3)) (Or.inl rfl) rfl hs1 rfl rfl rfl (pc' := 8) rfl ?_
  refine st_aload (pc' := 9) rfl rfl rfl ?_
  refine st_getfr (x := some a0) (Or.inl rfl) rfl hs0 rfl hr2 (pc' := 12) rfl ?_
  refine st_ipush (pc' := 13) (v := 0) rfl rfl (by decide) ?_
  refine st_aload (pc' := 14) rfl rfl rfl ?_
  refine st_getfr (x := some a1) (Or.inl rfl) rfl hs1 rfl hr3 (pc' := 17) rfl ?_
  refine st_ipush (pc' := 18) (v := 0) rfl rfl (by decide) ?_
  refine st_aload (pc' := 19) rfl rfl rfl ?_
  refine st_getfi (Or.inl rfl) rfl hs1 rfl (pc' := 22) rfl ?_
  refine st_copyL (pc' := 25) rfl rfl (Nat.le_of_ble_eq_true rfl) hs4 hs5 hc6 (js := 0) (jd := 0) (jn := (h_i (w_i h r0 3 (h_i h r1 3)) r0 3).toNatClampNeg) (by decide) (by decide) rfl ?_
  refine st_aload (pc' := 26) rfl rfl rfl ?_
  refine st_getfr (x := some a4) (Or.inl rfl) rfl hs0 rfl hr7 (pc' := 29) rfl ?_
  refine st_ipush (pc' := 30) (v := 0) rfl rfl (by decide) ?_
  refine st_aload (pc' := 31) rfl rfl rfl ?_
  refine st_getfr (x := some a5) (Or.inl rfl) rfl hs1 rfl hr8 (pc' := 34) rfl ?_
  refine st_ipush (pc' := 35) (v := 0) rfl rfl (by decide) ?_
  refine st_aload (pc' := 36) rfl rfl rfl ?_
  refine st_getfi (Or.inl rfl) rfl hs1 rfl (pc' := 39) rfl ?_
  refine st_copyI (pc' := 42) rfl rfl (Nat.le_of_ble_eq_true rfl) hs9 hs10 hc11 (js := 0) (jd := 0) (jn := (h_i (w_rl (w_i h r0 3 (h_i h r1 3)) a1 (va_cpy (h_l (w_i h r0 3 (h_i h r1 3)) a0) (h_l (w_i h r0 3 (h_i h r1 3)) a1) 0 0 ((h_i (w_i h r0 3 (h_i h r1 3)) r0 3).toNatClampNeg))) r0 3).toNatClampNeg) (by decide) (by decide) rfl ?_
  exact k
theorem B_Gr_copyFrom_42 {d : Nat} {h : PH} {Q : PQ} {r0 : Nat} {r1 : Nat} (hs0 : h_sh h r1 = some (0, 3)) (hs1 : h_sh h r0 = some (0, 3)) (k : Q none (w_i (w_i h r0 5 (h_i h r1 5)) r0 6 ((h_i (w_i h r0 5 (h_i h r1 5)) r0 6) + (1 : Int32)))) : wpx d P_Gr_copyFrom 42 [.ref r0, .ref r1] [] h Q := by
  refine st_aload (pc' := 43) rfl rfl rfl ?_
  refine st_aload (pc' := 44) rfl rfl rfl ?_
  refine st_getfi (Or.inl rfl) rfl hs0 rfl (pc' := 47) rfl ?_
  refine st_putf (h' := w_i h r0 5 (h_i h r1 5)) (Or.inl rfl) rfl hs1 rfl rfl rfl (pc' := 50) rfl ?_
  refine st_aload (pc' := 51) rfl rfl rfl ?_
  refine st_dup (pc' := 52) rfl rfl rfl ?_
  refine st_getfi (Or.inl rfl) rfl hs1 rfl (pc' := 55) rfl ?_
  refine st_ipush (pc' := 56) (v := 1) rfl rfl (by decide) ?_
  refine st_iadd (pc' := 57) rfl rfl ?_
  refine st_putf (h' := w_i (w_i h r0 5 (h_i h r1 5)) r0 6 ((h_i (w_i h r0 5 (h_i h r1 5)) r0 6) + (1 : Int32))) (Or.inl rfl) rfl hs1 rfl rfl rfl (pc' := 60) rfl ?_
  exact st_return rfl k
theorem B_Gr_act_0 {d : Nat} {h : PH} {Q : PQ} {r0 : Nat} {x1 : Int32} {x2 : Int32} (hs0 : h_sh h r0 = some (0, 3)) (kt : (h_i h r0 9) < (12 : Int32) → wpx d P_Gr_act 45 [.ref r0, .int x1, .int x2] [] h Q) (kf : ¬ ((h_i h r0 9) < (12 : Int32)) → wpx d P_Gr_act 9 [.ref r0, .int x1, .int x2] [] h Q) : wpx d P_Gr_act 0 [.ref r0, .int x1, .int x2] [] h Q := by
  refine st_aload (pc' := 1) rfl rfl rfl ?_
  refine st_getfi (Or.inl rfl) rfl hs0 rfl (pc' := 4) rfl ?_
  refine st_ipush (pc' := 6) (v := 12) rfl rfl (by decide) ?_
  exact st_icmp_lt (pc' := 9) rfl rfl kt kf
theorem B_Gr_act_9 {d : Nat} {h : PH} {Q : PQ} {r0 : Nat} {x1 : Int32} {x2 : Int32} {a0 : Nat} {n1 : Nat} {a2 : Nat} {n3 : Nat} (hs0 : h_sh h r0 = some (0, 3)) (hr1 : h_r h r0 7 = some a0) (hs2 : h_sh h a0 = some (1, n1)) (hc3 : (¬ (1 : Int32) < 0) ∧ (¬ (0 : Int32) < 0) ∧ (¬ (11 : Int32) < 0) ∧ (1 : Int32).toNatClampNeg + (11 : Int32).toNatClampNeg ≤ n1 ∧ (0 : Int32).toNatClampNeg + (11 : Int32).toNatClampNeg ≤ n1) (hr4 : h_r h r0 8 = some a2) (hs5 : h_sh h a2 = some (1, n3)) (hc6 : (¬ (1 : Int32) < 0) ∧ (¬ (0 : Int32) < 0) ∧ (¬ (11 : Int32) < 0) ∧ (1 : Int32).toNatClampNeg + (11 : Int32).toNatClampNeg ≤ n3 ∧ (0 : Int32).toNatClampNeg + (11 : Int32).toNatClampNeg ≤ n3) (k : wpx d P_Gr_act 45 [.ref r0, .int x1, .int x2] [] (w_i (w_ri (w_ri h a0 (va_cpy (h_i h a0) (h_i h a0) 1 0 11)) a2 (va_cpy (h_i (w_ri h a0 (va_cpy (h_i h a0) (h_i h a0) 1 0 11)) a2) (h_i (w_ri h a0 (va_cpy (h_i h a0) (h_i h a0) 1 0 11)) a2) 1 0 11)) r0 9 11) Q) : wpx d P_Gr_act 9 [.ref r0, .int x1, .int x2] [] h Q := by
  refine st_aload (pc' := 10) rfl rfl rfl ?_
  refine st_getfr (x := some a0) (Or.inl rfl) rfl hs0 rfl hr1 (pc' := 13) rfl ?_
  refine st_ipush (pc' := 14) (v := 1) rfl rfl (by decide) ?_
  refine st_aload (pc' := 15) rfl rfl rfl ?_
  refine st_getfr (x := some a0) (Or.inl rfl) rfl hs0 rfl hr1 (pc' := 18) rfl ?_
  refine st_ipush (pc' := 19) (v := 0) rfl rfl (by decide) ?_
  refine st_ipush (pc' := 21) (v := 11) rfl rfl (by decide) ?_
  refine st_copyI (pc' := 24) rfl rfl (Nat.le_of_ble_eq_true rfl) hs2 hs2 hc3 (js := 1) (jd := 0) (jn := 11) (by decide) (by decide) (by decide) ?_
  refine st_aload (pc' := 25) rfl rfl rfl ?_
  refine st_getfr (x := some a2) (Or.inl rfl) rfl hs0 rfl hr4 (pc' := 28) rfl ?_
  refine st_ipush (pc' := 29) (v := 1) rfl rfl (by decide) ?_
  refine st_aload (pc' := 30) rfl rfl rfl ?_
  refine st_getfr (x := some a2) (Or.inl rfl) rfl hs0 rfl hr4 (pc' := 33) rfl ?_
  refine st_ipush (pc' := 34) (v := 0) rfl rfl (by decide) ?_
  refine st_ipush (pc' := 36) (v := 11) rfl rfl (by decide) ?_
  refine st_copyI (pc' := 39) rfl rfl (Nat.le_of_ble_eq_true rfl) hs5 hs5 hc6 (js := 1) (jd := 0) (jn := 11) (by decide) (by decide) (by decide) ?_
  refine st_aload (pc' := 40) rfl rfl rfl ?_
  refine st_ipush (pc' := 42) (v := 11) rfl rfl (by decide) ?_
  refine st_putf (h' := w_i (w_ri (w_ri h a0 (va_cpy (h_i h a0) (h_i h a0) 1 0 11)) a2 (va_cpy (h_i (w_ri h a0 (va_cpy (h_i h a0) (h_i h a0) 1 0 11)) a2) (h_i (w_ri h a0 (va_cpy (h_i h a0) (h_i h a0) 1 0 11)) a2) 1 0 11)) r0 9 11) (Or.inl rfl) rfl hs0 rfl rfl rfl (pc' := 45) rfl ?_
  exact k
theorem B_Gr_act_45 {d : Nat} {h : PH} {Q : PQ} {r0 : Nat} {x1 : Int32} {x2 : Int32} {a0 : Nat} {n1 : Nat} {a2 : Nat} {n3 : Nat} (hs0 : h_sh h r0 = some (0, 3)) (hr1 : h_r h r0 7 = some a0) (hs2 : h_sh h a0 = some (1, n1)) (hb3 : vp_in (h_i h r0 9) n1) (hr4 : h_r h r0 8 = some a2) (hs5 : h_sh h a2 = some (1, n3)) (hb6 : vp_in (h_i (w_i h a0 ((h_i h r0 9).toNatClampNeg) x1) r0 9) n3) (k : wpx d P_Gr_act 75 [.ref r0, .int x1, .int x2] [] (w_i (w_i (w_i h a0 ((h_i h r0 9).toNatClampNeg) x1) a2 ((h_i (w_i h a0 ((h_i h r0 9).toNatClampNeg) x1) r0 9).toNatClampNeg) x2) r0 9 ((h_i (w_i (w_i h a0 ((h_i h r0 9).toNatClampNeg) x1) a2 ((h_i (w_i h a0 ((h_i h r0 9).toNatClampNeg) x1) r0 9).toNatClampNeg) x2) r0 9) + (1 : Int32))) Q) : wpx d P_Gr_act 45 [.ref r0, .int x1, .int x2] [] h Q := by
  refine st_aload (pc' := 46) rfl rfl rfl ?_
  refine st_getfr (x := some a0) (Or.inl rfl) rfl hs0 rfl hr1 (pc' := 49) rfl ?_
  refine st_aload (pc' := 50) rfl rfl rfl ?_
  refine st_getfi (Or.inl rfl) rfl hs0 rfl (pc' := 53) rfl ?_
  refine st_iload (pc' := 54) rfl rfl rfl ?_
  refine st_iastore rfl hs2 hb3 (j := (h_i h r0 9).toNatClampNeg) rfl (pc' := 55) rfl ?_
  refine st_aload (pc' := 56) rfl rfl rfl ?_
  refine st_getfr (x := some a2) (Or.inl rfl) rfl hs0 rfl hr4 (pc' := 59) rfl ?_
  refine st_aload (pc' := 60) rfl rfl rfl ?_
  refine st_getfi (Or.inl rfl) rfl hs0 rfl (pc' := 63) rfl ?_
  refine st_iload (pc' := 64) rfl rfl rfl ?_
  refine st_iastore rfl hs5 hb6 (j := (h_i (w_i h a0 ((h_i h r0 9).toNatClampNeg) x1) r0 9).toNatClampNeg) rfl (pc' := 65) rfl ?_
  refine st_aload (pc' := 66) rfl rfl rfl ?_
  refine st_dup (pc' := 67) rfl rfl rfl ?_
  refine st_getfi (Or.inl rfl) rfl hs0 rfl (pc' := 70) rfl ?_
  refine st_ipush (pc' := 71) (v := 1) rfl rfl (by decide) ?_
  refine st_iadd (pc' := 72) rfl rfl ?_
  refine st_putf (h' := w_i (w_i (w_i h a0 ((h_i h r0 9).toNatClampNeg) x1) a2 ((h_i (w_i h a0 ((h_i h r0 9).toNatClampNeg) x1) r0 9).toNatClampNeg) x2) r0 9 ((h_i (w_i (w_i h a0 ((h_i h r0 9).toNatClampNeg) x1) a2 ((h_i (w_i h a0 ((h_i h r0 9).toNatClampNeg) x1) r0 9).toNatClampNeg) x2) r0 9) + (1 : Int32))) (Or.inl rfl) rfl hs0 rfl rfl rfl (pc' := 75) rfl ?_
  exact k
theorem B_Gr_act_81 {d : Nat} {h : PH} {Q : PQ} {r0 : Nat} {x1 : Int32} {x2 : Int32}  (k : Q none h) : wpx d P_Gr_act 81 [.ref r0, .int x1, .int x2] [] h Q := by
  exact st_return rfl k
theorem B_Gr_act_75 {d : Nat} {h : PH} {Q : PQ} {r0 : Nat} {x1 : Int32} {x2 : Int32} (hs0 : h_sh h r0 = some (0, 3)) (k : wpm d 40 [.ref r0, .int x1, .int x2] h (fun r h' => wpx d P_Gr_act 81 [.ref r0, .int x1, .int x2] (r.toList ++ []) h' Q)) : wpx d P_Gr_act 75 [.ref r0, .int x1, .int x2] [] h Q := by
  refine st_aload (pc' := 76) rfl rfl rfl ?_
  refine st_iload (pc' := 77) rfl rfl rfl ?_
  refine st_iload (pc' := 78) rfl rfl rfl ?_
  exact st_call (pc' := 81) (as := [.ref r0, .int x1, .int x2]) (rest := []) rfl rfl (Nat.le_of_ble_eq_true rfl) rfl rfl (Nat.le_of_ble_eq_true rfl) (kd := 1) (o := 3) rfl rfl (beq_iff_eq.mpr hs0) k
theorem B_Gr_takeBackAct_0 {d : Nat} {h : PH} {Q : PQ} {r0 : Nat} {v1 : Value} {v2 : Value} (hs0 : h_sh h r0 = some (0, 3)) (kt : (1 : Int32) ≤ (h_i h r0 9) → wpx d P_Gr_takeBackAct 10 [.ref r0, v1, v2] [] h Q) (kf : ¬ ((1 : Int32) ≤ (h_i h r0 9)) → wpx d P_Gr_takeBackAct 8 [.ref r0, v1, v2] [] h Q) : wpx d P_Gr_takeBackAct 0 [.ref r0, v1, v2] [] h Q := by
  refine st_aload (pc' := 1) rfl rfl rfl ?_
  refine st_getfi (Or.inl rfl) rfl hs0 rfl (pc' := 4) rfl ?_
  refine st_ipush (pc' := 5) (v := 1) rfl rfl (by decide) ?_
  exact st_icmp_ge (pc' := 8) rfl rfl kt kf
theorem B_Gr_takeBackAct_8 {d : Nat} {h : PH} {Q : PQ} {r0 : Nat} {v1 : Value} {v2 : Value}  (k : Q (some (.int 0)) h) : wpx d P_Gr_takeBackAct 8 [.ref r0, v1, v2] [] h Q := by
  refine st_ipush (pc' := 9) (v := 0) rfl rfl (by decide) ?_
  exact st_ireturn (ty := .boolean) rfl rfl (by decide) k
theorem B_Gr_takeBackAct_10 {d : Nat} {h : PH} {Q : PQ} {r0 : Nat} {v1 : Value} {v2 : Value} {a0 : Nat} {n1 : Nat} {a2 : Nat} {n3 : Nat} (hs0 : h_sh h r0 = some (0, 3)) (hr1 : h_r h r0 7 = some a0) (hs2 : h_sh h a0 = some (1, n1)) (hb3 : vp_in (h_i (w_i h r0 9 ((h_i h r0 9) - (1 : Int32))) r0 9) n1) (hr4 : h_r h r0 8 = some a2) (hs5 : h_sh h a2 = some (1, n3)) (hb6 : vp_in (h_i (w_i h r0 9 ((h_i h r0 9) - (1 : Int32))) r0 9) n3) (kt : ¬ ((h_i (w_i h r0 9 ((h_i h r0 9) - (1 : Int32))) a0 (h_i (w_i h r0 9 ((h_i h r0 9) - (1 : Int32))) r0 9).toNatClampNeg) = (2 : Int32)) → wpx d P_Gr_takeBackAct 54 [.ref r0, .int (h_i (w_i h r0 9 ((h_i h r0 9) - (1 : Int32))) a0 (h_i (w_i h r0 9 ((h_i h r0 9) - (1 : Int32))) r0 9).toNatClampNeg), .int (h_i (w_i h r0 9 ((h_i h r0 9) - (1 : Int32))) a2 (h_i (w_i h r0 9 ((h_i h r0 9) - (1 : Int32))) r0 9).toNatClampNeg)] [] (w_i h r0 9 ((h_i h r0 9) - (1 : Int32))) Q) (kf : (h_i (w_i h r0 9 ((h_i h r0 9) - (1 : Int32))) a0 (h_i (w_i h r0 9 ((h_i h r0 9) - (1 : Int32))) r0 9).toNatClampNeg) = (2 : Int32) → wpx d P_Gr_takeBackAct 45 [.ref r0, .int (h_i (w_i h r0 9 ((h_i h r0 9) - (1 : Int32))) a0 (h_i (w_i h r0 9 ((h_i h r0 9) - (1 : Int32))) r0 9).toNatClampNeg), .int (h_i (w_i h r0 9 ((h_i h r0 9) - (1 : Int32))) a2 (h_i (w_i h r0 9 ((h_i h r0 9) - (1 : Int32))) r0 9).toNatClampNeg)] [] (w_i h r0 9 ((h_i h r0 9) - (1 : Int32))) Q) : wpx d P_Gr_takeBackAct 10 [.ref r0, v1, v2] [] h Q := by
  refine st_aload (pc' := 11) rfl rfl rfl ?_
  refine st_dup (pc' := 12) rfl rfl rfl ?_
  refine st_getfi (Or.inl rfl) rfl hs0 rfl (pc' := 15) rfl ?_
  refine st_ipush (pc' := 16) (v := 1) rfl rfl (by decide) ?_
  refine st_isub (pc' := 17) rfl rfl ?_
  refine st_putf (h' := w_i h r0 9 ((h_i h r0 9) - (1 : Int32))) (Or.inl rfl) rfl hs0 rfl rfl rfl (pc' := 20) rfl ?_
  refine st_aload (pc' := 21) rfl rfl rfl ?_
  refine st_getfr (x := some a0) (Or.inl rfl) rfl hs0 rfl hr1 (pc' := 24) rfl ?_
  refine st_aload (pc' := 25) rfl rfl rfl ?_
  refine st_getfi (Or.inl rfl) rfl hs0 rfl (pc' := 28) rfl ?_
  refine st_iaload rfl hs2 hb3 (j := (h_i (w_i h r0 9 ((h_i h r0 9) - (1 : Int32))) r0 9).toNatClampNeg) rfl (pc' := 29) rfl ?_
  refine st_istore (pc' := 30) (ls' := [.ref r0, .int (h_i (w_i h r0 9 ((h_i h r0 9) - (1 : Int32))) a0 (h_i (w_i h r0 9 ((h_i h r0 9) - (1 : Int32))) r0 9).toNatClampNeg), v2]) rfl rfl (Nat.le_of_ble_eq_true rfl) rfl ?_
  refine st_aload (pc' := 31) rfl rfl rfl ?_
  refine st_getfr (x := some a2) (Or.inl rfl) rfl hs0 rfl hr4 (pc' := 34) rfl ?_
  refine st_aload (pc' := 35) rfl rfl rfl ?_
  refine st_getfi (Or.inl rfl) rfl hs0 rfl (pc' := 38) rfl ?_
  refine st_iaload rfl hs5 hb6 (j := (h_i (w_i h r0 9 ((h_i h r0 9) - (1 : Int32))) r0 9).toNatClampNeg) rfl (pc' := 39) rfl ?_
  refine st_istore (pc' := 40) (ls' := [.ref r0, .int (h_i (w_i h r0 9 ((h_i h r0 9) - (1 : Int32))) a0 (h_i (w_i h r0 9 ((h_i h r0 9) - (1 : Int32))) r0 9).toNatClampNeg), .int (h_i (w_i h r0 9 ((h_i h r0 9) - (1 : Int32))) a2 (h_i (w_i h r0 9 ((h_i h r0 9) - (1 : Int32))) r0 9).toNatClampNeg)]) rfl rfl (Nat.le_of_ble_eq_true rfl) rfl ?_
  refine st_iload (pc' := 41) rfl rfl rfl ?_
  refine st_ipush (pc' := 42) (v := 2) rfl rfl (by decide) ?_
  exact st_icmp_ne (pc' := 45) rfl rfl kt kf
theorem B_Gr_takeBackAct_45 {d : Nat} {h : PH} {Q : PQ} {r0 : Nat} {x1 : Int32} {x2 : Int32} (hs0 : h_sh h r0 = some (0, 3)) (k : wpm d 40 [.ref r0, .int x1, .int x2] h (fun r h' => wpx d P_Gr_takeBackAct 51 [.ref r0, .int x1, .int x2] (r.toList ++ []) h' Q)) : wpx d P_Gr_takeBackAct 45 [.ref r0, .int x1, .int x2] [] h Q := by
  refine st_aload (pc' := 46) rfl rfl rfl ?_
  refine st_iload (pc' := 47) rfl rfl rfl ?_
  refine st_iload (pc' := 48) rfl rfl rfl ?_
  exact st_call (pc' := 51) (as := [.ref r0, .int x1, .int x2]) (rest := []) rfl rfl (Nat.le_of_ble_eq_true rfl) rfl rfl (Nat.le_of_ble_eq_true rfl) (kd := 1) (o := 3) rfl rfl (beq_iff_eq.mpr hs0) k
theorem B_Gr_takeBackAct_51 {d : Nat} {h : PH} {Q : PQ} {r0 : Nat} {x1 : Int32} {x2 : Int32}  (k : wpx d P_Gr_takeBackAct 60 [.ref r0, .int x1, .int x2] [] h Q) : wpx d P_Gr_takeBackAct 51 [.ref r0, .int x1, .int x2] [] h Q := by
  exact st_goto rfl k
theorem B_Gr_takeBackAct_54 {d : Nat} {h : PH} {Q : PQ} {r0 : Nat} {x1 : Int32} {x2 : Int32} (hs0 : h_sh h r0 = some (0, 3)) (k : wpm d 41 [.ref r0, .int x1, .int x2] h (fun r h' => wpx d P_Gr_takeBackAct 60 [.ref r0, .int x1, .int x2] (r.toList ++ []) h' Q)) : wpx d P_Gr_takeBackAct 54 [.ref r0, .int x1, .int x2] [] h Q := by
  refine st_aload (pc' := 55) rfl rfl rfl ?_
  refine st_iload (pc' := 56) rfl rfl rfl ?_
  refine st_iload (pc' := 57) rfl rfl rfl ?_
  exact st_call (pc' := 60) (as := [.ref r0, .int x1, .int x2]) (rest := []) rfl rfl (Nat.le_of_ble_eq_true rfl) rfl rfl (Nat.le_of_ble_eq_true rfl) (kd := 1) (o := 3) rfl rfl (beq_iff_eq.mpr hs0) k
theorem B_Gr_takeBackAct_60 {d : Nat} {h : PH} {Q : PQ} {r0 : Nat} {x1 : Int32} {x2 : Int32}  (k : Q (some (.int 1)) h) : wpx d P_Gr_takeBackAct 60 [.ref r0, .int x1, .int x2] [] h Q := by
  refine st_ipush (pc' := 61) (v := 1) rfl rfl (by decide) ?_
  exact st_ireturn (ty := .boolean) rfl rfl (by decide) k
theorem B_Gr_change_0 {d : Nat} {h : PH} {Q : PQ} {r0 : Nat} {x1 : Int32} {x2 : Int32} {v3 : Value} (hs0 : h_sh h r0 = some (0, 3)) (kt : ¬ (x1 = (2 : Int32)) → wpx d P_Gr_change 26 [.ref r0, .int x1, .int x2, v3] [] (w_i h r0 6 ((h_i h r0 6) + (1 : Int32))) Q) (kf : x1 = (2 : Int32) → wpx d P_Gr_change 15 [.ref r0, .int x1, .int x2, v3] [] (w_i h r0 6 ((h_i h r0 6) + (1 : Int32))) Q) : wpx d P_Gr_change 0 [.ref r0, .int x1, .int x2, v3] [] h Q := by
  refine st_aload (pc' := 1) rfl rfl rfl ?_
  refine st_dup (pc' := 2) rfl rfl rfl ?_
  refine st_getfi (Or.inl rfl) rfl hs0 rfl (pc' := 5) rfl ?_
  refine st_ipush (pc' := 6) (v := 1) rfl rfl (by decide) ?_
  refine st_iadd (pc' := 7) rfl rfl ?_
  refine st_putf (h' := w_i h r0 6 ((h_i h r0 6) + (1 : Int32))) (Or.inl rfl) rfl hs0 rfl rfl rfl (pc' := 10) rfl ?_
  refine st_iload (pc' := 11) rfl rfl rfl ?_
  refine st_ipush (pc' := 12) (v := 2) rfl rfl (by decide) ?_
  exact st_icmp_ne (pc' := 15) rfl rfl kt kf
theorem B_Gr_change_15 {d : Nat} {h : PH} {Q : PQ} {r0 : Nat} {x1 : Int32} {x2 : Int32} {v3 : Value} (hs0 : h_sh h r0 = some (0, 3)) (k : Q none (w_i h r0 5 ((h_i h r0 5) ^^^ x2))) : wpx d P_Gr_change 15 [.ref r0, .int x1, .int x2, v3] [] h Q := by
  refine st_aload (pc' := 16) rfl rfl rfl ?_
  refine st_dup (pc' := 17) rfl rfl rfl ?_
  refine st_getfi (Or.inl rfl) rfl hs0 rfl (pc' := 20) rfl ?_
  refine st_iload (pc' := 21) rfl rfl rfl ?_
  refine st_ixor (pc' := 22) rfl rfl ?_
  refine st_putf (h' := w_i h r0 5 ((h_i h r0 5) ^^^ x2)) (Or.inl rfl) rfl hs0 rfl rfl rfl (pc' := 25) rfl ?_
  exact st_return rfl k
theorem B_Gr_change_26 {d : Nat} {h : PH} {Q : PQ} {r0 : Nat} {x1 : Int32} {x2 : Int32} {v3 : Value}  (k : wpx d P_Gr_change 28 [.ref r0, .int x1, .int x2, .int 0] [] h Q) : wpx d P_Gr_change 26 [.ref r0, .int x1, .int x2, v3] [] h Q := by
  refine st_ipush (pc' := 27) (v := 0) rfl rfl (by decide) ?_
  refine st_istore (pc' := 28) (ls' := [.ref r0, .int x1, .int x2, .int 0]) rfl rfl (Nat.le_of_ble_eq_true rfl) rfl ?_
  exact k
theorem B_Gr_change_28 {d : Nat} {h : PH} {Q : PQ} {r0 : Nat} {x1 : Int32} {x2 : Int32} {x3 : Int32} (hs0 : h_sh h r0 = some (0, 3)) (kt : (h_i h r0 3) ≤ x3 → wpx d P_Gr_change 117 [.ref r0, .int x1, .int x2, .int x3] [] h Q) (kf : ¬ ((h_i h r0 3) ≤ x3) → wpx d P_Gr_change 36 [.ref r0, .int x1, .int x2, .int x3] [] h Q) : wpx d P_Gr_change 28 [.ref r0, .int x1, .int x2, .int x3] [] h Q := by
  refine st_iload (pc' := 29) rfl rfl rfl ?_
  refine st_aload (pc' := 30) rfl rfl rfl ?_
  refine st_getfi (Or.inl rfl) rfl hs0 rfl (pc' := 33) rfl ?_
  exact st_icmp_ge (pc' := 36) rfl rfl kt kf
theorem B_Gr_change_36 {d : Nat} {h : PH} {Q : PQ} {r0 : Nat} {x1 : Int32} {x2 : Int32} {x3 : Int32}  (kt : ¬ ((((x2.toUInt32 >>> (x3.toUInt32 &&& Int32.toUInt32 31)).toInt32) &&& (1 : Int32)) = (1 : Int32)) → wpx d P_Gr_change 111 [.ref r0, .int x1, .int x2, .int x3] [] h Q) (kf : (((x2.toUInt32 >>> (x3.toUInt32 &&& Int32.toUInt32 31)).toInt32) &&& (1 : Int32)) = (1 : Int32) → wpx d P_Gr_change 45 [.ref r0, .int x1, .int x2, .int x3] [] h Q) : wpx d P_Gr_change 36 [.ref r0, .int x1, .int x2, .int x3] [] h Q := by
  refine st_iload (pc' := 37) rfl rfl rfl ?_
  refine st_iload (pc' := 38) rfl rfl rfl ?_
  refine st_iushr (pc' := 39) rfl rfl ?_
  refine st_ipush (pc' := 40) (v := 1) rfl rfl (by decide) ?_
  refine st_iand (pc' := 41) rfl rfl ?_
  refine st_ipush (pc' := 42) (v := 1) rfl rfl (by decide) ?_
  exact st_icmp_ne (pc' := 45) rfl rfl kt kf
theorem B_Gr_change_45 {d : Nat} {h : PH} {Q : PQ} {r0 : Nat} {x1 : Int32} {x2 : Int32} {x3 : Int32} {a0 : Nat} {n1 : Nat} (hs0 : h_sh h r0 = some (0, 3)) (hr1 : h_r h r0 1 = some a0) (hs2 : h_sh h a0 = some (1, n1)) (hb3 : vp_in x3 n1) (kt : (7 : Int32) ≤ (h_i h a0 x3.toNatClampNeg) → wpx d P_Gr_change 111 [.ref r0, .int x1, .int x2, .int x3] [] h Q) (kf : ¬ ((7 : Int32) ≤ (h_i h a0 x3.toNatClampNeg)) → wpx d P_Gr_change 56 [.ref r0, .int x1, .int x2, .int x3] [] h Q) : wpx d P_Gr_change 45 [.ref r0, .int x1, .int x2, .int x3] [] h Q := by
  refine st_aload (pc' := 46) rfl rfl rfl ?_
  refine st_getfr (x := some a0) (Or.inl rfl) rfl hs0 rfl hr1 (pc' := 49) rfl ?_
  refine st_iload (pc' := 50) rfl rfl rfl ?_
  refine st_iaload rfl hs2 hb3 (j := x3.toNatClampNeg) rfl (pc' := 51) rfl ?_
  refine st_ipush (pc' := 53) (v := 7) rfl rfl (by decide) ?_
  exact st_icmp_ge (pc' := 56) rfl rfl kt kf
theorem B_Gr_change_56 {d : Nat} {h : PH} {Q : PQ} {r0 : Nat} {x1 : Int32} {x2 : Int32} {x3 : Int32} {a0 : Nat} (hs0 : h_sh h r0 = some (0, 3)) (hr1 : h_r h r0 0 = some a0) (kt : ¬ (x1 = (1 : Int32)) → wpx d P_Gr_change 88 [.ref r0, .int x1, .int x2, .int x3] [.int x3, .ref a0] h Q) (kf : x1 = (1 : Int32) → wpx d P_Gr_change 66 [.ref r0, .int x1, .int x2, .int x3] [.int x3, .ref a0] h Q) : wpx d P_Gr_change 56 [.ref r0, .int x1, .int x2, .int x3] [] h Q := by
  refine st_aload (pc' := 57) rfl rfl rfl ?_
  refine st_getfr (x := some a0) (Or.inl rfl) rfl hs0 rfl hr1 (pc' := 60) rfl ?_
  refine st_iload (pc' := 61) rfl rfl rfl ?_
  refine st_iload (pc' := 62) rfl rfl rfl ?_
  refine st_ipush (pc' := 63) (v := 1) rfl rfl (by decide) ?_
  exact st_icmp_ne (pc' := 66) rfl rfl kt kf
theorem B_Gr_change_66 {d : Nat} {h : PH} {Q : PQ} {r0 : Nat} {x1 : Int32} {x2 : Int32} {x3 : Int32} {q0 : Nat} {s1 : Int32} {a0 : Nat} {n1 : Nat} {a2 : Nat} {n3 : Nat} (hs0 : h_sh h r0 = some (0, 3)) (hr1 : h_r h r0 1 = some a0) (hs2 : h_sh h a0 = some (1, n1)) (hb3 : vp_in x3 n1) (hr4 : h_r h r0 0 = some a2) (hs5 : h_sh h a2 = some (4, n3)) (hb6 : vp_in x3 n3) (k : wpx d P_Gr_change 100 [.ref r0, .int x1, .int x2, .int x3] [.long (((27 : Int64) <<< (((5 : Int32) * (h_i h a0 x3.toNatClampNeg)).toInt64 &&& 63)) ||| (h_l h a2 x3.toNatClampNeg)), .int s1, .ref q0] h Q) : wpx d P_Gr_change 66 [.ref r0, .int x1, .int x2, .int x3] [.int s1, .ref q0] h Q := by
  refine st_ldc2 (pc' := 69) (v := 27) rfl rfl (by decide) ?_
  refine st_ipush (pc' := 70) (v := 5) rfl rfl (by decide) ?_
  refine st_aload (pc' := 71) rfl rfl rfl ?_
  refine st_getfr (x := some a0) (Or.inl rfl) rfl hs0 rfl hr1 (pc' := 74) rfl ?_
  refine st_iload (pc' := 75) rfl rfl rfl ?_
  refine st_iaload rfl hs2 hb3 (j := x3.toNatClampNeg) rfl (pc' := 76) rfl ?_
  refine st_imul (pc' := 77) rfl rfl ?_
  refine st_lshl (pc' := 78) rfl rfl ?_
  refine st_aload (pc' := 79) rfl rfl rfl ?_
  refine st_getfr (x := some a2) (Or.inl rfl) rfl hs0 rfl hr4 (pc' := 82) rfl ?_
  refine st_iload (pc' := 83) rfl rfl rfl ?_
  refine st_laload rfl hs5 hb6 (j := x3.toNatClampNeg) rfl (pc' := 84) rfl ?_
  refine st_lor (pc' := 85) rfl rfl ?_
  exact st_goto rfl k
theorem B_Gr_change_88 {d : Nat} {h : PH} {Q : PQ} {r0 : Nat} {x1 : Int32} {x2 : Int32} {x3 : Int32} {q0 : Nat} {s1 : Int32} {a0 : Nat} {n1 : Nat} (hs0 : h_sh h r0 = some (0, 3)) (hr1 : h_r h r0 0 = some a0) (hs2 : h_sh h a0 = some (4, n1)) (hb3 : vp_in x3 n1) (k : wpx d P_Gr_change 100 [.ref r0, .int x1, .int x2, .int x3] [.long (((h_l h a0 x3.toNatClampNeg) <<< ((5 : Int32).toInt64 &&& 63)) ||| (27 : Int64)), .int s1, .ref q0] h Q) : wpx d P_Gr_change 88 [.ref r0, .int x1, .int x2, .int x3] [.int s1, .ref q0] h Q := by
  refine st_aload (pc' := 89) rfl rfl rfl ?_
  refine st_getfr (x := some a0) (Or.inl rfl) rfl hs0 rfl hr1 (pc' := 92) rfl ?_
  refine st_iload (pc' := 93) rfl rfl rfl ?_
  refine st_laload rfl hs2 hb3 (j := x3.toNatClampNeg) rfl (pc' := 94) rfl ?_
  refine st_ipush (pc' := 95) (v := 5) rfl rfl (by decide) ?_
  refine st_lshl (pc' := 96) rfl rfl ?_
  refine st_ldc2 (pc' := 99) (v := 27) rfl rfl (by decide) ?_
  refine st_lor (pc' := 100) rfl rfl ?_
  exact k
theorem B_Gr_change_100 {d : Nat} {h : PH} {Q : PQ} {r0 : Nat} {x1 : Int32} {x2 : Int32} {x3 : Int32} {q0 : Nat} {s1 : Int32} {t2 : Int64} {n0 : Nat} {a1 : Nat} {n2 : Nat} (hs0 : h_sh h q0 = some (4, n0)) (hb1 : vp_in s1 n0) (hs2 : h_sh h r0 = some (0, 3)) (hr3 : h_r h r0 1 = some a1) (hs4 : h_sh h a1 = some (1, n2)) (hb5 : vp_in x3 n2) (k : wpx d P_Gr_change 111 [.ref r0, .int x1, .int x2, .int x3] [] (w_i (w_l h q0 s1.toNatClampNeg t2) a1 x3.toNatClampNeg ((h_i (w_l h q0 s1.toNatClampNeg t2) a1 x3.toNatClampNeg) + (1 : Int32))) Q) : wpx d P_Gr_change 100 [.ref r0, .int x1, .int x2, .int x3] [.long t2, .int s1, .ref q0] h Q := by
  refine st_lastore rfl hs0 hb1 (j := s1.toNatClampNeg) rfl (pc' := 101) rfl ?_
  refine st_aload (pc' := 102) rfl rfl rfl ?_
  refine st_getfr (x := some a1) (Or.inl rfl) rfl hs2 rfl hr3 (pc' := 105) rfl ?_
  refine st_iload (pc' := 106) rfl rfl rfl ?_
  refine st_dup211 (pc' := 107) rfl rfl ⟨rfl, rfl⟩ ?_
  refine st_iaload rfl hs4 hb5 (j := x3.toNatClampNeg) rfl (pc' := 108) rfl ?_
  refine st_ipush (pc' := 109) (v := 1) rfl rfl (by decide) ?_
  refine st_iadd (pc' := 110) rfl rfl ?_
  refine st_iastore rfl hs4 hb5 (j := x3.toNatClampNeg) rfl (pc' := 111) rfl ?_
  exact k
theorem B_Gr_change_111 {d : Nat} {h : PH} {Q : PQ} {r0 : Nat} {x1 : Int32} {x2 : Int32} {x3 : Int32}  (k : wpx d P_Gr_change 28 [.ref r0, .int x1, .int x2, .int (x3 + 1)] [] h Q) : wpx d P_Gr_change 111 [.ref r0, .int x1, .int x2, .int x3] [] h Q := by
  refine st_iinc (pc' := 114) (v := 1) (ls' := [.ref r0, .int x1, .int x2, .int (x3 + 1)]) rfl rfl rfl (by decide) rfl ?_
  exact st_goto rfl k
theorem B_Gr_change_117 {d : Nat} {h : PH} {Q : PQ} {r0 : Nat} {x1 : Int32} {x2 : Int32} {x3 : Int32}  (k : Q none h) : wpx d P_Gr_change 117 [.ref r0, .int x1, .int x2, .int x3] [] h Q := by
  exact st_return rfl k
theorem B_Gr_unmark_0 {d : Nat} {h : PH} {Q : PQ} {r0 : Nat} {x1 : Int32} {x2 : Int32} {v3 : Value} (hs0 : h_sh h r0 = some (0, 3)) (k : wpx d P_Gr_unmark 12 [.ref r0, .int x1, .int x2, .int 0] [] (w_i h r0 6 ((h_i h r0 6) + (1 : Int32))) Q) : wpx d P_Gr_unmark 0 [.ref r0, .int x1, .int x2, v3] [] h Q := by
  refine st_aload (pc' := 1) rfl rfl rfl ?_
  refine st_dup (pc' := 2) rfl rfl rfl ?_
  refine st_getfi (Or.inl rfl) rfl hs0 rfl (pc' := 5) rfl ?_
  refine st_ipush (pc' := 6) (v := 1) rfl rfl (by decide) ?_
  refine st_iadd (pc' := 7) rfl rfl ?_
  refine st_putf (h' := w_i h r0 6 ((h_i h r0 6) + (1 : Int32))) (Or.inl rfl) rfl hs0 rfl rfl rfl (pc' := 10) rfl ?_
  refine st_ipush (pc' := 11) (v := 0) rfl rfl (by decide) ?_
  refine st_istore (pc' := 12) (ls' := [.ref r0, .int x1, .int x2, .int 0]) rfl rfl (Nat.le_of_ble_eq_true rfl) rfl ?_
  exact k
theorem B_Gr_unmark_12 {d : Nat} {h : PH} {Q : PQ} {r0 : Nat} {x1 : Int32} {x2 : Int32} {x3 : Int32} (hs0 : h_sh h r0 = some (0, 3)) (kt : (h_i h r0 3) ≤ x3 → wpx d P_Gr_unmark 92 [.ref r0, .int x1, .int x2, .int x3] [] h Q) (kf : ¬ ((h_i h r0 3) ≤ x3) → wpx d P_Gr_unmark 20 [.ref r0, .int x1, .int x2, .int x3] [] h Q) : wpx d P_Gr_unmark 12 [.ref r0, .int x1, .int x2, .int x3] [] h Q := by
  refine st_iload (pc' := 13) rfl rfl rfl ?_
  refine st_aload (pc' := 14) rfl rfl rfl ?_
  refine st_getfi (Or.inl rfl) rfl hs0 rfl (pc' := 17) rfl ?_
  exact st_icmp_ge (pc' := 20) rfl rfl kt kf
theorem B_Gr_unmark_20 {d : Nat} {h : PH} {Q : PQ} {r0 : Nat} {x1 : Int32} {x2 : Int32} {x3 : Int32}  (kt : ¬ ((((x2.toUInt32 >>> (x3.toUInt32 &&& Int32.toUInt32 31)).toInt32) &&& (1 : Int32)) = (1 : Int32)) → wpx d P_Gr_unmark 86 [.ref r0, .int x1, .int x2, .int x3] [] h Q) (kf : (((x2.toUInt32 >>> (x3.toUInt32 &&& Int32.toUInt32 31)).toInt32) &&& (1 : Int32)) = (1 : Int32) → wpx d P_Gr_unmark 29 [.ref r0, .int x1, .int x2, .int x3] [] h Q) : wpx d P_Gr_unmark 20 [.ref r0, .int x1, .int x2, .int x3] [] h Q := by
  refine st_iload (pc' := 21) rfl rfl rfl ?_
  refine st_iload (pc' := 22) rfl rfl rfl ?_
  refine st_iushr (pc' := 23) rfl rfl ?_
  refine st_ipush (pc' := 24) (v := 1) rfl rfl (by decide) ?_
  refine st_iand (pc' := 25) rfl rfl ?_
  refine st_ipush (pc' := 26) (v := 1) rfl rfl (by decide) ?_
  exact st_icmp_ne (pc' := 29) rfl rfl kt kf
theorem B_Gr_unmark_29 {d : Nat} {h : PH} {Q : PQ} {r0 : Nat} {x1 : Int32} {x2 : Int32} {x3 : Int32} {a0 : Nat} {n1 : Nat} (hs0 : h_sh h r0 = some (0, 3)) (hr1 : h_r h r0 1 = some a0) (hs2 : h_sh h a0 = some (1, n1)) (hb3 : vp_in x3 n1) (kt : (h_i h a0 x3.toNatClampNeg) ≤ (1 : Int32) → wpx d P_Gr_unmark 86 [.ref r0, .int x1, .int x2, .int x3] [] h Q) (kf : ¬ ((h_i h a0 x3.toNatClampNeg) ≤ (1 : Int32)) → wpx d P_Gr_unmark 39 [.ref r0, .int x1, .int x2, .int x3] [] h Q) : wpx d P_Gr_unmark 29 [.ref r0, .int x1, .int x2, .int x3] [] h Q := by
  refine st_aload (pc' := 30) rfl rfl rfl ?_
  refine st_getfr (x := some a0) (Or.inl rfl) rfl hs0 rfl hr1 (pc' := 33) rfl ?_
  refine st_iload (pc' := 34) rfl rfl rfl ?_
  refine st_iaload rfl hs2 hb3 (j := x3.toNatClampNeg) rfl (pc' := 35) rfl ?_
  refine st_ipush (pc' := 36) (v := 1) rfl rfl (by decide) ?_
  exact st_icmp_le (pc' := 39) rfl rfl kt kf
theorem B_Gr_unmark_39 {d : Nat} {h : PH} {Q : PQ} {r0 : Nat} {x1 : Int32} {x2 : Int32} {x3 : Int32} {a0 : Nat} {n1 : Nat} {a2 : Nat} (hs0 : h_sh h r0 = some (0, 3)) (hr1 : h_r h r0 1 = some a0) (hs2 : h_sh h a0 = some (1, n1)) (hb3 : vp_in x3 n1) (hr4 : h_r h r0 0 = some a2) (kt : ¬ (x1 = (1 : Int32)) → wpx d P_Gr_unmark 77 [.ref r0, .int x1, .int x2, .int x3] [.int x3, .ref a2] (w_i h a0 x3.toNatClampNeg ((h_i h a0 x3.toNatClampNeg) - (1 : Int32))) Q) (kf : x1 = (1 : Int32) → wpx d P_Gr_unmark 59 [.ref r0, .int x1, .int x2, .int x3] [.int x3, .ref a2] (w_i h a0 x3.toNatClampNeg ((h_i h a0 x3.toNatClampNeg) - (1 : Int32))) Q) : wpx d P_Gr_unmark 39 [.ref r0, .int x1, .int x2, .int x3] [] h Q := by
  refine st_aload (pc' := 40) rfl rfl rfl ?_
  refine st_getfr (x := some a0) (Or.inl rfl) rfl hs0 rfl hr1 (pc' := 43) rfl ?_
  refine st_iload (pc' := 44) rfl rfl rfl ?_
  refine st_dup211 (pc' := 45) rfl rfl ⟨rfl, rfl⟩ ?_
  refine st_iaload rfl hs2 hb3 (j := x3.toNatClampNeg) rfl (pc' := 46) rfl ?_
  refine st_ipush (pc' := 47) (v := 1) rfl rfl (by decide) ?_
  refine st_isub (pc' := 48) rfl rfl ?_
  refine st_iastore rfl hs2 hb3 (j := x3.toNatClampNeg) rfl (pc' := 49) rfl ?_
  refine st_aload (pc' := 50) rfl rfl rfl ?_
  refine st_getfr (x := some a2) (Or.inl rfl) rfl hs0 rfl hr4 (pc' := 53) rfl ?_
  refine st_iload (pc' := 54) rfl rfl rfl ?_
  refine st_iload (pc' := 55) rfl rfl rfl ?_
  refine st_ipush (pc' := 56) (v := 1) rfl rfl (by decide) ?_
  exact st_icmp_ne (pc' := 59) rfl rfl kt kf
theorem B_Gr_unmark_59 {d : Nat} {h : PH} {Q : PQ} {r0 : Nat} {x1 : Int32} {x2 : Int32} {x3 : Int32} {q0 : Nat} {s1 : Int32} {a0 : Nat} {n1 : Nat} {a2 : Nat} {n3 : Nat} (hs0 : h_sh h r0 = some (0, 3)) (hr1 : h_r h r0 0 = some a0) (hs2 : h_sh h a0 = some (4, n1)) (hb3 : vp_in x3 n1) (hr4 : h_r h r0 1 = some a2) (hs5 : h_sh h a2 = some (1, n3)) (hb6 : vp_in x3 n3) (k : wpm d 164 [.long (h_l h a0 x3.toNatClampNeg), .int (h_i h a2 x3.toNatClampNeg)] h (fun r h' => wpx d P_Gr_unmark 74 [.ref r0, .int x1, .int x2, .int x3] (r.toList ++ [.int s1, .ref q0]) h' Q)) : wpx d P_Gr_unmark 59 [.ref r0, .int x1, .int x2, .int x3] [.int s1, .ref q0] h Q := by
  refine st_aload (pc' := 60) rfl rfl rfl ?_
  refine st_getfr (x := some a0) (Or.inl rfl) rfl hs0 rfl hr1 (pc' := 63) rfl ?_
  refine st_iload (pc' := 64) rfl rfl rfl ?_
  refine st_laload rfl hs2 hb3 (j := x3.toNatClampNeg) rfl (pc' := 65) rfl ?_
  refine st_aload (pc' := 66) rfl rfl rfl ?_
  refine st_getfr (x := some a2) (Or.inl rfl) rfl hs0 rfl hr4 (pc' := 69) rfl ?_
  refine st_iload (pc' := 70) rfl rfl rfl ?_
  refine st_iaload rfl hs5 hb6 (j := x3.toNatClampNeg) rfl (pc' := 71) rfl ?_
  exact st_call (pc' := 74) (as := [.long (h_l h a0 x3.toNatClampNeg), .int (h_i h a2 x3.toNatClampNeg)]) (rest := [.int s1, .ref q0]) rfl rfl (Nat.le_of_ble_eq_true rfl) rfl rfl (Nat.le_of_ble_eq_true rfl) (kd := 0) (o := 11) rfl rfl rfl k
theorem B_Gr_unmark_74 {d : Nat} {h : PH} {Q : PQ} {r0 : Nat} {x1 : Int32} {x2 : Int32} {x3 : Int32} {q0 : Nat} {s1 : Int32} {t2 : Int64}  (k : wpx d P_Gr_unmark 85 [.ref r0, .int x1, .int x2, .int x3] [.long t2, .int s1, .ref q0] h Q) : wpx d P_Gr_unmark 74 [.ref r0, .int x1, .int x2, .int x3] [.long t2, .int s1, .ref q0] h Q := by
  exact st_goto rfl k
theorem B_Gr_unmark_77 {d : Nat} {h : PH} {Q : PQ} {r0 : Nat} {x1 : Int32} {x2 : Int32} {x3 : Int32} {q0 : Nat} {s1 : Int32} {a0 : Nat} {n1 : Nat} (hs0 : h_sh h r0 = some (0, 3)) (hr1 : h_r h r0 0 = some a0) (hs2 : h_sh h a0 = some (4, n1)) (hb3 : vp_in x3 n1) (k : wpx d P_Gr_unmark 85 [.ref r0, .int x1, .int x2, .int x3] [.long (((h_l h a0 x3.toNatClampNeg).toUInt64 >>> ((5 : Int32).toInt64.toUInt64 &&& Int64.toUInt64 63)).toInt64), .int s1, .ref q0] h Q) : wpx d P_Gr_unmark 77 [.ref r0, .int x1, .int x2, .int x3] [.int s1, .ref q0] h Q := by
  refine st_aload (pc' := 78) rfl rfl rfl ?_
  refine st_getfr (x := some a0) (Or.inl rfl) rfl hs0 rfl hr1 (pc' := 81) rfl ?_
  refine st_iload (pc' := 82) rfl rfl rfl ?_
  refine st_laload rfl hs2 hb3 (j := x3.toNatClampNeg) rfl (pc' := 83) rfl ?_
  refine st_ipush (pc' := 84) (v := 5) rfl rfl (by decide) ?_
  refine st_lushr (pc' := 85) rfl rfl ?_
  exact k
theorem B_Gr_unmark_85 {d : Nat} {h : PH} {Q : PQ} {r0 : Nat} {x1 : Int32} {x2 : Int32} {x3 : Int32} {q0 : Nat} {s1 : Int32} {t2 : Int64} {n0 : Nat} (hs0 : h_sh h q0 = some (4, n0)) (hb1 : vp_in s1 n0) (k : wpx d P_Gr_unmark 86 [.ref r0, .int x1, .int x2, .int x3] [] (w_l h q0 s1.toNatClampNeg t2) Q) : wpx d P_Gr_unmark 85 [.ref r0, .int x1, .int x2, .int x3] [.long t2, .int s1, .ref q0] h Q := by
  refine st_lastore rfl hs0 hb1 (j := s1.toNatClampNeg) rfl (pc' := 86) rfl ?_
  exact k
theorem B_Gr_unmark_86 {d : Nat} {h : PH} {Q : PQ} {r0 : Nat} {x1 : Int32} {x2 : Int32} {x3 : Int32}  (k : wpx d P_Gr_unmark 12 [.ref r0, .int x1, .int x2, .int (x3 + 1)] [] h Q) : wpx d P_Gr_unmark 86 [.ref r0, .int x1, .int x2, .int x3] [] h Q := by
  refine st_iinc (pc' := 89) (v := 1) (ls' := [.ref r0, .int x1, .int x2, .int (x3 + 1)]) rfl rfl rfl (by decide) rfl ?_
  exact st_goto rfl k
theorem B_Gr_unmark_92 {d : Nat} {h : PH} {Q : PQ} {r0 : Nat} {x1 : Int32} {x2 : Int32} {x3 : Int32}  (k : Q none h) : wpx d P_Gr_unmark 92 [.ref r0, .int x1, .int x2, .int x3] [] h Q := by
  exact st_return rfl k
theorem B_Gr_unlikeLetters_0 {d : Nat} {h : PH} {Q : PQ} {r0 : Nat} {v1 : Value} {v2 : Value} {v3 : Value}  (k : wpx d P_Gr_unlikeLetters 4 [.ref r0, .int 0, .int 0, v3] [] h Q) : wpx d P_Gr_unlikeLetters 0 [.ref r0, v1, v2, v3] [] h Q := by
  refine st_ipush (pc' := 1) (v := 0) rfl rfl (by decide) ?_
  refine st_istore (pc' := 2) (ls' := [.ref r0, .int 0, v2, v3]) rfl rfl (Nat.le_of_ble_eq_true rfl) rfl ?_
  refine st_ipush (pc' := 3) (v := 0) rfl rfl (by decide) ?_
  refine st_istore (pc' := 4) (ls' := [.ref r0, .int 0, .int 0, v3]) rfl rfl (Nat.le_of_ble_eq_true rfl) rfl ?_
  exact k
theorem B_Gr_unlikeLetters_4 {d : Nat} {h : PH} {Q : PQ} {r0 : Nat} {x1 : Int32} {x2 : Int32} {v3 : Value} (hs0 : h_sh h r0 = some (0, 3)) (kt : (h_i h r0 3) ≤ x2 → wpx d P_Gr_unlikeLetters 65 [.ref r0, .int x1, .int x2, v3] [] h Q) (kf : ¬ ((h_i h r0 3) ≤ x2) → wpx d P_Gr_unlikeLetters 12 [.ref r0, .int x1, .int x2, v3] [] h Q) : wpx d P_Gr_unlikeLetters 4 [.ref r0, .int x1, .int x2, v3] [] h Q := by
  refine st_iload (pc' := 5) rfl rfl rfl ?_
  refine st_aload (pc' := 6) rfl rfl rfl ?_
  refine st_getfi (Or.inl rfl) rfl hs0 rfl (pc' := 9) rfl ?_
  exact st_icmp_ge (pc' := 12) rfl rfl kt kf
theorem B_Gr_unlikeLetters_12 {d : Nat} {h : PH} {Q : PQ} {r0 : Nat} {x1 : Int32} {x2 : Int32} {v3 : Value}  (k : wpx d P_Gr_unlikeLetters 14 [.ref r0, .int x1, .int x2, .int 0] [] h Q) : wpx d P_Gr_unlikeLetters 12 [.ref r0, .int x1, .int x2, v3] [] h Q := by
  refine st_ipush (pc' := 13) (v := 0) rfl rfl (by decide) ?_
  refine st_istore (pc' := 14) (ls' := [.ref r0, .int x1, .int x2, .int 0]) rfl rfl (Nat.le_of_ble_eq_true rfl) rfl ?_
  exact k
theorem B_Gr_unlikeLetters_14 {d : Nat} {h : PH} {Q : PQ} {r0 : Nat} {x1 : Int32} {x2 : Int32} {x3 : Int32} {a0 : Nat} {n1 : Nat} (hs0 : h_sh h r0 = some (0, 3)) (hr1 : h_r h r0 1 = some a0) (hs2 : h_sh h a0 = some (1, n1)) (hb3 : vp_in x2 n1) (kt : (h_i h a0 x2.toNatClampNeg) ≤ x3 → wpx d P_Gr_unlikeLetters 59 [.ref r0, .int x1, .int x2, .int x3] [] h Q) (kf : ¬ ((h_i h a0 x2.toNatClampNeg) ≤ x3) → wpx d P_Gr_unlikeLetters 24 [.ref r0, .int x1, .int x2, .int x3] [] h Q) : wpx d P_Gr_unlikeLetters 14 [.ref r0, .int x1, .int x2, .int x3] [] h Q := by
  refine st_iload (pc' := 15) rfl rfl rfl ?_
  refine st_aload (pc' := 16) rfl rfl rfl ?_
  refine st_getfr (x := some a0) (Or.inl rfl) rfl hs0 rfl hr1 (pc' := 19) rfl ?_
  refine st_iload (pc' := 20) rfl rfl rfl ?_
  refine st_iaload rfl hs2 hb3 (j := x2.toNatClampNeg) rfl (pc' := 21) rfl ?_
  exact st_icmp_ge (pc' := 24) rfl rfl kt kf
theorem B_Gr_unlikeLetters_24 {d : Nat} {h : PH} {Q : PQ} {r0 : Nat} {x1 : Int32} {x2 : Int32} {x3 : Int32} (hs0 : h_sh h r0 = some (0, 3)) (k : wpm d 35 [.ref r0, .int x2] h (fun r h' => wpx d P_Gr_unlikeLetters 29 [.ref r0, .int x1, .int x2, .int x3] (r.toList ++ []) h' Q)) : wpx d P_Gr_unlikeLetters 24 [.ref r0, .int x1, .int x2, .int x3] [] h Q := by
  refine st_aload (pc' := 25) rfl rfl rfl ?_
  refine st_iload (pc' := 26) rfl rfl rfl ?_
  exact st_call (pc' := 29) (as := [.ref r0, .int x2]) (rest := []) rfl rfl (Nat.le_of_ble_eq_true rfl) rfl rfl (Nat.le_of_ble_eq_true rfl) (kd := 1) (o := 3) rfl rfl (beq_iff_eq.mpr hs0) k
theorem B_Gr_unlikeLetters_29 {d : Nat} {h : PH} {Q : PQ} {r0 : Nat} {x1 : Int32} {x2 : Int32} {x3 : Int32} {s0 : Int32}  (kt : s0 = 0 → wpx d P_Gr_unlikeLetters 59 [.ref r0, .int x1, .int x2, .int x3] [] h Q) (kf : ¬ (s0 = 0) → wpx d P_Gr_unlikeLetters 32 [.ref r0, .int x1, .int x2, .int x3] [] h Q) : wpx d P_Gr_unlikeLetters 29 [.ref r0, .int x1, .int x2, .int x3] [.int s0] h Q := by
  exact st_if_eq (pc' := 32) rfl rfl kt kf
theorem B_Gr_unlikeLetters_32 {d : Nat} {h : PH} {Q : PQ} {r0 : Nat} {x1 : Int32} {x2 : Int32} {x3 : Int32} {a0 : Nat} {n1 : Nat} {a2 : Nat} {n3 : Nat} (hs0 : h_sh h r0 = some (0, 3)) (hr1 : h_r h r0 0 = some a0) (hs2 : h_sh h a0 = some (4, n1)) (hb3 : vp_in x2 n1) (hr4 : h_r h r0 1 = some a2) (hs5 : h_sh h a2 = some (1, n3)) (hb6 : vp_in x2 n3) (k : wpm d 165 [.long (h_l h a0 x2.toNatClampNeg), .int (h_i h a2 x2.toNatClampNeg), .int x3] h (fun r h' => wpx d P_Gr_unlikeLetters 50 [.ref r0, .int x1, .int x2, .int x3] (r.toList ++ [.int 1, .int x1]) h' Q)) : wpx d P_Gr_unlikeLetters 32 [.ref r0, .int x1, .int x2, .int x3] [] h Q := by
  refine st_iload (pc' := 33) rfl rfl rfl ?_
  refine st_ipush (pc' := 34) (v := 1) rfl rfl (by decide) ?_
  refine st_aload (pc' := 35) rfl rfl rfl ?_
  refine st_getfr (x := some a0) (Or.inl rfl) rfl hs0 rfl hr1 (pc' := 38) rfl ?_
  refine st_iload (pc' := 39) rfl rfl rfl ?_
  refine st_laload rfl hs2 hb3 (j := x2.toNatClampNeg) rfl (pc' := 40) rfl ?_
  refine st_aload (pc' := 41) rfl rfl rfl ?_
  refine st_getfr (x := some a2) (Or.inl rfl) rfl hs0 rfl hr4 (pc' := 44) rfl ?_
  refine st_iload (pc' := 45) rfl rfl rfl ?_
  refine st_iaload rfl hs5 hb6 (j := x2.toNatClampNeg) rfl (pc' := 46) rfl ?_
  refine st_iload (pc' := 47) rfl rfl rfl ?_
  exact st_call (pc' := 50) (as := [.long (h_l h a0 x2.toNatClampNeg), .int (h_i h a2 x2.toNatClampNeg), .int x3]) (rest := [.int 1, .int x1]) rfl rfl (Nat.le_of_ble_eq_true rfl) rfl rfl (Nat.le_of_ble_eq_true rfl) (kd := 0) (o := 11) rfl rfl rfl k
theorem B_Gr_unlikeLetters_50 {d : Nat} {h : PH} {Q : PQ} {r0 : Nat} {x1 : Int32} {x2 : Int32} {x3 : Int32} {s0 : Int32} {s1 : Int32} {s2 : Int32}  (k : wpx d P_Gr_unlikeLetters 14 [.ref r0, .int (s0 ||| (s1 <<< (s2 &&& 31))), .int x2, .int (x3 + 1)] [] h Q) : wpx d P_Gr_unlikeLetters 50 [.ref r0, .int x1, .int x2, .int x3] [.int s2, .int s1, .int s0] h Q := by
  refine st_ishl (pc' := 51) rfl rfl ?_
  refine st_ior (pc' := 52) rfl rfl ?_
  refine st_istore (pc' := 53) (ls' := [.ref r0, .int (s0 ||| (s1 <<< (s2 &&& 31))), .int x2, .int x3]) rfl rfl (Nat.le_of_ble_eq_true rfl) rfl ?_
  refine st_iinc (pc' := 56) (v := 1) (ls' := [.ref r0, .int (s0 ||| (s1 <<< (s2 &&& 31))), .int x2, .int (x3 + 1)]) rfl rfl rfl (by decide) rfl ?_
  exact st_goto rfl k
theorem B_Gr_unlikeLetters_59 {d : Nat} {h : PH} {Q : PQ} {r0 : Nat} {x1 : Int32} {x2 : Int32} {x3 : Int32}  (k : wpx d P_Gr_unlikeLetters 4 [.ref r0, .int x1, .int (x2 + 1), .int x3] [] h Q) : wpx d P_Gr_unlikeLetters 59 [.ref r0, .int x1, .int x2, .int x3] [] h Q := by
  refine st_iinc (pc' := 62) (v := 1) (ls' := [.ref r0, .int x1, .int (x2 + 1), .int x3]) rfl rfl rfl (by decide) rfl ?_
  exact st_goto rfl k
theorem B_Gr_unlikeLetters_65 {d : Nat} {h : PH} {Q : PQ} {r0 : Nat} {x1 : Int32} {x2 : Int32} {v3 : Value}  (k : wpm d 282 [.int x1] h (fun r h' => wpx d P_Gr_unlikeLetters 70 [.ref r0, .int x1, .int x2, v3] (r.toList ++ [.int 2]) h' Q)) : wpx d P_Gr_unlikeLetters 65 [.ref r0, .int x1, .int x2, v3] [] h Q := by
  refine st_ipush (pc' := 66) (v := 2) rfl rfl (by decide) ?_
  refine st_iload (pc' := 67) rfl rfl rfl ?_
  exact st_call (pc' := 70) (as := [.int x1]) (rest := [.int 2]) rfl rfl (Nat.le_of_ble_eq_true rfl) rfl rfl (Nat.le_of_ble_eq_true rfl) (kd := 0) (o := 15) rfl rfl rfl k
theorem B_Gr_unlikeLetters_70 {d : Nat} {h : PH} {Q : PQ} {r0 : Nat} {x1 : Int32} {x2 : Int32} {v3 : Value} {s0 : Int32} {s1 : Int32}  (k : Q (some (.int (if s0 < s1 then s1 else s0))) h) : wpx d P_Gr_unlikeLetters 70 [.ref r0, .int x1, .int x2, v3] [.int s1, .int s0] h Q := by
  refine st_mmax (pc' := 73) rfl rfl (Nat.le_of_ble_eq_true rfl) ?_
  exact st_ireturn (ty := .int) rfl rfl rfl k
theorem B_Gr_groupBegins_0 {d : Nat} {h : PH} {Q : PQ} {r0 : Nat} {x1 : Int32} {x2 : Int32} {a0 : Nat} {n1 : Nat} {a2 : Nat} {n3 : Nat} (hs0 : h_sh h r0 = some (0, 3)) (hr1 : h_r h r0 0 = some a0) (hs2 : h_sh h a0 = some (4, n1)) (hb3 : vp_in x1 n1) (hr4 : h_r h r0 1 = some a2) (hs5 : h_sh h a2 = some (1, n3)) (hb6 : vp_in x1 n3) (hb7 : vp_in x2 n1) (hb8 : vp_in x2 n3) (k : wpm d 162 [.long (h_l h a0 x1.toNatClampNeg), .int (h_i h a2 x1.toNatClampNeg), .long (h_l h a0 x2.toNatClampNeg), .int (h_i h a2 x2.toNatClampNeg)] h (fun r h' => wpx d P_Gr_groupBegins 27 [.ref r0, .int x1, .int x2] (r.toList ++ []) h' Q)) : wpx d P_Gr_groupBegins 0 [.ref r0, .int x1, .int x2] [] h Q := by
  refine st_aload (pc' := 1) rfl rfl rfl ?_
  refine st_getfr (x := some a0) (Or.inl rfl) rfl hs0 rfl hr1 (pc' := 4) rfl ?_
  refine st_iload (pc' := 5) rfl rfl rfl ?_
  refine st_laload rfl hs2 hb3 (j := x1.toNatClampNeg) rfl (pc' := 6) rfl ?_
  refine st_aload (pc' := 7) rfl rfl rfl ?_
  refine st_getfr (x := some a2) (Or.inl rfl) rfl hs0 rfl hr4 (pc' := 10) rfl ?_
  refine st_iload (pc' := 11) rfl rfl rfl ?_
  refine st_iaload rfl hs5 hb6 (j := x1.toNatClampNeg) rfl (pc' := 12) rfl ?_
  refine st_aload (pc' := 13) rfl rfl rfl ?_
  refine st_getfr (x := some a0) (Or.inl rfl) rfl hs0 rfl hr1 (pc' := 16) rfl ?_
  refine st_iload (pc' := 17) rfl rfl rfl ?_
  refine st_laload rfl hs2 hb7 (j := x2.toNatClampNeg) rfl (pc' := 18) rfl ?_
  refine st_aload (pc' := 19) rfl rfl rfl ?_
  refine st_getfr (x := some a2) (Or.inl rfl) rfl hs0 rfl hr4 (pc' := 22) rfl ?_
  refine st_iload (pc' := 23) rfl rfl rfl ?_
  refine st_iaload rfl hs5 hb8 (j := x2.toNatClampNeg) rfl (pc' := 24) rfl ?_
  exact st_call (pc' := 27) (as := [.long (h_l h a0 x1.toNatClampNeg), .int (h_i h a2 x1.toNatClampNeg), .long (h_l h a0 x2.toNatClampNeg), .int (h_i h a2 x2.toNatClampNeg)]) (rest := []) rfl rfl (Nat.le_of_ble_eq_true rfl) rfl rfl (Nat.le_of_ble_eq_true rfl) (kd := 0) (o := 11) rfl rfl rfl k
theorem B_Gr_groupBegins_27 {d : Nat} {h : PH} {Q : PQ} {r0 : Nat} {x1 : Int32} {x2 : Int32} {s0 : Int32} (hz0 : narrow .boolean (.int s0) = .int s0) (k : Q (some (.int s0)) h) : wpx d P_Gr_groupBegins 27 [.ref r0, .int x1, .int x2] [.int s0] h Q := by
  exact st_ireturn (ty := .boolean) rfl rfl hz0 k
theorem B_Gr_noneBeginsAnother_0 {d : Nat} {h : PH} {Q : PQ} {r0 : Nat} {v1 : Value} {v2 : Value}  (k : wpx d P_Gr_noneBeginsAnother 2 [.ref r0, .int 0, v2] [] h Q) : wpx d P_Gr_noneBeginsAnother 0 [.ref r0, v1, v2] [] h Q := by
  refine st_ipush (pc' := 1) (v := 0) rfl rfl (by decide) ?_
  refine st_istore (pc' := 2) (ls' := [.ref r0, .int 0, v2]) rfl rfl (Nat.le_of_ble_eq_true rfl) rfl ?_
  exact k
theorem B_Gr_noneBeginsAnother_2 {d : Nat} {h : PH} {Q : PQ} {r0 : Nat} {x1 : Int32} {v2 : Value} (hs0 : h_sh h r0 = some (0, 3)) (kt : (h_i h r0 3) ≤ x1 → wpx d P_Gr_noneBeginsAnother 64 [.ref r0, .int x1, v2] [] h Q) (kf : ¬ ((h_i h r0 3) ≤ x1) → wpx d P_Gr_noneBeginsAnother 10 [.ref r0, .int x1, v2] [] h Q) : wpx d P_Gr_noneBeginsAnother 2 [.ref r0, .int x1, v2] [] h Q := by
  refine st_iload (pc' := 3) rfl rfl rfl ?_
  refine st_aload (pc' := 4) rfl rfl rfl ?_
  refine st_getfi (Or.inl rfl) rfl hs0 rfl (pc' := 7) rfl ?_
  exact st_icmp_ge (pc' := 10) rfl rfl kt kf
theorem B_Gr_noneBeginsAnother_10 {d : Nat} {h : PH} {Q : PQ} {r0 : Nat} {x1 : Int32} {v2 : Value}  (k : wpx d P_Gr_noneBeginsAnother 12 [.ref r0, .int x1, .int 0] [] h Q) : wpx d P_Gr_noneBeginsAnother 10 [.ref r0, .int x1, v2] [] h Q := by
  refine st_ipush (pc' := 11) (v := 0) rfl rfl (by decide) ?_
  refine st_istore (pc' := 12) (ls' := [.ref r0, .int x1, .int 0]) rfl rfl (Nat.le_of_ble_eq_true rfl) rfl ?_
  exact k
theorem B_Gr_noneBeginsAnother_12 {d : Nat} {h : PH} {Q : PQ} {r0 : Nat} {x1 : Int32} {x2 : Int32} (hs0 : h_sh h r0 = some (0, 3)) (kt : (h_i h r0 3) ≤ x2 → wpx d P_Gr_noneBeginsAnother 58 [.ref r0, .int x1, .int x2] [] h Q) (kf : ¬ ((h_i h r0 3) ≤ x2) → wpx d P_Gr_noneBeginsAnother 20 [.ref r0, .int x1, .int x2] [] h Q) : wpx d P_Gr_noneBeginsAnother 12 [.ref r0, .int x1, .int x2] [] h Q := by
  refine st_iload (pc' := 13) rfl rfl rfl ?_
  refine st_aload (pc' := 14) rfl rfl rfl ?_
  refine st_getfi (Or.inl rfl) rfl hs0 rfl (pc' := 17) rfl ?_
  exact st_icmp_ge (pc' := 20) rfl rfl kt kf
theorem B_Gr_noneBeginsAnother_20 {d : Nat} {h : PH} {Q : PQ} {r0 : Nat} {x1 : Int32} {x2 : Int32}  (kt : x1 = x2 → wpx d P_Gr_noneBeginsAnother 52 [.ref r0, .int x1, .int x2] [] h Q) (kf : ¬ (x1 = x2) → wpx d P_Gr_noneBeginsAnother 25 [.ref r0, .int x1, .int x2] [] h Q) : wpx d P_Gr_noneBeginsAnother 20 [.ref r0, .int x1, .int x2] [] h Q := by
  refine st_iload (pc' := 21) rfl rfl rfl ?_
  refine st_iload (pc' := 22) rfl rfl rfl ?_
  exact st_icmp_eq (pc' := 25) rfl rfl kt kf
theorem B_Gr_noneBeginsAnother_25 {d : Nat} {h : PH} {Q : PQ} {r0 : Nat} {x1 : Int32} {x2 : Int32} (hs0 : h_sh h r0 = some (0, 3)) (k : wpm d 35 [.ref r0, .int x1] h (fun r h' => wpx d P_Gr_noneBeginsAnother 30 [.ref r0, .int x1, .int x2] (r.toList ++ []) h' Q)) : wpx d P_Gr_noneBeginsAnother 25 [.ref r0, .int x1, .int x2] [] h Q := by
  refine st_aload (pc' := 26) rfl rfl rfl ?_
  refine st_iload (pc' := 27) rfl rfl rfl ?_
  exact st_call (pc' := 30) (as := [.ref r0, .int x1]) (rest := []) rfl rfl (Nat.le_of_ble_eq_true rfl) rfl rfl (Nat.le_of_ble_eq_true rfl) (kd := 1) (o := 3) rfl rfl (beq_iff_eq.mpr hs0) k
theorem B_Gr_noneBeginsAnother_30 {d : Nat} {h : PH} {Q : PQ} {r0 : Nat} {x1 : Int32} {x2 : Int32} {s0 : Int32}  (kt : s0 = 0 → wpx d P_Gr_noneBeginsAnother 52 [.ref r0, .int x1, .int x2] [] h Q) (kf : ¬ (s0 = 0) → wpx d P_Gr_noneBeginsAnother 33 [.ref r0, .int x1, .int x2] [] h Q) : wpx d P_Gr_noneBeginsAnother 30 [.ref r0, .int x1, .int x2] [.int s0] h Q := by
  exact st_if_eq (pc' := 33) rfl rfl kt kf
theorem B_Gr_noneBeginsAnother_33 {d : Nat} {h : PH} {Q : PQ} {r0 : Nat} {x1 : Int32} {x2 : Int32} (hs0 : h_sh h r0 = some (0, 3)) (k : wpm d 35 [.ref r0, .int x2] h (fun r h' => wpx d P_Gr_noneBeginsAnother 38 [.ref r0, .int x1, .int x2] (r.toList ++ []) h' Q)) : wpx d P_Gr_noneBeginsAnother 33 [.ref r0, .int x1, .int x2] [] h Q := by
  refine st_aload (pc' := 34) rfl rfl rfl ?_
  refine st_iload (pc' := 35) rfl rfl rfl ?_
  exact st_call (pc' := 38) (as := [.ref r0, .int x2]) (rest := []) rfl rfl (Nat.le_of_ble_eq_true rfl) rfl rfl (Nat.le_of_ble_eq_true rfl) (kd := 1) (o := 3) rfl rfl (beq_iff_eq.mpr hs0) k
theorem B_Gr_noneBeginsAnother_38 {d : Nat} {h : PH} {Q : PQ} {r0 : Nat} {x1 : Int32} {x2 : Int32} {s0 : Int32}  (kt : s0 = 0 → wpx d P_Gr_noneBeginsAnother 52 [.ref r0, .int x1, .int x2] [] h Q) (kf : ¬ (s0 = 0) → wpx d P_Gr_noneBeginsAnother 41 [.ref r0, .int x1, .int x2] [] h Q) : wpx d P_Gr_noneBeginsAnother 38 [.ref r0, .int x1, .int x2] [.int s0] h Q := by
  exact st_if_eq (pc' := 41) rfl rfl kt kf
theorem B_Gr_noneBeginsAnother_41 {d : Nat} {h : PH} {Q : PQ} {r0 : Nat} {x1 : Int32} {x2 : Int32} (hs0 : h_sh h r0 = some (0, 3)) (k : wpm d 43 [.ref r0, .int x1, .int x2] h (fun r h' => wpx d P_Gr_noneBeginsAnother 47 [.ref r0, .int x1, .int x2] (r.toList ++ []) h' Q)) : wpx d P_Gr_noneBeginsAnother 41 [.ref r0, .int x1, .int x2] [] h Q := by
  refine st_aload (pc' := 42) rfl rfl rfl ?_
  refine st_iload (pc' := 43) rfl rfl rfl ?_
  refine st_iload (pc' := 44) rfl rfl rfl ?_
  exact st_call (pc' := 47) (as := [.ref r0, .int x1, .int x2]) (rest := []) rfl rfl (Nat.le_of_ble_eq_true rfl) rfl rfl (Nat.le_of_ble_eq_true rfl) (kd := 1) (o := 3) rfl rfl (beq_iff_eq.mpr hs0) k
theorem B_Gr_noneBeginsAnother_47 {d : Nat} {h : PH} {Q : PQ} {r0 : Nat} {x1 : Int32} {x2 : Int32} {s0 : Int32}  (kt : s0 = 0 → wpx d P_Gr_noneBeginsAnother 52 [.ref r0, .int x1, .int x2] [] h Q) (kf : ¬ (s0 = 0) → wpx d P_Gr_noneBeginsAnother 50 [.ref r0, .int x1, .int x2] [] h Q) : wpx d P_Gr_noneBeginsAnother 47 [.ref r0, .int x1, .int x2] [.int s0] h Q := by
  exact st_if_eq (pc' := 50) rfl rfl kt kf
theorem B_Gr_noneBeginsAnother_50 {d : Nat} {h : PH} {Q : PQ} {r0 : Nat} {x1 : Int32} {x2 : Int32}  (k : Q (some (.int 0)) h) : wpx d P_Gr_noneBeginsAnother 50 [.ref r0, .int x1, .int x2] [] h Q := by
  refine st_ipush (pc' := 51) (v := 0) rfl rfl (by decide) ?_
  exact st_ireturn (ty := .boolean) rfl rfl (by decide) k
theorem B_Gr_noneBeginsAnother_52 {d : Nat} {h : PH} {Q : PQ} {r0 : Nat} {x1 : Int32} {x2 : Int32}  (k : wpx d P_Gr_noneBeginsAnother 12 [.ref r0, .int x1, .int (x2 + 1)] [] h Q) : wpx d P_Gr_noneBeginsAnother 52 [.ref r0, .int x1, .int x2] [] h Q := by
  refine st_iinc (pc' := 55) (v := 1) (ls' := [.ref r0, .int x1, .int (x2 + 1)]) rfl rfl rfl (by decide) rfl ?_
  exact st_goto rfl k
theorem B_Gr_noneBeginsAnother_58 {d : Nat} {h : PH} {Q : PQ} {r0 : Nat} {x1 : Int32} {x2 : Int32}  (k : wpx d P_Gr_noneBeginsAnother 2 [.ref r0, .int (x1 + 1), .int x2] [] h Q) : wpx d P_Gr_noneBeginsAnother 58 [.ref r0, .int x1, .int x2] [] h Q := by
  refine st_iinc (pc' := 61) (v := 1) (ls' := [.ref r0, .int (x1 + 1), .int x2]) rfl rfl rfl (by decide) rfl ?_
  exact st_goto rfl k
theorem B_Gr_noneBeginsAnother_64 {d : Nat} {h : PH} {Q : PQ} {r0 : Nat} {x1 : Int32} {v2 : Value}  (k : Q (some (.int 1)) h) : wpx d P_Gr_noneBeginsAnother 64 [.ref r0, .int x1, v2] [] h Q := by
  refine st_ipush (pc' := 65) (v := 1) rfl rfl (by decide) ?_
  exact st_ireturn (ty := .boolean) rfl rfl (by decide) k
theorem B_Gr_noneEndsAnother_0 {d : Nat} {h : PH} {Q : PQ} {r0 : Nat} {v1 : Value} {v2 : Value}  (k : wpx d P_Gr_noneEndsAnother 2 [.ref r0, .int 0, v2] [] h Q) : wpx d P_Gr_noneEndsAnother 0 [.ref r0, v1, v2] [] h Q := by
  refine st_ipush (pc' := 1) (v := 0) rfl rfl (by decide) ?_
  refine st_istore (pc' := 2) (ls' := [.ref r0, .int 0, v2]) rfl rfl (Nat.le_of_ble_eq_true rfl) rfl ?_
  exact k
theorem B_Gr_noneEndsAnother_2 {d : Nat} {h : PH} {Q : PQ} {r0 : Nat} {x1 : Int32} {v2 : Value} (hs0 : h_sh h r0 = some (0, 3)) (kt : (h_i h r0 3) ≤ x1 → wpx d P_Gr_noneEndsAnother 85 [.ref r0, .int x1, v2] [] h Q) (kf : ¬ ((h_i h r0 3) ≤ x1) → wpx d P_Gr_noneEndsAnother 10 [.ref r0, .int x1, v2] [] h Q) : wpx d P_Gr_noneEndsAnother 2 [.ref r0, .int x1, v2] [] h Q := by
  refine st_iload (pc' := 3) rfl rfl rfl ?_
  refine st_aload (pc' := 4) rfl rfl rfl ?_
  refine st_getfi (Or.inl rfl) rfl hs0 rfl (pc' := 7) rfl ?_
  exact st_icmp_ge (pc' := 10) rfl rfl kt kf
theorem B_Gr_noneEndsAnother_10 {d : Nat} {h : PH} {Q : PQ} {r0 : Nat} {x1 : Int32} {v2 : Value}  (k : wpx d P_Gr_noneEndsAnother 12 [.ref r0, .int x1, .int 0] [] h Q) : wpx d P_Gr_noneEndsAnother 10 [.ref r0, .int x1, v2] [] h Q := by
  refine st_ipush (pc' := 11) (v := 0) rfl rfl (by decide) ?_
  refine st_istore (pc' := 12) (ls' := [.ref r0, .int x1, .int 0]) rfl rfl (Nat.le_of_ble_eq_true rfl) rfl ?_
  exact k
theorem B_Gr_noneEndsAnother_12 {d : Nat} {h : PH} {Q : PQ} {r0 : Nat} {x1 : Int32} {x2 : Int32} (hs0 : h_sh h r0 = some (0, 3)) (kt : (h_i h r0 3) ≤ x2 → wpx d P_Gr_noneEndsAnother 79 [.ref r0, .int x1, .int x2] [] h Q) (kf : ¬ ((h_i h r0 3) ≤ x2) → wpx d P_Gr_noneEndsAnother 20 [.ref r0, .int x1, .int x2] [] h Q) : wpx d P_Gr_noneEndsAnother 12 [.ref r0, .int x1, .int x2] [] h Q := by
  refine st_iload (pc' := 13) rfl rfl rfl ?_
  refine st_aload (pc' := 14) rfl rfl rfl ?_
  refine st_getfi (Or.inl rfl) rfl hs0 rfl (pc' := 17) rfl ?_
  exact st_icmp_ge (pc' := 20) rfl rfl kt kf
theorem B_Gr_noneEndsAnother_20 {d : Nat} {h : PH} {Q : PQ} {r0 : Nat} {x1 : Int32} {x2 : Int32}  (kt : x1 = x2 → wpx d P_Gr_noneEndsAnother 73 [.ref r0, .int x1, .int x2] [] h Q) (kf : ¬ (x1 = x2) → wpx d P_Gr_noneEndsAnother 25 [.ref r0, .int x1, .int x2] [] h Q) : wpx d P_Gr_noneEndsAnother 20 [.ref r0, .int x1, .int x2] [] h Q := by
  refine st_iload (pc' := 21) rfl rfl rfl ?_
  refine st_iload (pc' := 22) rfl rfl rfl ?_
  exact st_icmp_eq (pc' := 25) rfl rfl kt kf
theorem B_Gr_noneEndsAnother_25 {d : Nat} {h : PH} {Q : PQ} {r0 : Nat} {x1 : Int32} {x2 : Int32} (hs0 : h_sh h r0 = some (0, 3)) (k : wpm d 35 [.ref r0, .int x1] h (fun r h' => wpx d P_Gr_noneEndsAnother 30 [.ref r0, .int x1, .int x2] (r.toList ++ []) h' Q)) : wpx d P_Gr_noneEndsAnother 25 [.ref r0, .int x1, .int x2] [] h Q := by
  refine st_aload (pc' := 26) rfl rfl rfl ?_
  refine st_iload (pc' := 27) rfl rfl rfl ?_
  exact st_call (pc' := 30) (as := [.ref r0, .int x1]) (rest := []) rfl rfl (Nat.le_of_ble_eq_true rfl) rfl rfl (Nat.le_of_ble_eq_true rfl) (kd := 1) (o := 3) rfl rfl (beq_iff_eq.mpr hs0) k
theorem B_Gr_noneEndsAnother_30 {d : Nat} {h : PH} {Q : PQ} {r0 : Nat} {x1 : Int32} {x2 : Int32} {s0 : Int32}  (kt : s0 = 0 → wpx d P_Gr_noneEndsAnother 73 [.ref r0, .int x1, .int x2] [] h Q) (kf : ¬ (s0 = 0) → wpx d P_Gr_noneEndsAnother 33 [.ref r0, .int x1, .int x2] [] h Q) : wpx d P_Gr_noneEndsAnother 30 [.ref r0, .int x1, .int x2] [.int s0] h Q := by
  exact st_if_eq (pc' := 33) rfl rfl kt kf
theorem B_Gr_noneEndsAnother_33 {d : Nat} {h : PH} {Q : PQ} {r0 : Nat} {x1 : Int32} {x2 : Int32} (hs0 : h_sh h r0 = some (0, 3)) (k : wpm d 35 [.ref r0, .int x2] h (fun r h' => wpx d P_Gr_noneEndsAnother 38 [.ref r0, .int x1, .int x2] (r.toList ++ []) h' Q)) : wpx d P_Gr_noneEndsAnother 33 [.ref r0, .int x1, .int x2] [] h Q := by
  refine st_aload (pc' := 34) rfl rfl rfl ?_
  refine st_iload (pc' := 35) rfl rfl rfl ?_
  exact st_call (pc' := 38) (as := [.ref r0, .int x2]) (rest := []) rfl rfl (Nat.le_of_ble_eq_true rfl) rfl rfl (Nat.le_of_ble_eq_true rfl) (kd := 1) (o := 3) rfl rfl (beq_iff_eq.mpr hs0) k
theorem B_Gr_noneEndsAnother_38 {d : Nat} {h : PH} {Q : PQ} {r0 : Nat} {x1 : Int32} {x2 : Int32} {s0 : Int32}  (kt : s0 = 0 → wpx d P_Gr_noneEndsAnother 73 [.ref r0, .int x1, .int x2] [] h Q) (kf : ¬ (s0 = 0) → wpx d P_Gr_noneEndsAnother 41 [.ref r0, .int x1, .int x2] [] h Q) : wpx d P_Gr_noneEndsAnother 38 [.ref r0, .int x1, .int x2] [.int s0] h Q := by
  exact st_if_eq (pc' := 41) rfl rfl kt kf
theorem B_Gr_noneEndsAnother_41 {d : Nat} {h : PH} {Q : PQ} {r0 : Nat} {x1 : Int32} {x2 : Int32} {a0 : Nat} {n1 : Nat} {a2 : Nat} {n3 : Nat} (hs0 : h_sh h r0 = some (0, 3)) (hr1 : h_r h r0 0 = some a0) (hs2 : h_sh h a0 = some (4, n1)) (hb3 : vp_in x1 n1) (hr4 : h_r h r0 1 = some a2) (hs5 : h_sh h a2 = some (1, n3)) (hb6 : vp_in x1 n3) (hb7 : vp_in x2 n1) (hb8 : vp_in x2 n3) (k : wpm d 163 [.long (h_l h a0 x1.toNatClampNeg), .int (h_i h a2 x1.toNatClampNeg), .long (h_l h a0 x2.toNatClampNeg), .int (h_i h a2 x2.toNatClampNeg)] h (fun r h' => wpx d P_Gr_noneEndsAnother 68 [.ref r0, .int x1, .int x2] (r.toList ++ []) h' Q)) : wpx d P_Gr_noneEndsAnother 41 [.ref r0, .int x1, .int x2] [] h Q := by
  refine st_aload (pc' := 42) rfl rfl rfl ?_
  refine st_getfr (x := some a0) (Or.inl rfl) rfl hs0 rfl hr1 (pc' := 45) rfl ?_
  refine st_iload (pc' := 46) rfl rfl rfl ?_
  refine st_laload rfl hs2 hb3 (j := x1.toNatClampNeg) rfl (pc' := 47) rfl ?_
  refine st_aload (pc' := 48) rfl rfl rfl ?_
  refine st_getfr (x := some a2) (Or.inl rfl) rfl hs0 rfl hr4 (pc' := 51) rfl ?_
  refine st_iload (pc' := 52) rfl rfl rfl ?_
  refine st_iaload rfl hs5 hb6 (j := x1.toNatClampNeg) rfl (pc' := 53) rfl ?_
  refine st_aload (pc' := 54) rfl rfl rfl ?_
  refine st_getfr (x := some a0) (Or.inl rfl) rfl hs0 rfl hr1 (pc' := 57) rfl ?_
  refine st_iload (pc' := 58) rfl rfl rfl ?_
  refine st_laload rfl hs2 hb7 (j := x2.toNatClampNeg) rfl (pc' := 59) rfl ?_
  refine st_aload (pc' := 60) rfl rfl rfl ?_
  refine st_getfr (x := some a2) (Or.inl rfl) rfl hs0 rfl hr4 (pc' := 63) rfl ?_
  refine st_iload (pc' := 64) rfl rfl rfl ?_
  refine st_iaload rfl hs5 hb8 (j := x2.toNatClampNeg) rfl (pc' := 65) rfl ?_
  exact st_call (pc' := 68) (as := [.long (h_l h a0 x1.toNatClampNeg), .int (h_i h a2 x1.toNatClampNeg), .long (h_l h a0 x2.toNatClampNeg), .int (h_i h a2 x2.toNatClampNeg)]) (rest := []) rfl rfl (Nat.le_of_ble_eq_true rfl) rfl rfl (Nat.le_of_ble_eq_true rfl) (kd := 0) (o := 11) rfl rfl rfl k
theorem B_Gr_noneEndsAnother_68 {d : Nat} {h : PH} {Q : PQ} {r0 : Nat} {x1 : Int32} {x2 : Int32} {s0 : Int32}  (kt : s0 = 0 → wpx d P_Gr_noneEndsAnother 73 [.ref r0, .int x1, .int x2] [] h Q) (kf : ¬ (s0 = 0) → wpx d P_Gr_noneEndsAnother 71 [.ref r0, .int x1, .int x2] [] h Q) : wpx d P_Gr_noneEndsAnother 68 [.ref r0, .int x1, .int x2] [.int s0] h Q := by
  exact st_if_eq (pc' := 71) rfl rfl kt kf
theorem B_Gr_noneEndsAnother_71 {d : Nat} {h : PH} {Q : PQ} {r0 : Nat} {x1 : Int32} {x2 : Int32}  (k : Q (some (.int 0)) h) : wpx d P_Gr_noneEndsAnother 71 [.ref r0, .int x1, .int x2] [] h Q := by
  refine st_ipush (pc' := 72) (v := 0) rfl rfl (by decide) ?_
  exact st_ireturn (ty := .boolean) rfl rfl (by decide) k
theorem B_Gr_noneEndsAnother_73 {d : Nat} {h : PH} {Q : PQ} {r0 : Nat} {x1 : Int32} {x2 : Int32}  (k : wpx d P_Gr_noneEndsAnother 12 [.ref r0, .int x1, .int (x2 + 1)] [] h Q) : wpx d P_Gr_noneEndsAnother 73 [.ref r0, .int x1, .int x2] [] h Q := by
  refine st_iinc (pc' := 76) (v := 1) (ls' := [.ref r0, .int x1, .int (x2 + 1)]) rfl rfl rfl (by decide) rfl ?_
  exact st_goto rfl k
theorem B_Gr_noneEndsAnother_79 {d : Nat} {h : PH} {Q : PQ} {r0 : Nat} {x1 : Int32} {x2 : Int32}  (k : wpx d P_Gr_noneEndsAnother 2 [.ref r0, .int (x1 + 1), .int x2] [] h Q) : wpx d P_Gr_noneEndsAnother 79 [.ref r0, .int x1, .int x2] [] h Q := by
  refine st_iinc (pc' := 82) (v := 1) (ls' := [.ref r0, .int (x1 + 1), .int x2]) rfl rfl rfl (by decide) rfl ?_
  exact st_goto rfl k
theorem B_Gr_noneEndsAnother_85 {d : Nat} {h : PH} {Q : PQ} {r0 : Nat} {x1 : Int32} {v2 : Value}  (k : Q (some (.int 1)) h) : wpx d P_Gr_noneEndsAnother 85 [.ref r0, .int x1, v2] [] h Q := by
  refine st_ipush (pc' := 86) (v := 1) rfl rfl (by decide) ?_
  exact st_ireturn (ty := .boolean) rfl rfl (by decide) k
theorem B_Gr_overlap_0 {d : Nat} {h : PH} {Q : PQ} {r0 : Nat} {x1 : Int32} {x2 : Int32} {v3 : Value} {a0 : Nat} {n1 : Nat} (hs0 : h_sh h r0 = some (0, 3)) (hr1 : h_r h r0 1 = some a0) (hs2 : h_sh h a0 = some (1, n1)) (hb3 : vp_in x1 n1) (hb4 : vp_in x2 n1) (k : wpx d P_Gr_overlap 18 [.ref r0, .int x1, .int x2, .int ((if (h_i h a0 x2.toNatClampNeg) < (h_i h a0 x1.toNatClampNeg) then (h_i h a0 x2.toNatClampNeg) else (h_i h a0 x1.toNatClampNeg)) - (1 : Int32))] [] h Q) : wpx d P_Gr_overlap 0 [.ref r0, .int x1, .int x2, v3] [] h Q := by
  refine st_aload (pc' := 1) rfl rfl rfl ?_
  refine st_getfr (x := some a0) (Or.inl rfl) rfl hs0 rfl hr1 (pc' := 4) rfl ?_
  refine st_iload (pc' := 5) rfl rfl rfl ?_
  refine st_iaload rfl hs2 hb3 (j := x1.toNatClampNeg) rfl (pc' := 6) rfl ?_
  refine st_aload (pc' := 7) rfl rfl rfl ?_
  refine st_getfr (x := some a0) (Or.inl rfl) rfl hs0 rfl hr1 (pc' := 10) rfl ?_
  refine st_iload (pc' := 11) rfl rfl rfl ?_
  refine st_iaload rfl hs2 hb4 (j := x2.toNatClampNeg) rfl (pc' := 12) rfl ?_
  refine st_mmin (pc' := 15) rfl rfl (Nat.le_of_ble_eq_true rfl) ?_
  refine st_ipush (pc' := 16) (v := 1) rfl rfl (by decide) ?_
  refine st_isub (pc' := 17) rfl rfl ?_
  refine st_istore (pc' := 18) (ls' := [.ref r0, .int x1, .int x2, .int ((if (h_i h a0 x2.toNatClampNeg) < (h_i h a0 x1.toNatClampNeg) then (h_i h a0 x2.toNatClampNeg) else (h_i h a0 x1.toNatClampNeg)) - (1 : Int32))]) rfl rfl (Nat.le_of_ble_eq_true rfl) rfl ?_
  exact k
theorem B_Gr_overlap_18 {d : Nat} {h : PH} {Q : PQ} {r0 : Nat} {x1 : Int32} {x2 : Int32} {x3 : Int32}  (kt : x3 ≤ 0 → wpx d P_Gr_overlap 59 [.ref r0, .int x1, .int x2, .int x3] [] h Q) (kf : ¬ (x3 ≤ 0) → wpx d P_Gr_overlap 22 [.ref r0, .int x1, .int x2, .int x3] [] h Q) : wpx d P_Gr_overlap 18 [.ref r0, .int x1, .int x2, .int x3] [] h Q := by
  refine st_iload (pc' := 19) rfl rfl rfl ?_
  exact st_if_le (pc' := 22) rfl rfl kt kf
theorem B_Gr_overlap_22 {d : Nat} {h : PH} {Q : PQ} {r0 : Nat} {x1 : Int32} {x2 : Int32} {x3 : Int32} {a0 : Nat} {n1 : Nat} (hs0 : h_sh h r0 = some (0, 3)) (hr1 : h_r h r0 0 = some a0) (hs2 : h_sh h a0 = some (4, n1)) (hb3 : vp_in x1 n1) (k : wpm d 164 [.long (h_l h a0 x1.toNatClampNeg), .int x3] h (fun r h' => wpx d P_Gr_overlap 32 [.ref r0, .int x1, .int x2, .int x3] (r.toList ++ []) h' Q)) : wpx d P_Gr_overlap 22 [.ref r0, .int x1, .int x2, .int x3] [] h Q := by
  refine st_aload (pc' := 23) rfl rfl rfl ?_
  refine st_getfr (x := some a0) (Or.inl rfl) rfl hs0 rfl hr1 (pc' := 26) rfl ?_
  refine st_iload (pc' := 27) rfl rfl rfl ?_
  refine st_laload rfl hs2 hb3 (j := x1.toNatClampNeg) rfl (pc' := 28) rfl ?_
  refine st_iload (pc' := 29) rfl rfl rfl ?_
  exact st_call (pc' := 32) (as := [.long (h_l h a0 x1.toNatClampNeg), .int x3]) (rest := []) rfl rfl (Nat.le_of_ble_eq_true rfl) rfl rfl (Nat.le_of_ble_eq_true rfl) (kd := 0) (o := 11) rfl rfl rfl k
theorem B_Gr_overlap_32 {d : Nat} {h : PH} {Q : PQ} {r0 : Nat} {x1 : Int32} {x2 : Int32} {x3 : Int32} {t0 : Int64} {a0 : Nat} {n1 : Nat} {a2 : Nat} {n3 : Nat} (hs0 : h_sh h r0 = some (0, 3)) (hr1 : h_r h r0 0 = some a0) (hs2 : h_sh h a0 = some (4, n1)) (hb3 : vp_in x2 n1) (hr4 : h_r h r0 1 = some a2) (hs5 : h_sh h a2 = some (1, n3)) (hb6 : vp_in x2 n3) (k : wpm d 162 [.long t0, .int x3, .long (h_l h a0 x2.toNatClampNeg), .int (h_i h a2 x2.toNatClampNeg)] h (fun r h' => wpx d P_Gr_overlap 48 [.ref r0, .int x1, .int x2, .int x3] (r.toList ++ []) h' Q)) : wpx d P_Gr_overlap 32 [.ref r0, .int x1, .int x2, .int x3] [.long t0] h Q := by
  refine st_iload (pc' := 33) rfl rfl rfl ?_
  refine st_aload (pc' := 34) rfl rfl rfl ?_
  refine st_getfr (x := some a0) (Or.inl rfl) rfl hs0 rfl hr1 (pc' := 37) rfl ?_
  refine st_iload (pc' := 38) rfl rfl rfl ?_
  refine st_laload rfl hs2 hb3 (j := x2.toNatClampNeg) rfl (pc' := 39) rfl ?_
  refine st_aload (pc' := 40) rfl rfl rfl ?_
  refine st_getfr (x := some a2) (Or.inl rfl) rfl hs0 rfl hr4 (pc' := 43) rfl ?_
  refine st_iload (pc' := 44) rfl rfl rfl ?_
  refine st_iaload rfl hs5 hb6 (j := x2.toNatClampNeg) rfl (pc' := 45) rfl ?_
  exact st_call (pc' := 48) (as := [.long t0, .int x3, .long (h_l h a0 x2.toNatClampNeg), .int (h_i h a2 x2.toNatClampNeg)]) (rest := []) rfl rfl (Nat.le_of_ble_eq_true rfl) rfl rfl (Nat.le_of_ble_eq_true rfl) (kd := 0) (o := 11) rfl rfl rfl k
theorem B_Gr_overlap_48 {d : Nat} {h : PH} {Q : PQ} {r0 : Nat} {x1 : Int32} {x2 : Int32} {x3 : Int32} {s0 : Int32}  (kt : s0 = 0 → wpx d P_Gr_overlap 53 [.ref r0, .int x1, .int x2, .int x3] [] h Q) (kf : ¬ (s0 = 0) → wpx d P_Gr_overlap 51 [.ref r0, .int x1, .int x2, .int x3] [] h Q) : wpx d P_Gr_overlap 48 [.ref r0, .int x1, .int x2, .int x3] [.int s0] h Q := by
  exact st_if_eq (pc' := 51) rfl rfl kt kf
theorem B_Gr_overlap_51 {d : Nat} {h : PH} {Q : PQ} {r0 : Nat} {x1 : Int32} {x2 : Int32} {x3 : Int32}  (k : Q (some (.int x3)) h) : wpx d P_Gr_overlap 51 [.ref r0, .int x1, .int x2, .int x3] [] h Q := by
  refine st_iload (pc' := 52) rfl rfl rfl ?_
  exact st_ireturn (ty := .int) rfl rfl rfl k
theorem B_Gr_overlap_53 {d : Nat} {h : PH} {Q : PQ} {r0 : Nat} {x1 : Int32} {x2 : Int32} {x3 : Int32}  (k : wpx d P_Gr_overlap 18 [.ref r0, .int x1, .int x2, .int (x3 + (-1))] [] h Q) : wpx d P_Gr_overlap 53 [.ref r0, .int x1, .int x2, .int x3] [] h Q := by
  refine st_iinc (pc' := 56) (v := (-1)) (ls' := [.ref r0, .int x1, .int x2, .int (x3 + (-1))]) rfl rfl rfl (by decide) rfl ?_
  exact st_goto rfl k
theorem B_Gr_overlap_59 {d : Nat} {h : PH} {Q : PQ} {r0 : Nat} {x1 : Int32} {x2 : Int32} {x3 : Int32}  (k : Q (some (.int 0)) h) : wpx d P_Gr_overlap 59 [.ref r0, .int x1, .int x2, .int x3] [] h Q := by
  refine st_ipush (pc' := 60) (v := 0) rfl rfl (by decide) ?_
  exact st_ireturn (ty := .int) rfl rfl rfl k
theorem B_Gr_inByNumber_0 {d : Nat} {h : PH} {Q : PQ} {r0 : Nat} {x1 : Int32} {v2 : Value} {v3 : Value}  (k : wpx d P_Gr_inByNumber 4 [.ref r0, .int x1, .int x1, .int 0] [] h Q) : wpx d P_Gr_inByNumber 0 [.ref r0, .int x1, v2, v3] [] h Q := by
  refine st_iload (pc' := 1) rfl rfl rfl ?_
  refine st_istore (pc' := 2) (ls' := [.ref r0, .int x1, .int x1, v3]) rfl rfl (Nat.le_of_ble_eq_true rfl) rfl ?_
  refine st_ipush (pc' := 3) (v := 0) rfl rfl (by decide) ?_
  refine st_istore (pc' := 4) (ls' := [.ref r0, .int x1, .int x1, .int 0]) rfl rfl (Nat.le_of_ble_eq_true rfl) rfl ?_
  exact k
theorem B_Gr_inByNumber_4 {d : Nat} {h : PH} {Q : PQ} {r0 : Nat} {x1 : Int32} {x2 : Int32} {x3 : Int32} (hs0 : h_sh h r0 = some (0, 3)) (kt : (h_i h r0 3) ≤ x3 → wpx d P_Gr_inByNumber 35 [.ref r0, .int x1, .int x2, .int x3] [] h Q) (kf : ¬ ((h_i h r0 3) ≤ x3) → wpx d P_Gr_inByNumber 12 [.ref r0, .int x1, .int x2, .int x3] [] h Q) : wpx d P_Gr_inByNumber 4 [.ref r0, .int x1, .int x2, .int x3] [] h Q := by
  refine st_iload (pc' := 5) rfl rfl rfl ?_
  refine st_aload (pc' := 6) rfl rfl rfl ?_
  refine st_getfi (Or.inl rfl) rfl hs0 rfl (pc' := 9) rfl ?_
  exact st_icmp_ge (pc' := 12) rfl rfl kt kf
theorem B_Gr_inByNumber_12 {d : Nat} {h : PH} {Q : PQ} {r0 : Nat} {x1 : Int32} {x2 : Int32} {x3 : Int32} (hs0 : h_sh h r0 = some (0, 3)) (k : wpm d 35 [.ref r0, .int x3] h (fun r h' => wpx d P_Gr_inByNumber 17 [.ref r0, .int x1, .int x2, .int x3] (r.toList ++ []) h' Q)) : wpx d P_Gr_inByNumber 12 [.ref r0, .int x1, .int x2, .int x3] [] h Q := by
  refine st_aload (pc' := 13) rfl rfl rfl ?_
  refine st_iload (pc' := 14) rfl rfl rfl ?_
  exact st_call (pc' := 17) (as := [.ref r0, .int x3]) (rest := []) rfl rfl (Nat.le_of_ble_eq_true rfl) rfl rfl (Nat.le_of_ble_eq_true rfl) (kd := 1) (o := 3) rfl rfl (beq_iff_eq.mpr hs0) k
theorem B_Gr_inByNumber_17 {d : Nat} {h : PH} {Q : PQ} {r0 : Nat} {x1 : Int32} {x2 : Int32} {x3 : Int32} {s0 : Int32}  (kt : s0 = 0 → wpx d P_Gr_inByNumber 29 [.ref r0, .int x1, .int x2, .int x3] [] h Q) (kf : ¬ (s0 = 0) → wpx d P_Gr_inByNumber 20 [.ref r0, .int x1, .int x2, .int x3] [] h Q) : wpx d P_Gr_inByNumber 17 [.ref r0, .int x1, .int x2, .int x3] [.int s0] h Q := by
  exact st_if_eq (pc' := 20) rfl rfl kt kf
theorem B_Gr_inByNumber_20 {d : Nat} {h : PH} {Q : PQ} {r0 : Nat} {x1 : Int32} {x2 : Int32} {x3 : Int32}  (kt : ¬ (x2 = 0) → wpx d P_Gr_inByNumber 26 [.ref r0, .int x1, .int x2, .int x3] [] h Q) (kf : x2 = 0 → wpx d P_Gr_inByNumber 24 [.ref r0, .int x1, .int x2, .int x3] [] h Q) : wpx d P_Gr_inByNumber 20 [.ref r0, .int x1, .int x2, .int x3] [] h Q := by
  refine st_iload (pc' := 21) rfl rfl rfl ?_
  exact st_if_ne (pc' := 24) rfl rfl kt kf
theorem B_Gr_inByNumber_24 {d : Nat} {h : PH} {Q : PQ} {r0 : Nat} {x1 : Int32} {x2 : Int32} {x3 : Int32}  (k : Q (some (.int x3)) h) : wpx d P_Gr_inByNumber 24 [.ref r0, .int x1, .int x2, .int x3] [] h Q := by
  refine st_iload (pc' := 25) rfl rfl rfl ?_
  exact st_ireturn (ty := .int) rfl rfl rfl k
theorem B_Gr_inByNumber_26 {d : Nat} {h : PH} {Q : PQ} {r0 : Nat} {x1 : Int32} {x2 : Int32} {x3 : Int32}  (k : wpx d P_Gr_inByNumber 29 [.ref r0, .int x1, .int (x2 + (-1)), .int x3] [] h Q) : wpx d P_Gr_inByNumber 26 [.ref r0, .int x1, .int x2, .int x3] [] h Q := by
  refine st_iinc (pc' := 29) (v := (-1)) (ls' := [.ref r0, .int x1, .int (x2 + (-1)), .int x3]) rfl rfl rfl (by decide) rfl ?_
  exact k
theorem B_Gr_inByNumber_29 {d : Nat} {h : PH} {Q : PQ} {r0 : Nat} {x1 : Int32} {x2 : Int32} {x3 : Int32}  (k : wpx d P_Gr_inByNumber 4 [.ref r0, .int x1, .int x2, .int (x3 + 1)] [] h Q) : wpx d P_Gr_inByNumber 29 [.ref r0, .int x1, .int x2, .int x3] [] h Q := by
  refine st_iinc (pc' := 32) (v := 1) (ls' := [.ref r0, .int x1, .int x2, .int (x3 + 1)]) rfl rfl rfl (by decide) rfl ?_
  exact st_goto rfl k
theorem B_Gr_inByNumber_35 {d : Nat} {h : PH} {Q : PQ} {r0 : Nat} {x1 : Int32} {x2 : Int32} {x3 : Int32}  (k : Q (some (.int (-1))) h) : wpx d P_Gr_inByNumber 35 [.ref r0, .int x1, .int x2, .int x3] [] h Q := by
  refine st_ipush (pc' := 36) (v := (-1)) rfl rfl (by decide) ?_
  exact st_ireturn (ty := .int) rfl rfl rfl k
theorem B_Te_init_0 {d : Nat} {h : PH} {Q : PQ} {r0 : Nat} (hs0 : h_sh (h_new h (4, 10) 10) r0 = some (0, 7)) (hs1 : h_sh (h_new (w_r (h_new h (4, 10) 10) r0 0 (some (h_ct h))) (4, 14) 14) r0 = some (0, 7)) (hs2 : h_sh (h_new (w_r (h_new (w_r (h_new h (4, 10) 10) r0 0 (some (h_ct h))) (4, 14) 14) r0 2 (some (h_ct (w_r (h_new h (4, 10) 10) r0 0 (some (h_ct h)))))) (1, 14) 14) r0 = some (0, 7)) (k : wpx d P_Te_init 28 [.ref r0] [] (w_r (h_new (w_r (h_new (w_r (h_new h (4, 10) 10) r0 0 (some (h_ct h))) (4, 14) 14) r0 2 (some (h_ct (w_r (h_new h (4, 10) 10) r0 0 (some (h_ct h)))))) (1, 14) 14) r0 3 (some (h_ct (w_r (h_new (w_r (h_new h (4, 10) 10) r0 0 (some (h_ct h))) (4, 14) 14) r0 2 (some (h_ct (w_r (h_new h (4, 10) 10) r0 0 (some (h_ct h))))))))) Q) : wpx d P_Te_init 0 [.ref r0] [] h Q := by
  refine st_aload (pc' := 1) rfl rfl rfl ?_
  refine st_oinit (pc' := 4) rfl rfl (Nat.le_of_ble_eq_true rfl) ?_
  refine st_aload (pc' := 5) rfl rfl rfl ?_
  refine st_ipush (pc' := 7) (v := 10) rfl rfl (by decide) ?_
  refine st_newL rfl (by decide) (j := 10) (by decide) (pc' := 9) rfl ?_
  refine st_putf (h' := w_r (h_new h (4, 10) 10) r0 0 (some (h_ct h))) (Or.inr (Or.inr rfl)) rfl hs0 rfl rfl rfl (pc' := 12) rfl ?_
  refine st_aload (pc' := 13) rfl rfl rfl ?_
  refine st_ipush (pc' := 15) (v := 14) rfl rfl (by decide) ?_
  refine st_newL rfl (by decide) (j := 14) (by decide) (pc' := 17) rfl ?_
  refine st_putf (h' := w_r (h_new (w_r (h_new h (4, 10) 10) r0 0 (some (h_ct h))) (4, 14) 14) r0 2 (some (h_ct (w_r (h_new h (4, 10) 10) r0 0 (some (h_ct h)))))) (Or.inr (Or.inr rfl)) rfl hs1 rfl rfl rfl (pc' := 20) rfl ?_
  refine st_aload (pc' := 21) rfl rfl rfl ?_
  refine st_ipush (pc' := 23) (v := 14) rfl rfl (by decide) ?_
  refine st_newI rfl (by decide) (j := 14) (by decide) (pc' := 25) rfl ?_
  refine st_putf (h' := w_r (h_new (w_r (h_new (w_r (h_new h (4, 10) 10) r0 0 (some (h_ct h))) (4, 14) 14) r0 2 (some (h_ct (w_r (h_new h (4, 10) 10) r0 0 (some (h_ct h)))))) (1, 14) 14) r0 3 (some (h_ct (w_r (h_new (w_r (h_new h (4, 10) 10) r0 0 (some (h_ct h))) (4, 14) 14) r0 2 (some (h_ct (w_r (h_new h (4, 10) 10) r0 0 (some (h_ct h))))))))) (Or.inr (Or.inr rfl)) rfl hs2 rfl rfl rfl (pc' := 28) rfl ?_
  exact k
theorem B_Te_init_28 {d : Nat} {h : PH} {Q : PQ} {r0 : Nat} (hs0 : h_sh (h_new h (1, 14) 14) r0 = some (0, 7)) (k : Q none (w_i (w_r (h_new h (1, 14) 14) r0 4 (some (h_ct h))) r0 8 (-1))) : wpx d P_Te_init 28 [.ref r0] [] h Q := by
  refine st_aload (pc' := 29) rfl rfl rfl ?_
  refine st_ipush (pc' := 31) (v := 14) rfl rfl (by decide) ?_
  refine st_newI rfl (by decide) (j := 14) (by decide) (pc' := 33) rfl ?_
  refine st_putf (h' := w_r (h_new h (1, 14) 14) r0 4 (some (h_ct h))) (Or.inr (Or.inr rfl)) rfl hs0 rfl rfl rfl (pc' := 36) rfl ?_
  refine st_aload (pc' := 37) rfl rfl rfl ?_
  refine st_ipush (pc' := 38) (v := (-1)) rfl rfl (by decide) ?_
  refine st_putf (h' := w_i (w_r (h_new h (1, 14) 14) r0 4 (some (h_ct h))) r0 8 (-1)) (Or.inl rfl) rfl hs0 rfl rfl rfl (pc' := 41) rfl ?_
  exact st_return rfl k
theorem B_Te_tell_0 {d : Nat} {h : PH} {Q : PQ} {r0 : Nat} {r1 : Nat} {x2 : Int32} {v3 : Value} {v4 : Value} (hs0 : h_sh h r0 = some (0, 7)) (k : wpx d P_Te_tell 27 [.ref r0, .ref r1, .int x2, .int 0, v4] [] (w_i (w_i (w_i (w_i (w_i h r0 1 0) r0 5 0) r0 6 0) r0 7 0) r0 8 (-1)) Q) : wpx d P_Te_tell 0 [.ref r0, .ref r1, .int x2, v3, v4] [] h Q := by
  refine st_aload (pc' := 1) rfl rfl rfl ?_
  refine st_ipush (pc' := 2) (v := 0) rfl rfl (by decide) ?_
  refine st_putf (h' := w_i h r0 1 0) (Or.inl rfl) rfl hs0 rfl rfl rfl (pc' := 5) rfl ?_
  refine st_aload (pc' := 6) rfl rfl rfl ?_
  refine st_ipush (pc' := 7) (v := 0) rfl rfl (by decide) ?_
  refine st_putf (h' := w_i (w_i h r0 1 0) r0 5 0) (Or.inl rfl) rfl hs0 rfl rfl rfl (pc' := 10) rfl ?_
  refine st_aload (pc' := 11) rfl rfl rfl ?_
  refine st_ipush (pc' := 12) (v := 0) rfl rfl (by decide) ?_
  refine st_putf (h' := w_i (w_i (w_i h r0 1 0) r0 5 0) r0 6 0) (Or.inl rfl) rfl hs0 rfl rfl rfl (pc' := 15) rfl ?_
  refine st_aload (pc' := 16) rfl rfl rfl ?_
  refine st_ipush (pc' := 17) (v := 0) rfl rfl (by decide) ?_
  refine st_putf (h' := w_i (w_i (w_i (w_i h r0 1 0) r0 5 0) r0 6 0) r0 7 0) (Or.inl rfl) rfl hs0 rfl rfl rfl (pc' := 20) rfl ?_
  refine st_aload (pc' := 21) rfl rfl rfl ?_
  refine st_ipush (pc' := 22) (v := (-1)) rfl rfl (by decide) ?_
  refine st_putf (h' := w_i (w_i (w_i (w_i (w_i h r0 1 0) r0 5 0) r0 6 0) r0 7 0) r0 8 (-1)) (Or.inl rfl) rfl hs0 rfl rfl rfl (pc' := 25) rfl ?_
  refine st_ipush (pc' := 26) (v := 0) rfl rfl (by decide) ?_
  refine st_istore (pc' := 27) (ls' := [.ref r0, .ref r1, .int x2, .int 0, v4]) rfl rfl (Nat.le_of_ble_eq_true rfl) rfl ?_
  exact k
theorem B_Te_tell_27 {d : Nat} {h : PH} {Q : PQ} {r0 : Nat} {r1 : Nat} {x2 : Int32} {x3 : Int32} {v4 : Value}  (kt : x2 ≤ x3 → wpx d P_Te_tell 118 [.ref r0, .ref r1, .int x2, .int x3, v4] [] h Q) (kf : ¬ (x2 ≤ x3) → wpx d P_Te_tell 32 [.ref r0, .ref r1, .int x2, .int x3, v4] [] h Q) : wpx d P_Te_tell 27 [.ref r0, .ref r1, .int x2, .int x3, v4] [] h Q := by
  refine st_iload (pc' := 28) rfl rfl rfl ?_
  refine st_iload (pc' := 29) rfl rfl rfl ?_
  exact st_icmp_ge (pc' := 32) rfl rfl kt kf
theorem B_Te_tell_32 {d : Nat} {h : PH} {Q : PQ} {r0 : Nat} {r1 : Nat} {x2 : Int32} {x3 : Int32} {v4 : Value} (hs0 : h_sh h r0 = some (0, 7)) (kt : ¬ ((h_i h r0 7) = 0) → wpx d P_Te_tell 118 [.ref r0, .ref r1, .int x2, .int x3, v4] [] h Q) (kf : (h_i h r0 7) = 0 → wpx d P_Te_tell 39 [.ref r0, .ref r1, .int x2, .int x3, v4] [] h Q) : wpx d P_Te_tell 32 [.ref r0, .ref r1, .int x2, .int x3, v4] [] h Q := by
  refine st_aload (pc' := 33) rfl rfl rfl ?_
  refine st_getfi (Or.inl rfl) rfl hs0 rfl (pc' := 36) rfl ?_
  exact st_if_ne (pc' := 39) rfl rfl kt kf
theorem B_Te_tell_39 {d : Nat} {h : PH} {Q : PQ} {r0 : Nat} {r1 : Nat} {x2 : Int32} {x3 : Int32} {v4 : Value}  (k : wpm d 84 [.ref r1, .int x3, .int x2] h (fun r h' => wpx d P_Te_tell 45 [.ref r0, .ref r1, .int x2, .int x3, v4] (r.toList ++ []) h' Q)) : wpx d P_Te_tell 39 [.ref r0, .ref r1, .int x2, .int x3, v4] [] h Q := by
  refine st_aload (pc' := 40) rfl rfl rfl ?_
  refine st_iload (pc' := 41) rfl rfl rfl ?_
  refine st_iload (pc' := 42) rfl rfl rfl ?_
  exact st_call (pc' := 45) (as := [.ref r1, .int x3, .int x2]) (rest := []) rfl rfl (Nat.le_of_ble_eq_true rfl) rfl rfl (Nat.le_of_ble_eq_true rfl) (kd := 0) (o := 7) rfl rfl rfl k
theorem B_Te_tell_45 {d : Nat} {h : PH} {Q : PQ} {r0 : Nat} {r1 : Nat} {x2 : Int32} {x3 : Int32} {v4 : Value} {s0 : Int32}  (kt : s0 ≤ x3 → wpx d P_Te_tell 71 [.ref r0, .ref r1, .int x2, .int x3, .int s0] [] h Q) (kf : ¬ (s0 ≤ x3) → wpx d P_Te_tell 53 [.ref r0, .ref r1, .int x2, .int x3, .int s0] [] h Q) : wpx d P_Te_tell 45 [.ref r0, .ref r1, .int x2, .int x3, v4] [.int s0] h Q := by
  refine st_istore (pc' := 47) (ls' := [.ref r0, .ref r1, .int x2, .int x3, .int s0]) rfl rfl (Nat.le_of_ble_eq_true rfl) rfl ?_
  refine st_iload (pc' := 49) rfl rfl rfl ?_
  refine st_iload (pc' := 50) rfl rfl rfl ?_
  exact st_icmp_le (pc' := 53) rfl rfl kt kf
theorem B_Te_tell_53 {d : Nat} {h : PH} {Q : PQ} {r0 : Nat} {r1 : Nat} {x2 : Int32} {x3 : Int32} {x4 : Int32}  (k : wpm d 85 [.ref r1, .int x3, .int x4] h (fun r h' => wpx d P_Te_tell 61 [.ref r0, .ref r1, .int x2, .int x3, .int x4] (r.toList ++ [.ref r0]) h' Q)) : wpx d P_Te_tell 53 [.ref r0, .ref r1, .int x2, .int x3, .int x4] [] h Q := by
  refine st_aload (pc' := 54) rfl rfl rfl ?_
  refine st_aload (pc' := 55) rfl rfl rfl ?_
  refine st_iload (pc' := 56) rfl rfl rfl ?_
  refine st_iload (pc' := 58) rfl rfl rfl ?_
  exact st_call (pc' := 61) (as := [.ref r1, .int x3, .int x4]) (rest := [.ref r0]) rfl rfl (Nat.le_of_ble_eq_true rfl) rfl rfl (Nat.le_of_ble_eq_true rfl) (kd := 0) (o := 7) rfl rfl rfl k
theorem B_Te_tell_61 {d : Nat} {h : PH} {Q : PQ} {r0 : Nat} {r1 : Nat} {x2 : Int32} {x3 : Int32} {x4 : Int32} {q0 : Nat} {t1 : Int64} (hs0 : h_sh h q0 = some (0, 7)) (k : wpm d 86 [.ref q0, .long t1, .int (x4 - x3)] h (fun r h' => wpx d P_Te_tell 68 [.ref r0, .ref r1, .int x2, .int x3, .int x4] (r.toList ++ []) h' Q)) : wpx d P_Te_tell 61 [.ref r0, .ref r1, .int x2, .int x3, .int x4] [.long t1, .ref q0] h Q := by
  refine st_iload (pc' := 63) rfl rfl rfl ?_
  refine st_iload (pc' := 64) rfl rfl rfl ?_
  refine st_isub (pc' := 65) rfl rfl ?_
  exact st_call (pc' := 68) (as := [.ref q0, .long t1, .int (x4 - x3)]) (rest := []) rfl rfl (Nat.le_of_ble_eq_true rfl) rfl rfl (Nat.le_of_ble_eq_true rfl) (kd := 1) (o := 7) rfl rfl (beq_iff_eq.mpr hs0) k
theorem B_Te_tell_68 {d : Nat} {h : PH} {Q : PQ} {r0 : Nat} {r1 : Nat} {x2 : Int32} {x3 : Int32} {x4 : Int32}  (k : wpx d P_Te_tell 94 [.ref r0, .ref r1, .int x2, .int x3, .int x4] [] h Q) : wpx d P_Te_tell 68 [.ref r0, .ref r1, .int x2, .int x3, .int x4] [] h Q := by
  exact st_goto rfl k
theorem B_Te_tell_71 {d : Nat} {h : PH} {Q : PQ} {r0 : Nat} {r1 : Nat} {x2 : Int32} {x3 : Int32} {x4 : Int32} {n0 : Nat} (hs0 : h_sh h r1 = some (2, n0)) (hb1 : vp_in x3 n0) (kt : (h_i h r1 x3.toNatClampNeg) = (32 : Int32) → wpx d P_Te_tell 94 [.ref r0, .ref r1, .int x2, .int x3, .int x4] [] h Q) (kf : ¬ ((h_i h r1 x3.toNatClampNeg) = (32 : Int32)) → wpx d P_Te_tell 79 [.ref r0, .ref r1, .int x2, .int x3, .int x4] [] h Q) : wpx d P_Te_tell 71 [.ref r0, .ref r1, .int x2, .int x3, .int x4] [] h Q := by
  refine st_aload (pc' := 72) rfl rfl rfl ?_
  refine st_iload (pc' := 73) rfl rfl rfl ?_
  refine st_baload rfl (Or.inl hs0) hb1 (j := x3.toNatClampNeg) rfl (pc' := 74) rfl ?_
  refine st_ipush (pc' := 76) (v := 32) rfl rfl (by decide) ?_
  exact st_icmp_eq (pc' := 79) rfl rfl kt kf
theorem B_Te_tell_79 {d : Nat} {h : PH} {Q : PQ} {r0 : Nat} {r1 : Nat} {x2 : Int32} {x3 : Int32} {x4 : Int32} {n0 : Nat} (hs0 : h_sh h r1 = some (2, n0)) (hb1 : vp_in x3 n0) (kt : (h_i h r1 x3.toNatClampNeg) = (10 : Int32) → wpx d P_Te_tell 94 [.ref r0, .ref r1, .int x2, .int x3, .int x4] [] h Q) (kf : ¬ ((h_i h r1 x3.toNatClampNeg) = (10 : Int32)) → wpx d P_Te_tell 87 [.ref r0, .ref r1, .int x2, .int x3, .int x4] [] h Q) : wpx d P_Te_tell 79 [.ref r0, .ref r1, .int x2, .int x3, .int x4] [] h Q := by
  refine st_aload (pc' := 80) rfl rfl rfl ?_
  refine st_iload (pc' := 81) rfl rfl rfl ?_
  refine st_baload rfl (Or.inl hs0) hb1 (j := x3.toNatClampNeg) rfl (pc' := 82) rfl ?_
  refine st_ipush (pc' := 84) (v := 10) rfl rfl (by decide) ?_
  exact st_icmp_eq (pc' := 87) rfl rfl kt kf
theorem B_Te_tell_87 {d : Nat} {h : PH} {Q : PQ} {r0 : Nat} {r1 : Nat} {x2 : Int32} {x3 : Int32} {x4 : Int32} {n0 : Nat} (hs0 : h_sh h r1 = some (2, n0)) (hb1 : vp_in x3 n0) (hs2 : h_sh h r0 = some (0, 7)) (k : wpm d 90 [.ref r0, .int (h_i h r1 x3.toNatClampNeg)] h (fun r h' => wpx d P_Te_tell 94 [.ref r0, .ref r1, .int x2, .int x3, .int x4] (r.toList ++ []) h' Q)) : wpx d P_Te_tell 87 [.ref r0, .ref r1, .int x2, .int x3, .int x4] [] h Q := by
  refine st_aload (pc' := 88) rfl rfl rfl ?_
  refine st_aload (pc' := 89) rfl rfl rfl ?_
  refine st_iload (pc' := 90) rfl rfl rfl ?_
  refine st_baload rfl (Or.inl hs0) hb1 (j := x3.toNatClampNeg) rfl (pc' := 91) rfl ?_
  exact st_call (pc' := 94) (as := [.ref r0, .int (h_i h r1 x3.toNatClampNeg)]) (rest := []) rfl rfl (Nat.le_of_ble_eq_true rfl) rfl rfl (Nat.le_of_ble_eq_true rfl) (kd := 1) (o := 7) rfl rfl (beq_iff_eq.mpr hs2) k
theorem B_Te_tell_94 {d : Nat} {h : PH} {Q : PQ} {r0 : Nat} {r1 : Nat} {x2 : Int32} {x3 : Int32} {x4 : Int32} (hs0 : h_sh h r0 = some (0, 7)) (kt : (h_i h r0 7) = 0 → wpx d P_Te_tell 106 [.ref r0, .ref r1, .int x2, .int x3, .int x4] [] h Q) (kf : ¬ ((h_i h r0 7) = 0) → wpx d P_Te_tell 101 [.ref r0, .ref r1, .int x2, .int x3, .int x4] [] h Q) : wpx d P_Te_tell 94 [.ref r0, .ref r1, .int x2, .int x3, .int x4] [] h Q := by
  refine st_aload (pc' := 95) rfl rfl rfl ?_
  refine st_getfi (Or.inl rfl) rfl hs0 rfl (pc' := 98) rfl ?_
  exact st_if_eq (pc' := 101) rfl rfl kt kf
theorem B_Te_tell_101 {d : Nat} {h : PH} {Q : PQ} {r0 : Nat} {r1 : Nat} {x2 : Int32} {x3 : Int32} {x4 : Int32} (hs0 : h_sh h r0 = some (0, 7)) (k : wpx d P_Te_tell 106 [.ref r0, .ref r1, .int x2, .int x3, .int x4] [] (w_i h r0 8 x3) Q) : wpx d P_Te_tell 101 [.ref r0, .ref r1, .int x2, .int x3, .int x4] [] h Q := by
  refine st_aload (pc' := 102) rfl rfl rfl ?_
  refine st_iload (pc' := 103) rfl rfl rfl ?_
  refine st_putf (h' := w_i h r0 8 x3) (Or.inl rfl) rfl hs0 rfl rfl rfl (pc' := 106) rfl ?_
  exact k
theorem B_Te_tell_106 {d : Nat} {h : PH} {Q : PQ} {r0 : Nat} {r1 : Nat} {x2 : Int32} {x3 : Int32} {x4 : Int32}  (k : wpx d P_Te_tell 27 [.ref r0, .ref r1, .int x2, .int (if x4 < (x3 + (1 : Int32)) then (x3 + (1 : Int32)) else x4), .int x4] [] h Q) : wpx d P_Te_tell 106 [.ref r0, .ref r1, .int x2, .int x3, .int x4] [] h Q := by
  refine st_iload (pc' := 108) rfl rfl rfl ?_
  refine st_iload (pc' := 109) rfl rfl rfl ?_
  refine st_ipush (pc' := 110) (v := 1) rfl rfl (by decide) ?_
  refine st_iadd (pc' := 111) rfl rfl ?_
  refine st_mmax (pc' := 114) rfl rfl (Nat.le_of_ble_eq_true rfl) ?_
  refine st_istore (pc' := 115) (ls' := [.ref r0, .ref r1, .int x2, .int (if x4 < (x3 + (1 : Int32)) then (x3 + (1 : Int32)) else x4), .int x4]) rfl rfl (Nat.le_of_ble_eq_true rfl) rfl ?_
  exact st_goto rfl k
theorem B_Te_tell_118 {d : Nat} {h : PH} {Q : PQ} {r0 : Nat} {r1 : Nat} {x2 : Int32} {x3 : Int32} {v4 : Value} (hs0 : h_sh h r0 = some (0, 7)) (kt : ¬ ((h_i h r0 7) = 0) → wpx d P_Te_tell 142 [.ref r0, .ref r1, .int x2, .int x3, v4] [] h Q) (kf : (h_i h r0 7) = 0 → wpx d P_Te_tell 125 [.ref r0, .ref r1, .int x2, .int x3, v4] [] h Q) : wpx d P_Te_tell 118 [.ref r0, .ref r1, .int x2, .int x3, v4] [] h Q := by
  refine st_aload (pc' := 119) rfl rfl rfl ?_
  refine st_getfi (Or.inl rfl) rfl hs0 rfl (pc' := 122) rfl ?_
  exact st_if_ne (pc' := 125) rfl rfl kt kf
theorem B_Te_tell_125 {d : Nat} {h : PH} {Q : PQ} {r0 : Nat} {r1 : Nat} {x2 : Int32} {x3 : Int32} {v4 : Value} (hs0 : h_sh h r0 = some (0, 7)) (kt : (h_i h r0 6) = 0 → wpx d P_Te_tell 142 [.ref r0, .ref r1, .int x2, .int x3, v4] [] h Q) (kf : ¬ ((h_i h r0 6) = 0) → wpx d P_Te_tell 132 [.ref r0, .ref r1, .int x2, .int x3, v4] [] h Q) : wpx d P_Te_tell 125 [.ref r0, .ref r1, .int x2, .int x3, v4] [] h Q := by
  refine st_aload (pc' := 126) rfl rfl rfl ?_
  refine st_getfi (Or.inl rfl) rfl hs0 rfl (pc' := 129) rfl ?_
  exact st_if_eq (pc' := 132) rfl rfl kt kf
theorem B_Te_tell_132 {d : Nat} {h : PH} {Q : PQ} {r0 : Nat} {r1 : Nat} {x2 : Int32} {x3 : Int32} {v4 : Value} (hs0 : h_sh h r0 = some (0, 7)) (k : wpx d P_Te_tell 142 [.ref r0, .ref r1, .int x2, .int x3, v4] [] (w_i (w_i h r0 7 2) r0 8 x2) Q) : wpx d P_Te_tell 132 [.ref r0, .ref r1, .int x2, .int x3, v4] [] h Q := by
  refine st_aload (pc' := 133) rfl rfl rfl ?_
  refine st_ipush (pc' := 134) (v := 2) rfl rfl (by decide) ?_
  refine st_putf (h' := w_i h r0 7 2) (Or.inl rfl) rfl hs0 rfl rfl rfl (pc' := 137) rfl ?_
  refine st_aload (pc' := 138) rfl rfl rfl ?_
  refine st_iload (pc' := 139) rfl rfl rfl ?_
  refine st_putf (h' := w_i (w_i h r0 7 2) r0 8 x2) (Or.inl rfl) rfl hs0 rfl rfl rfl (pc' := 142) rfl ?_
  exact k
theorem B_Te_tell_142 {d : Nat} {h : PH} {Q : PQ} {r0 : Nat} {r1 : Nat} {x2 : Int32} {x3 : Int32} {v4 : Value}  (k : Q none h) : wpx d P_Te_tell 142 [.ref r0, .ref r1, .int x2, .int x3, v4] [] h Q := by
  exact st_return rfl k
theorem B_Te_rowStop_0 {d : Nat} {h : PH} {Q : PQ} {r0 : Nat} {x1 : Int32} {x2 : Int32} {v3 : Value}  (k : wpx d P_Te_rowStop 2 [.ref r0, .int x1, .int x2, .int x1] [] h Q) : wpx d P_Te_rowStop 0 [.ref r0, .int x1, .int x2, v3] [] h Q := by
  refine st_iload (pc' := 1) rfl rfl rfl ?_
  refine st_istore (pc' := 2) (ls' := [.ref r0, .int x1, .int x2, .int x1]) rfl rfl (Nat.le_of_ble_eq_true rfl) rfl ?_
  exact k
theorem B_Te_rowStop_2 {d : Nat} {h : PH} {Q : PQ} {r0 : Nat} {x1 : Int32} {x2 : Int32} {x3 : Int32}  (kt : x2 ≤ x3 → wpx d P_Te_rowStop 29 [.ref r0, .int x1, .int x2, .int x3] [] h Q) (kf : ¬ (x2 ≤ x3) → wpx d P_Te_rowStop 7 [.ref r0, .int x1, .int x2, .int x3] [] h Q) : wpx d P_Te_rowStop 2 [.ref r0, .int x1, .int x2, .int x3] [] h Q := by
  refine st_iload (pc' := 3) rfl rfl rfl ?_
  refine st_iload (pc' := 4) rfl rfl rfl ?_
  exact st_icmp_ge (pc' := 7) rfl rfl kt kf
theorem B_Te_rowStop_7 {d : Nat} {h : PH} {Q : PQ} {r0 : Nat} {x1 : Int32} {x2 : Int32} {x3 : Int32} {n0 : Nat} (hs0 : h_sh h r0 = some (2, n0)) (hb1 : vp_in x3 n0) (kt : (h_i h r0 x3.toNatClampNeg) < (97 : Int32) → wpx d P_Te_rowStop 29 [.ref r0, .int x1, .int x2, .int x3] [] h Q) (kf : ¬ ((h_i h r0 x3.toNatClampNeg) < (97 : Int32)) → wpx d P_Te_rowStop 15 [.ref r0, .int x1, .int x2, .int x3] [] h Q) : wpx d P_Te_rowStop 7 [.ref r0, .int x1, .int x2, .int x3] [] h Q := by
  refine st_aload (pc' := 8) rfl rfl rfl ?_
  refine st_iload (pc' := 9) rfl rfl rfl ?_
  refine st_baload rfl (Or.inl hs0) hb1 (j := x3.toNatClampNeg) rfl (pc' := 10) rfl ?_
  refine st_ipush (pc' := 12) (v := 97) rfl rfl (by decide) ?_
  exact st_icmp_lt (pc' := 15) rfl rfl kt kf
theorem B_Te_rowStop_15 {d : Nat} {h : PH} {Q : PQ} {r0 : Nat} {x1 : Int32} {x2 : Int32} {x3 : Int32} {n0 : Nat} (hs0 : h_sh h r0 = some (2, n0)) (hb1 : vp_in x3 n0) (kt : (122 : Int32) < (h_i h r0 x3.toNatClampNeg) → wpx d P_Te_rowStop 29 [.ref r0, .int x1, .int x2, .int x3] [] h Q) (kf : ¬ ((122 : Int32) < (h_i h r0 x3.toNatClampNeg)) → wpx d P_Te_rowStop 23 [.ref r0, .int x1, .int x2, .int x3] [] h Q) : wpx d P_Te_rowStop 15 [.ref r0, .int x1, .int x2, .int x3] [] h Q := by
  refine st_aload (pc' := 16) rfl rfl rfl ?_
  refine st_iload (pc' := 17) rfl rfl rfl ?_
  refine st_baload rfl (Or.inl hs0) hb1 (j := x3.toNatClampNeg) rfl (pc' := 18) rfl ?_
  refine st_ipush (pc' := 20) (v := 122) rfl rfl (by decide) ?_
  exact st_icmp_gt (pc' := 23) rfl rfl kt kf
theorem B_Te_rowStop_23 {d : Nat} {h : PH} {Q : PQ} {r0 : Nat} {x1 : Int32} {x2 : Int32} {x3 : Int32}  (k : wpx d P_Te_rowStop 2 [.ref r0, .int x1, .int x2, .int (x3 + 1)] [] h Q) : wpx d P_Te_rowStop 23 [.ref r0, .int x1, .int x2, .int x3] [] h Q := by
  refine st_iinc (pc' := 26) (v := 1) (ls' := [.ref r0, .int x1, .int x2, .int (x3 + 1)]) rfl rfl rfl (by decide) rfl ?_
  exact st_goto rfl k
theorem B_Te_rowStop_29 {d : Nat} {h : PH} {Q : PQ} {r0 : Nat} {x1 : Int32} {x2 : Int32} {x3 : Int32}  (k : Q (some (.int x3)) h) : wpx d P_Te_rowStop 29 [.ref r0, .int x1, .int x2, .int x3] [] h Q := by
  refine st_iload (pc' := 30) rfl rfl rfl ?_
  exact st_ireturn (ty := .int) rfl rfl rfl k
theorem B_Te_rowCode_0 {d : Nat} {h : PH} {Q : PQ} {r0 : Nat} {x1 : Int32} {x2 : Int32} {v3 : Value} {v4 : Value} {v5 : Value}  (k : wpx d P_Te_rowCode 5 [.ref r0, .int x1, .int x2, .long 0, .retAddr 2, .int x1] [] h Q) : wpx d P_Te_rowCode 0 [.ref r0, .int x1, .int x2, v3, v4, v5] [] h Q := by
  refine st_lpush (pc' := 1) (v := 0) rfl rfl (by decide) ?_
  refine st_lstore (pc' := 2) (ls' := [.ref r0, .int x1, .int x2, .long 0, .retAddr 2, v5]) rfl rfl (Nat.le_of_ble_eq_true rfl) rfl ?_
  refine st_iload (pc' := 3) rfl rfl rfl ?_
  refine st_istore (pc' := 5) (ls' := [.ref r0, .int x1, .int x2, .long 0, .retAddr 2, .int x1]) rfl rfl (Nat.le_of_ble_eq_true rfl) rfl ?_
  exact k
theorem B_Te_rowCode_5 {d : Nat} {h : PH} {Q : PQ} {r0 : Nat} {x1 : Int32} {x2 : Int32} {l3 : Int64} {x5 : Int32}  (kt : x2 ≤ x5 → wpx d P_Te_rowCode 30 [.ref r0, .int x1, .int x2, .long l3, .retAddr 2, .int x5] [] h Q) (kf : ¬ (x2 ≤ x5) → wpx d P_Te_rowCode 11 [.ref r0, .int x1, .int x2, .long l3, .retAddr 2, .int x5] [] h Q) : wpx d P_Te_rowCode 5 [.ref r0, .int x1, .int x2, .long l3, .retAddr 2, .int x5] [] h Q := by
  refine st_iload (pc' := 7) rfl rfl rfl ?_
  refine st_iload (pc' := 8) rfl rfl rfl ?_
  exact st_icmp_ge (pc' := 11) rfl rfl kt kf
theorem B_Te_rowCode_11 {d : Nat} {h : PH} {Q : PQ} {r0 : Nat} {x1 : Int32} {x2 : Int32} {l3 : Int64} {x5 : Int32} {n0 : Nat} (hs0 : h_sh h r0 = some (2, n0)) (hb1 : vp_in x5 n0) (k : wpx d P_Te_rowCode 5 [.ref r0, .int x1, .int x2, .long ((l3 <<< ((5 : Int32).toInt64 &&& 63)) ||| (((h_i h r0 x5.toNatClampNeg) - (96 : Int32)).toInt64)), .retAddr 2, .int (x5 + 1)] [] h Q) : wpx d P_Te_rowCode 11 [.ref r0, .int x1, .int x2, .long l3, .retAddr 2, .int x5] [] h Q := by
  refine st_lload (pc' := 12) rfl rfl rfl rfl ?_
  refine st_ipush (pc' := 13) (v := 5) rfl rfl (by decide) ?_
  refine st_lshl (pc' := 14) rfl rfl ?_
  refine st_aload (pc' := 15) rfl rfl rfl ?_
  refine st_iload (pc' := 17) rfl rfl rfl ?_
  refine st_baload rfl (Or.inl hs0) hb1 (j := x5.toNatClampNeg) rfl (pc' := 18) rfl ?_
  refine st_ipush (pc' := 20) (v := 96) rfl rfl (by decide) ?_
  refine st_isub (pc' := 21) rfl rfl ?_
  refine st_i2l (pc' := 22) rfl rfl ?_
  refine st_lor (pc' := 23) rfl rfl ?_
  refine st_lstore (pc' := 24) (ls' := [.ref r0, .int x1, .int x2, .long ((l3 <<< ((5 : Int32).toInt64 &&& 63)) ||| (((h_i h r0 x5.toNatClampNeg) - (96 : Int32)).toInt64)), .retAddr 2, .int x5]) rfl rfl (Nat.le_of_ble_eq_true rfl) rfl ?_
  refine st_iinc (pc' := 27) (v := 1) (ls' := [.ref r0, .int x1, .int x2, .long ((l3 <<< ((5 : Int32).toInt64 &&& 63)) ||| (((h_i h r0 x5.toNatClampNeg) - (96 : Int32)).toInt64)), .retAddr 2, .int (x5 + 1)]) rfl rfl rfl (by decide) rfl ?_
  exact st_goto rfl k
theorem B_Te_rowCode_30 {d : Nat} {h : PH} {Q : PQ} {r0 : Nat} {x1 : Int32} {x2 : Int32} {l3 : Int64} {x5 : Int32}  (k : Q (some (.long l3)) h) : wpx d P_Te_rowCode 30 [.ref r0, .int x1, .int x2, .long l3, .retAddr 2, .int x5] [] h Q := by
  refine st_lload (pc' := 31) rfl rfl rfl rfl ?_
  exact st_lreturn rfl k
theorem B_Te_takeRow_0 {d : Nat} {h : PH} {Q : PQ} {r0 : Nat} {l1 : Int64} {x3 : Int32} {v4 : Value}  (kt : ¬ (x3 = (5 : Int32)) → wpx d P_Te_takeRow 17 [.ref r0, .long l1, .retAddr 2, .int x3, v4] [] h Q) (kf : x3 = (5 : Int32) → wpx d P_Te_takeRow 5 [.ref r0, .long l1, .retAddr 2, .int x3, v4] [] h Q) : wpx d P_Te_takeRow 0 [.ref r0, .long l1, .retAddr 2, .int x3, v4] [] h Q := by
  refine st_iload (pc' := 1) rfl rfl rfl ?_
  refine st_ipush (pc' := 2) (v := 5) rfl rfl (by decide) ?_
  exact st_icmp_ne (pc' := 5) rfl rfl kt kf
theorem B_Te_takeRow_5 {d : Nat} {h : PH} {Q : PQ} {r0 : Nat} {l1 : Int64} {x3 : Int32} {v4 : Value}  (kt : ¬ ((lg_cmp l1 (20436420 : Int64)) = 0) → wpx d P_Te_takeRow 17 [.ref r0, .long l1, .retAddr 2, .int x3, v4] [] h Q) (kf : (lg_cmp l1 (20436420 : Int64)) = 0 → wpx d P_Te_takeRow 13 [.ref r0, .long l1, .retAddr 2, .int x3, v4] [] h Q) : wpx d P_Te_takeRow 5 [.ref r0, .long l1, .retAddr 2, .int x3, v4] [] h Q := by
  refine st_lload (pc' := 6) rfl rfl rfl rfl ?_
  refine st_ldc2 (pc' := 9) (v := 20436420) rfl rfl (by decide) ?_
  refine st_lcmp (pc' := 10) rfl rfl ?_
  exact st_if_ne (pc' := 13) rfl rfl kt kf
theorem B_Te_takeRow_13 {d : Nat} {h : PH} {Q : PQ} {r0 : Nat} {l1 : Int64} {x3 : Int32} {v4 : Value}  (k : wpx d P_Te_takeRow 18 [.ref r0, .long l1, .retAddr 2, .int x3, v4] [.int 1] h Q) : wpx d P_Te_takeRow 13 [.ref r0, .long l1, .retAddr 2, .int x3, v4] [] h Q := by
  refine st_ipush (pc' := 14) (v := 1) rfl rfl (by decide) ?_
  exact st_goto rfl k
theorem B_Te_takeRow_17 {d : Nat} {h : PH} {Q : PQ} {r0 : Nat} {l1 : Int64} {x3 : Int32} {v4 : Value}  (k : wpx d P_Te_takeRow 18 [.ref r0, .long l1, .retAddr 2, .int x3, v4] [.int 0] h Q) : wpx d P_Te_takeRow 17 [.ref r0, .long l1, .retAddr 2, .int x3, v4] [] h Q := by
  refine st_ipush (pc' := 18) (v := 0) rfl rfl (by decide) ?_
  exact k
theorem B_Te_takeRow_18 {d : Nat} {h : PH} {Q : PQ} {r0 : Nat} {l1 : Int64} {x3 : Int32} {v4 : Value} {s0 : Int32} (hs0 : h_sh h r0 = some (0, 7)) (kt : ¬ ((h_i h r0 6) = 0) → wpx d P_Te_takeRow 36 [.ref r0, .long l1, .retAddr 2, .int x3, .int s0] [] h Q) (kf : (h_i h r0 6) = 0 → wpx d P_Te_takeRow 27 [.ref r0, .long l1, .retAddr 2, .int x3, .int s0] [] h Q) : wpx d P_Te_takeRow 18 [.ref r0, .long l1, .retAddr 2, .int x3, v4] [.int s0] h Q := by
  refine st_istore (pc' := 20) (ls' := [.ref r0, .long l1, .retAddr 2, .int x3, .int s0]) rfl rfl (Nat.le_of_ble_eq_true rfl) rfl ?_
  refine st_aload (pc' := 21) rfl rfl rfl ?_
  refine st_getfi (Or.inl rfl) rfl hs0 rfl (pc' := 24) rfl ?_
  exact st_if_ne (pc' := 27) rfl rfl kt kf
theorem B_Te_takeRow_27 {d : Nat} {h : PH} {Q : PQ} {r0 : Nat} {l1 : Int64} {x3 : Int32} {x4 : Int32} (hs0 : h_sh h r0 = some (0, 7)) (k : wpm d 87 [.ref r0, .int x4] h (fun r h' => wpx d P_Te_takeRow 33 [.ref r0, .long l1, .retAddr 2, .int x3, .int x4] (r.toList ++ []) h' Q)) : wpx d P_Te_takeRow 27 [.ref r0, .long l1, .retAddr 2, .int x3, .int x4] [] h Q := by
  refine st_aload (pc' := 28) rfl rfl rfl ?_
  refine st_iload (pc' := 30) rfl rfl rfl ?_
  exact st_call (pc' := 33) (as := [.ref r0, .int x4]) (rest := []) rfl rfl (Nat.le_of_ble_eq_true rfl) rfl rfl (Nat.le_of_ble_eq_true rfl) (kd := 1) (o := 7) rfl rfl (beq_iff_eq.mpr hs0) k
theorem B_Te_takeRow_33 {d : Nat} {h : PH} {Q : PQ} {r0 : Nat} {l1 : Int64} {x3 : Int32} {x4 : Int32}  (k : wpx d P_Te_takeRow 90 [.ref r0, .long l1, .retAddr 2, .int x3, .int x4] [] h Q) : wpx d P_Te_takeRow 33 [.ref r0, .long l1, .retAddr 2, .int x3, .int x4] [] h Q := by
  exact st_goto rfl k
theorem B_Te_takeRow_36 {d : Nat} {h : PH} {Q : PQ} {r0 : Nat} {l1 : Int64} {x3 : Int32} {x4 : Int32}  (kt : x3 ≤ (6 : Int32) → wpx d P_Te_takeRow 50 [.ref r0, .long l1, .retAddr 2, .int x3, .int x4] [] h Q) (kf : ¬ (x3 ≤ (6 : Int32)) → wpx d P_Te_takeRow 42 [.ref r0, .long l1, .retAddr 2, .int x3, .int x4] [] h Q) : wpx d P_Te_takeRow 36 [.ref r0, .long l1, .retAddr 2, .int x3, .int x4] [] h Q := by
  refine st_iload (pc' := 37) rfl rfl rfl ?_
  refine st_ipush (pc' := 39) (v := 6) rfl rfl (by decide) ?_
  exact st_icmp_le (pc' := 42) rfl rfl kt kf
theorem B_Te_takeRow_42 {d : Nat} {h : PH} {Q : PQ} {r0 : Nat} {l1 : Int64} {x3 : Int32} {x4 : Int32} (hs0 : h_sh h r0 = some (0, 7)) (k : wpx d P_Te_takeRow 90 [.ref r0, .long l1, .retAddr 2, .int x3, .int x4] [] (w_i h r0 7 2) Q) : wpx d P_Te_takeRow 42 [.ref r0, .long l1, .retAddr 2, .int x3, .int x4] [] h Q := by
  refine st_aload (pc' := 43) rfl rfl rfl ?_
  refine st_ipush (pc' := 44) (v := 2) rfl rfl (by decide) ?_
  refine st_putf (h' := w_i h r0 7 2) (Or.inl rfl) rfl hs0 rfl rfl rfl (pc' := 47) rfl ?_
  exact st_goto rfl k
theorem B_Te_takeRow_50 {d : Nat} {h : PH} {Q : PQ} {r0 : Nat} {l1 : Int64} {x3 : Int32} {x4 : Int32} (hs0 : h_sh h r0 = some (0, 7)) (kt : ¬ ((h_i h r0 6) = (1 : Int32)) → wpx d P_Te_takeRow 68 [.ref r0, .long l1, .retAddr 2, .int x3, .int x4] [] h Q) (kf : (h_i h r0 6) = (1 : Int32) → wpx d P_Te_takeRow 58 [.ref r0, .long l1, .retAddr 2, .int x3, .int x4] [] h Q) : wpx d P_Te_takeRow 50 [.ref r0, .long l1, .retAddr 2, .int x3, .int x4] [] h Q := by
  refine st_aload (pc' := 51) rfl rfl rfl ?_
  refine st_getfi (Or.inl rfl) rfl hs0 rfl (pc' := 54) rfl ?_
  refine st_ipush (pc' := 55) (v := 1) rfl rfl (by decide) ?_
  exact st_icmp_ne (pc' := 58) rfl rfl kt kf
theorem B_Te_takeRow_58 {d : Nat} {h : PH} {Q : PQ} {r0 : Nat} {l1 : Int64} {x3 : Int32} {x4 : Int32} (hs0 : h_sh h r0 = some (0, 7)) (k : wpm d 88 [.ref r0, .long l1, .int x4] h (fun r h' => wpx d P_Te_takeRow 65 [.ref r0, .long l1, .retAddr 2, .int x3, .int x4] (r.toList ++ []) h' Q)) : wpx d P_Te_takeRow 58 [.ref r0, .long l1, .retAddr 2, .int x3, .int x4] [] h Q := by
  refine st_aload (pc' := 59) rfl rfl rfl ?_
  refine st_lload (pc' := 60) rfl rfl rfl rfl ?_
  refine st_iload (pc' := 62) rfl rfl rfl ?_
  exact st_call (pc' := 65) (as := [.ref r0, .long l1, .int x4]) (rest := []) rfl rfl (Nat.le_of_ble_eq_true rfl) rfl rfl (Nat.le_of_ble_eq_true rfl) (kd := 1) (o := 7) rfl rfl (beq_iff_eq.mpr hs0) k
theorem B_Te_takeRow_65 {d : Nat} {h : PH} {Q : PQ} {r0 : Nat} {l1 : Int64} {x3 : Int32} {x4 : Int32}  (k : wpx d P_Te_takeRow 90 [.ref r0, .long l1, .retAddr 2, .int x3, .int x4] [] h Q) : wpx d P_Te_takeRow 65 [.ref r0, .long l1, .retAddr 2, .int x3, .int x4] [] h Q := by
  exact st_goto rfl k
theorem B_Te_takeRow_68 {d : Nat} {h : PH} {Q : PQ} {r0 : Nat} {l1 : Int64} {x3 : Int32} {x4 : Int32} (hs0 : h_sh h r0 = some (0, 7)) (kt : ¬ ((h_i h r0 6) = (3 : Int32)) → wpx d P_Te_takeRow 85 [.ref r0, .long l1, .retAddr 2, .int x3, .int x4] [] h Q) (kf : (h_i h r0 6) = (3 : Int32) → wpx d P_Te_takeRow 76 [.ref r0, .long l1, .retAddr 2, .int x3, .int x4] [] h Q) : wpx d P_Te_takeRow 68 [.ref r0, .long l1, .retAddr 2, .int x3, .int x4] [] h Q := by
  refine st_aload (pc' := 69) rfl rfl rfl ?_
  refine st_getfi (Or.inl rfl) rfl hs0 rfl (pc' := 72) rfl ?_
  refine st_ipush (pc' := 73) (v := 3) rfl rfl (by decide) ?_
  exact st_icmp_ne (pc' := 76) rfl rfl kt kf
theorem B_Te_takeRow_76 {d : Nat} {h : PH} {Q : PQ} {r0 : Nat} {l1 : Int64} {x3 : Int32} {x4 : Int32} (hs0 : h_sh h r0 = some (0, 7)) (k : wpm d 89 [.ref r0, .long l1, .int x3] h (fun r h' => wpx d P_Te_takeRow 82 [.ref r0, .long l1, .retAddr 2, .int x3, .int x4] (r.toList ++ []) h' Q)) : wpx d P_Te_takeRow 76 [.ref r0, .long l1, .retAddr 2, .int x3, .int x4] [] h Q := by
  refine st_aload (pc' := 77) rfl rfl rfl ?_
  refine st_lload (pc' := 78) rfl rfl rfl rfl ?_
  refine st_iload (pc' := 79) rfl rfl rfl ?_
  exact st_call (pc' := 82) (as := [.ref r0, .long l1, .int x3]) (rest := []) rfl rfl (Nat.le_of_ble_eq_true rfl) rfl rfl (Nat.le_of_ble_eq_true rfl) (kd := 1) (o := 7) rfl rfl (beq_iff_eq.mpr hs0) k
theorem B_Te_takeRow_82 {d : Nat} {h : PH} {Q : PQ} {r0 : Nat} {l1 : Int64} {x3 : Int32} {x4 : Int32}  (k : wpx d P_Te_takeRow 90 [.ref r0, .long l1, .retAddr 2, .int x3, .int x4] [] h Q) : wpx d P_Te_takeRow 82 [.ref r0, .long l1, .retAddr 2, .int x3, .int x4] [] h Q := by
  exact st_goto rfl k
theorem B_Te_takeRow_85 {d : Nat} {h : PH} {Q : PQ} {r0 : Nat} {l1 : Int64} {x3 : Int32} {x4 : Int32} (hs0 : h_sh h r0 = some (0, 7)) (k : wpx d P_Te_takeRow 90 [.ref r0, .long l1, .retAddr 2, .int x3, .int x4] [] (w_i h r0 7 2) Q) : wpx d P_Te_takeRow 85 [.ref r0, .long l1, .retAddr 2, .int x3, .int x4] [] h Q := by
  refine st_aload (pc' := 86) rfl rfl rfl ?_
  refine st_ipush (pc' := 87) (v := 2) rfl rfl (by decide) ?_
  refine st_putf (h' := w_i h r0 7 2) (Or.inl rfl) rfl hs0 rfl rfl rfl (pc' := 90) rfl ?_
  exact k
theorem B_Te_takeRow_90 {d : Nat} {h : PH} {Q : PQ} {r0 : Nat} {l1 : Int64} {x3 : Int32} {x4 : Int32}  (k : Q none h) : wpx d P_Te_takeRow 90 [.ref r0, .long l1, .retAddr 2, .int x3, .int x4] [] h Q := by
  exact st_return rfl k
theorem B_Te_takeLine_0 {d : Nat} {h : PH} {Q : PQ} {r0 : Nat} {x1 : Int32}  (kt : ¬ (x1 = 0) → wpx d P_Te_takeLine 12 [.ref r0, .int x1] [] h Q) (kf : x1 = 0 → wpx d P_Te_takeLine 4 [.ref r0, .int x1] [] h Q) : wpx d P_Te_takeLine 0 [.ref r0, .int x1] [] h Q := by
  refine st_iload (pc' := 1) rfl rfl rfl ?_
  exact st_if_ne (pc' := 4) rfl rfl kt kf
theorem B_Te_takeLine_4 {d : Nat} {h : PH} {Q : PQ} {r0 : Nat} {x1 : Int32} (hs0 : h_sh h r0 = some (0, 7)) (k : wpx d P_Te_takeLine 34 [.ref r0, .int x1] [] (w_i h r0 7 2) Q) : wpx d P_Te_takeLine 4 [.ref r0, .int x1] [] h Q := by
  refine st_aload (pc' := 5) rfl rfl rfl ?_
  refine st_ipush (pc' := 6) (v := 2) rfl rfl (by decide) ?_
  refine st_putf (h' := w_i h r0 7 2) (Or.inl rfl) rfl hs0 rfl rfl rfl (pc' := 9) rfl ?_
  exact st_goto rfl k
theorem B_Te_takeLine_12 {d : Nat} {h : PH} {Q : PQ} {r0 : Nat} {x1 : Int32} (hs0 : h_sh h r0 = some (0, 7)) (kt : (h_i h r0 1) < (10 : Int32) → wpx d P_Te_takeLine 29 [.ref r0, .int x1] [] h Q) (kf : ¬ ((h_i h r0 1) < (10 : Int32)) → wpx d P_Te_takeLine 21 [.ref r0, .int x1] [] h Q) : wpx d P_Te_takeLine 12 [.ref r0, .int x1] [] h Q := by
  refine st_aload (pc' := 13) rfl rfl rfl ?_
  refine st_getfi (Or.inl rfl) rfl hs0 rfl (pc' := 16) rfl ?_
  refine st_ipush (pc' := 18) (v := 10) rfl rfl (by decide) ?_
  exact st_icmp_lt (pc' := 21) rfl rfl kt kf
theorem B_Te_takeLine_21 {d : Nat} {h : PH} {Q : PQ} {r0 : Nat} {x1 : Int32} (hs0 : h_sh h r0 = some (0, 7)) (k : wpx d P_Te_takeLine 34 [.ref r0, .int x1] [] (w_i h r0 7 4) Q) : wpx d P_Te_takeLine 21 [.ref r0, .int x1] [] h Q := by
  refine st_aload (pc' := 22) rfl rfl rfl ?_
  refine st_ipush (pc' := 23) (v := 4) rfl rfl (by decide) ?_
  refine st_putf (h' := w_i h r0 7 4) (Or.inl rfl) rfl hs0 rfl rfl rfl (pc' := 26) rfl ?_
  exact st_goto rfl k
theorem B_Te_takeLine_29 {d : Nat} {h : PH} {Q : PQ} {r0 : Nat} {x1 : Int32} (hs0 : h_sh h r0 = some (0, 7)) (k : wpx d P_Te_takeLine 34 [.ref r0, .int x1] [] (w_i h r0 6 1) Q) : wpx d P_Te_takeLine 29 [.ref r0, .int x1] [] h Q := by
  refine st_aload (pc' := 30) rfl rfl rfl ?_
  refine st_ipush (pc' := 31) (v := 1) rfl rfl (by decide) ?_
  refine st_putf (h' := w_i h r0 6 1) (Or.inl rfl) rfl hs0 rfl rfl rfl (pc' := 34) rfl ?_
  exact k
theorem B_Te_takeLine_34 {d : Nat} {h : PH} {Q : PQ} {r0 : Nat} {x1 : Int32}  (k : Q none h) : wpx d P_Te_takeLine 34 [.ref r0, .int x1] [] h Q := by
  exact st_return rfl k
theorem B_Te_takeName_0 {d : Nat} {h : PH} {Q : PQ} {r0 : Nat} {l1 : Int64} {x3 : Int32} {v4 : Value}  (kt : x3 = 0 → wpx d P_Te_takeName 10 [.ref r0, .long l1, .retAddr 2, .int x3, v4] [] h Q) (kf : ¬ (x3 = 0) → wpx d P_Te_takeName 4 [.ref r0, .long l1, .retAddr 2, .int x3, v4] [] h Q) : wpx d P_Te_takeName 0 [.ref r0, .long l1, .retAddr 2, .int x3, v4] [] h Q := by
  refine st_iload (pc' := 1) rfl rfl rfl ?_
  exact st_if_eq (pc' := 4) rfl rfl kt kf
theorem B_Te_takeName_4 {d : Nat} {h : PH} {Q : PQ} {r0 : Nat} {l1 : Int64} {x3 : Int32} {v4 : Value} (hs0 : h_sh h r0 = some (0, 7)) (k : Q none (w_i h r0 7 2)) : wpx d P_Te_takeName 4 [.ref r0, .long l1, .retAddr 2, .int x3, v4] [] h Q := by
  refine st_aload (pc' := 5) rfl rfl rfl ?_
  refine st_ipush (pc' := 6) (v := 2) rfl rfl (by decide) ?_
  refine st_putf (h' := w_i h r0 7 2) (Or.inl rfl) rfl hs0 rfl rfl rfl (pc' := 9) rfl ?_
  exact st_return rfl k
theorem B_Te_takeName_10 {d : Nat} {h : PH} {Q : PQ} {r0 : Nat} {l1 : Int64} {x3 : Int32} {v4 : Value}  (k : wpx d P_Te_takeName 13 [.ref r0, .long l1, .retAddr 2, .int x3, .int 0] [] h Q) : wpx d P_Te_takeName 10 [.ref r0, .long l1, .retAddr 2, .int x3, v4] [] h Q := by
  refine st_ipush (pc' := 11) (v := 0) rfl rfl (by decide) ?_
  refine st_istore (pc' := 13) (ls' := [.ref r0, .long l1, .retAddr 2, .int x3, .int 0]) rfl rfl (Nat.le_of_ble_eq_true rfl) rfl ?_
  exact k
theorem B_Te_takeName_13 {d : Nat} {h : PH} {Q : PQ} {r0 : Nat} {l1 : Int64} {x3 : Int32} {x4 : Int32} (hs0 : h_sh h r0 = some (0, 7)) (kt : (h_i h r0 1) ≤ x4 → wpx d P_Te_takeName 45 [.ref r0, .long l1, .retAddr 2, .int x3, .int x4] [] h Q) (kf : ¬ ((h_i h r0 1) ≤ x4) → wpx d P_Te_takeName 22 [.ref r0, .long l1, .retAddr 2, .int x3, .int x4] [] h Q) : wpx d P_Te_takeName 13 [.ref r0, .long l1, .retAddr 2, .int x3, .int x4] [] h Q := by
  refine st_iload (pc' := 15) rfl rfl rfl ?_
  refine st_aload (pc' := 16) rfl rfl rfl ?_
  refine st_getfi (Or.inl rfl) rfl hs0 rfl (pc' := 19) rfl ?_
  exact st_icmp_ge (pc' := 22) rfl rfl kt kf
theorem B_Te_takeName_22 {d : Nat} {h : PH} {Q : PQ} {r0 : Nat} {l1 : Int64} {x3 : Int32} {x4 : Int32} {a0 : Nat} {n1 : Nat} (hs0 : h_sh h r0 = some (0, 7)) (hr1 : h_r h r0 0 = some a0) (hs2 : h_sh h a0 = some (4, n1)) (hb3 : vp_in x4 n1) (kt : ¬ ((lg_cmp (h_l h a0 x4.toNatClampNeg) l1) = 0) → wpx d P_Te_takeName 39 [.ref r0, .long l1, .retAddr 2, .int x3, .int x4] [] h Q) (kf : (lg_cmp (h_l h a0 x4.toNatClampNeg) l1) = 0 → wpx d P_Te_takeName 34 [.ref r0, .long l1, .retAddr 2, .int x3, .int x4] [] h Q) : wpx d P_Te_takeName 22 [.ref r0, .long l1, .retAddr 2, .int x3, .int x4] [] h Q := by
  refine st_aload (pc' := 23) rfl rfl rfl ?_
  refine st_getfr (x := some a0) (Or.inl rfl) rfl hs0 rfl hr1 (pc' := 26) rfl ?_
  refine st_iload (pc' := 28) rfl rfl rfl ?_
  refine st_laload rfl hs2 hb3 (j := x4.toNatClampNeg) rfl (pc' := 29) rfl ?_
  refine st_lload (pc' := 30) rfl rfl rfl rfl ?_
  refine st_lcmp (pc' := 31) rfl rfl ?_
  exact st_if_ne (pc' := 34) rfl rfl kt kf
theorem B_Te_takeName_34 {d : Nat} {h : PH} {Q : PQ} {r0 : Nat} {l1 : Int64} {x3 : Int32} {x4 : Int32} (hs0 : h_sh h r0 = some (0, 7)) (k : wpx d P_Te_takeName 39 [.ref r0, .long l1, .retAddr 2, .int x3, .int x4] [] (w_i h r0 7 3) Q) : wpx d P_Te_takeName 34 [.ref r0, .long l1, .retAddr 2, .int x3, .int x4] [] h Q := by
  refine st_aload (pc' := 35) rfl rfl rfl ?_
  refine st_ipush (pc' := 36) (v := 3) rfl rfl (by decide) ?_
  refine st_putf (h' := w_i h r0 7 3) (Or.inl rfl) rfl hs0 rfl rfl rfl (pc' := 39) rfl ?_
  exact k
theorem B_Te_takeName_39 {d : Nat} {h : PH} {Q : PQ} {r0 : Nat} {l1 : Int64} {x3 : Int32} {x4 : Int32}  (k : wpx d P_Te_takeName 13 [.ref r0, .long l1, .retAddr 2, .int x3, .int (x4 + 1)] [] h Q) : wpx d P_Te_takeName 39 [.ref r0, .long l1, .retAddr 2, .int x3, .int x4] [] h Q := by
  refine st_iinc (pc' := 42) (v := 1) (ls' := [.ref r0, .long l1, .retAddr 2, .int x3, .int (x4 + 1)]) rfl rfl rfl (by decide) rfl ?_
  exact st_goto rfl k
theorem B_Te_takeName_45 {d : Nat} {h : PH} {Q : PQ} {r0 : Nat} {l1 : Int64} {x3 : Int32} {x4 : Int32} (hs0 : h_sh h r0 = some (0, 7)) (kt : ¬ ((h_i h r0 7) = 0) → wpx d P_Te_takeName 86 [.ref r0, .long l1, .retAddr 2, .int x3, .int x4] [] h Q) (kf : (h_i h r0 7) = 0 → wpx d P_Te_takeName 52 [.ref r0, .long l1, .retAddr 2, .int x3, .int x4] [] h Q) : wpx d P_Te_takeName 45 [.ref r0, .long l1, .retAddr 2, .int x3, .int x4] [] h Q := by
  refine st_aload (pc' := 46) rfl rfl rfl ?_
  refine st_getfi (Or.inl rfl) rfl hs0 rfl (pc' := 49) rfl ?_
  exact st_if_ne (pc' := 52) rfl rfl kt kf
theorem B_Te_takeName_52 {d : Nat} {h : PH} {Q : PQ} {r0 : Nat} {l1 : Int64} {x3 : Int32} {x4 : Int32} (hs0 : h_sh h r0 = some (0, 7)) (kt : (10 : Int32) ≤ (h_i h r0 1) → wpx d P_Te_takeName 86 [.ref r0, .long l1, .retAddr 2, .int x3, .int x4] [] h Q) (kf : ¬ ((10 : Int32) ≤ (h_i h r0 1)) → wpx d P_Te_takeName 61 [.ref r0, .long l1, .retAddr 2, .int x3, .int x4] [] h Q) : wpx d P_Te_takeName 52 [.ref r0, .long l1, .retAddr 2, .int x3, .int x4] [] h Q := by
  refine st_aload (pc' := 53) rfl rfl rfl ?_
  refine st_getfi (Or.inl rfl) rfl hs0 rfl (pc' := 56) rfl ?_
  refine st_ipush (pc' := 58) (v := 10) rfl rfl (by decide) ?_
  exact st_icmp_ge (pc' := 61) rfl rfl kt kf
theorem B_Te_takeName_61 {d : Nat} {h : PH} {Q : PQ} {r0 : Nat} {l1 : Int64} {x3 : Int32} {x4 : Int32} {a0 : Nat} {n1 : Nat} (hs0 : h_sh h r0 = some (0, 7)) (hr1 : h_r h r0 0 = some a0) (hs2 : h_sh h a0 = some (4, n1)) (hb3 : vp_in (h_i h r0 1) n1) (k : wpx d P_Te_takeName 86 [.ref r0, .long l1, .retAddr 2, .int x3, .int x4] [] (w_i (w_i (w_l h a0 ((h_i h r0 1).toNatClampNeg) l1) r0 1 ((h_i (w_l h a0 ((h_i h r0 1).toNatClampNeg) l1) r0 1) + (1 : Int32))) r0 6 2) Q) : wpx d P_Te_takeName 61 [.ref r0, .long l1, .retAddr 2, .int x3, .int x4] [] h Q := by
  refine st_aload (pc' := 62) rfl rfl rfl ?_
  refine st_getfr (x := some a0) (Or.inl rfl) rfl hs0 rfl hr1 (pc' := 65) rfl ?_
  refine st_aload (pc' := 66) rfl rfl rfl ?_
  refine st_getfi (Or.inl rfl) rfl hs0 rfl (pc' := 69) rfl ?_
  refine st_lload (pc' := 70) rfl rfl rfl rfl ?_
  refine st_lastore rfl hs2 hb3 (j := (h_i h r0 1).toNatClampNeg) rfl (pc' := 71) rfl ?_
  refine st_aload (pc' := 72) rfl rfl rfl ?_
  refine st_dup (pc' := 73) rfl rfl rfl ?_
  refine st_getfi (Or.inl rfl) rfl hs0 rfl (pc' := 76) rfl ?_
  refine st_ipush (pc' := 77) (v := 1) rfl rfl (by decide) ?_
  refine st_iadd (pc' := 78) rfl rfl ?_
  refine st_putf (h' := w_i (w_l h a0 ((h_i h r0 1).toNatClampNeg) l1) r0 1 ((h_i (w_l h a0 ((h_i h r0 1).toNatClampNeg) l1) r0 1) + (1 : Int32))) (Or.inl rfl) rfl hs0 rfl rfl rfl (pc' := 81) rfl ?_
  refine st_aload (pc' := 82) rfl rfl rfl ?_
  refine st_ipush (pc' := 83) (v := 2) rfl rfl (by decide) ?_
  refine st_putf (h' := w_i (w_i (w_l h a0 ((h_i h r0 1).toNatClampNeg) l1) r0 1 ((h_i (w_l h a0 ((h_i h r0 1).toNatClampNeg) l1) r0 1) + (1 : Int32))) r0 6 2) (Or.inl rfl) rfl hs0 rfl rfl rfl (pc' := 86) rfl ?_
  exact k
theorem B_Te_takeName_86 {d : Nat} {h : PH} {Q : PQ} {r0 : Nat} {l1 : Int64} {x3 : Int32} {x4 : Int32}  (k : Q none h) : wpx d P_Te_takeName 86 [.ref r0, .long l1, .retAddr 2, .int x3, .int x4] [] h Q := by
  exact st_return rfl k
theorem B_Te_takeGroup_0 {d : Nat} {h : PH} {Q : PQ} {r0 : Nat} {l1 : Int64} {x3 : Int32} {v4 : Value}  (k : wpx d P_Te_takeGroup 3 [.ref r0, .long l1, .retAddr 2, .int x3, .int 0] [] h Q) : wpx d P_Te_takeGroup 0 [.ref r0, .long l1, .retAddr 2, .int x3, v4] [] h Q := by
  refine st_ipush (pc' := 1) (v := 0) rfl rfl (by decide) ?_
  refine st_istore (pc' := 3) (ls' := [.ref r0, .long l1, .retAddr 2, .int x3, .int 0]) rfl rfl (Nat.le_of_ble_eq_true rfl) rfl ?_
  exact k
theorem B_Te_takeGroup_3 {d : Nat} {h : PH} {Q : PQ} {r0 : Nat} {l1 : Int64} {x3 : Int32} {x4 : Int32} (hs0 : h_sh h r0 = some (0, 7)) (kt : (h_i h r0 5) ≤ x4 → wpx d P_Te_takeGroup 36 [.ref r0, .long l1, .retAddr 2, .int x3, .int x4] [] h Q) (kf : ¬ ((h_i h r0 5) ≤ x4) → wpx d P_Te_takeGroup 12 [.ref r0, .long l1, .retAddr 2, .int x3, .int x4] [] h Q) : wpx d P_Te_takeGroup 3 [.ref r0, .long l1, .retAddr 2, .int x3, .int x4] [] h Q := by
  refine st_iload (pc' := 5) rfl rfl rfl ?_
  refine st_aload (pc' := 6) rfl rfl rfl ?_
  refine st_getfi (Or.inl rfl) rfl hs0 rfl (pc' := 9) rfl ?_
  exact st_icmp_ge (pc' := 12) rfl rfl kt kf
theorem B_Te_takeGroup_12 {d : Nat} {h : PH} {Q : PQ} {r0 : Nat} {l1 : Int64} {x3 : Int32} {x4 : Int32} {a0 : Nat} {n1 : Nat} (hs0 : h_sh h r0 = some (0, 7)) (hr1 : h_r h r0 2 = some a0) (hs2 : h_sh h a0 = some (4, n1)) (hb3 : vp_in x4 n1) (kt : ¬ ((lg_cmp (h_l h a0 x4.toNatClampNeg) l1) = 0) → wpx d P_Te_takeGroup 30 [.ref r0, .long l1, .retAddr 2, .int x3, .int x4] [] h Q) (kf : (lg_cmp (h_l h a0 x4.toNatClampNeg) l1) = 0 → wpx d P_Te_takeGroup 24 [.ref r0, .long l1, .retAddr 2, .int x3, .int x4] [] h Q) : wpx d P_Te_takeGroup 12 [.ref r0, .long l1, .retAddr 2, .int x3, .int x4] [] h Q := by
  refine st_aload (pc' := 13) rfl rfl rfl ?_
  refine st_getfr (x := some a0) (Or.inl rfl) rfl hs0 rfl hr1 (pc' := 16) rfl ?_
  refine st_iload (pc' := 18) rfl rfl rfl ?_
  refine st_laload rfl hs2 hb3 (j := x4.toNatClampNeg) rfl (pc' := 19) rfl ?_
  refine st_lload (pc' := 20) rfl rfl rfl rfl ?_
  refine st_lcmp (pc' := 21) rfl rfl ?_
  exact st_if_ne (pc' := 24) rfl rfl kt kf
theorem B_Te_takeGroup_24 {d : Nat} {h : PH} {Q : PQ} {r0 : Nat} {l1 : Int64} {x3 : Int32} {x4 : Int32} (hs0 : h_sh h r0 = some (0, 7)) (k : Q none (w_i h r0 7 3)) : wpx d P_Te_takeGroup 24 [.ref r0, .long l1, .retAddr 2, .int x3, .int x4] [] h Q := by
  refine st_aload (pc' := 25) rfl rfl rfl ?_
  refine st_ipush (pc' := 26) (v := 3) rfl rfl (by decide) ?_
  refine st_putf (h' := w_i h r0 7 3) (Or.inl rfl) rfl hs0 rfl rfl rfl (pc' := 29) rfl ?_
  exact st_return rfl k
theorem B_Te_takeGroup_30 {d : Nat} {h : PH} {Q : PQ} {r0 : Nat} {l1 : Int64} {x3 : Int32} {x4 : Int32}  (k : wpx d P_Te_takeGroup 3 [.ref r0, .long l1, .retAddr 2, .int x3, .int (x4 + 1)] [] h Q) : wpx d P_Te_takeGroup 30 [.ref r0, .long l1, .retAddr 2, .int x3, .int x4] [] h Q := by
  refine st_iinc (pc' := 33) (v := 1) (ls' := [.ref r0, .long l1, .retAddr 2, .int x3, .int (x4 + 1)]) rfl rfl rfl (by decide) rfl ?_
  exact st_goto rfl k
theorem B_Te_takeGroup_36 {d : Nat} {h : PH} {Q : PQ} {r0 : Nat} {l1 : Int64} {x3 : Int32} {x4 : Int32} (hs0 : h_sh h r0 = some (0, 7)) (kt : (h_i h r0 5) < (14 : Int32) → wpx d P_Te_takeGroup 51 [.ref r0, .long l1, .retAddr 2, .int x3, .int x4] [] h Q) (kf : ¬ ((h_i h r0 5) < (14 : Int32)) → wpx d P_Te_takeGroup 45 [.ref r0, .long l1, .retAddr 2, .int x3, .int x4] [] h Q) : wpx d P_Te_takeGroup 36 [.ref r0, .long l1, .retAddr 2, .int x3, .int x4] [] h Q := by
  refine st_aload (pc' := 37) rfl rfl rfl ?_
  refine st_getfi (Or.inl rfl) rfl hs0 rfl (pc' := 40) rfl ?_
  refine st_ipush (pc' := 42) (v := 14) rfl rfl (by decide) ?_
  exact st_icmp_lt (pc' := 45) rfl rfl kt kf
theorem B_Te_takeGroup_45 {d : Nat} {h : PH} {Q : PQ} {r0 : Nat} {l1 : Int64} {x3 : Int32} {x4 : Int32} (hs0 : h_sh h r0 = some (0, 7)) (k : Q none (w_i h r0 7 4)) : wpx d P_Te_takeGroup 45 [.ref r0, .long l1, .retAddr 2, .int x3, .int x4] [] h Q := by
  refine st_aload (pc' := 46) rfl rfl rfl ?_
  refine st_ipush (pc' := 47) (v := 4) rfl rfl (by decide) ?_
  refine st_putf (h' := w_i h r0 7 4) (Or.inl rfl) rfl hs0 rfl rfl rfl (pc' := 50) rfl ?_
  exact st_return rfl k
theorem B_Te_takeGroup_51 {d : Nat} {h : PH} {Q : PQ} {r0 : Nat} {l1 : Int64} {x3 : Int32} {x4 : Int32} {a0 : Nat} {n1 : Nat} {a2 : Nat} {n3 : Nat} {a4 : Nat} {n5 : Nat} (hs0 : h_sh h r0 = some (0, 7)) (hr1 : h_r h r0 2 = some a0) (hs2 : h_sh h a0 = some (4, n1)) (hb3 : vp_in (h_i h r0 5) n1) (hr4 : h_r h r0 3 = some a2) (hs5 : h_sh h a2 = some (1, n3)) (hb6 : vp_in (h_i (w_l h a0 ((h_i h r0 5).toNatClampNeg) l1) r0 5) n3) (hr7 : h_r h r0 4 = some a4) (hs8 : h_sh h a4 = some (1, n5)) (hb9 : vp_in (h_i (w_i (w_l h a0 ((h_i h r0 5).toNatClampNeg) l1) a2 ((h_i (w_l h a0 ((h_i h r0 5).toNatClampNeg) l1) r0 5).toNatClampNeg) x3) r0 5) n5) (k : wpx d P_Te_takeGroup 86 [.ref r0, .long l1, .retAddr 2, .int x3, .int x4] [] (w_i (w_i (w_l h a0 ((h_i h r0 5).toNatClampNeg) l1) a2 ((h_i (w_l h a0 ((h_i h r0 5).toNatClampNeg) l1) r0 5).toNatClampNeg) x3) a4 ((h_i (w_i (w_l h a0 ((h_i h r0 5).toNatClampNeg) l1) a2 ((h_i (w_l h a0 ((h_i h r0 5).toNatClampNeg) l1) r0 5).toNatClampNeg) x3) r0 5).toNatClampNeg) ((h_i (w_i (w_l h a0 ((h_i h r0 5).toNatClampNeg) l1) a2 ((h_i (w_l h a0 ((h_i h r0 5).toNatClampNeg) l1) r0 5).toNatClampNeg) x3) r0 1) - (1 : Int32))) Q) : wpx d P_Te_takeGroup 51 [.ref r0, .long l1, .retAddr 2, .int x3, .int x4] [] h Q := by
  refine st_aload (pc' := 52) rfl rfl rfl ?_
  refine st_getfr (x := some a0) (Or.inl rfl) rfl hs0 rfl hr1 (pc' := 55) rfl ?_
  refine st_aload (pc' := 56) rfl rfl rfl ?_
  refine st_getfi (Or.inl rfl) rfl hs0 rfl (pc' := 59) rfl ?_
  refine st_lload (pc' := 60) rfl rfl rfl rfl ?_
  refine st_lastore rfl hs2 hb3 (j := (h_i h r0 5).toNatClampNeg) rfl (pc' := 61) rfl ?_
  refine st_aload (pc' := 62) rfl rfl rfl ?_
  refine st_getfr (x := some a2) (Or.inl rfl) rfl hs0 rfl hr4 (pc' := 65) rfl ?_
  refine st_aload (pc' := 66) rfl rfl rfl ?_
  refine st_getfi (Or.inl rfl) rfl hs0 rfl (pc' := 69) rfl ?_
  refine st_iload (pc' := 70) rfl rfl rfl ?_
  refine st_iastore rfl hs5 hb6 (j := (h_i (w_l h a0 ((h_i h r0 5).toNatClampNeg) l1) r0 5).toNatClampNeg) rfl (pc' := 71) rfl ?_
  refine st_aload (pc' := 72) rfl rfl rfl ?_
  refine st_getfr (x := some a4) (Or.inl rfl) rfl hs0 rfl hr7 (pc' := 75) rfl ?_
  refine st_aload (pc' := 76) rfl rfl rfl ?_
  refine st_getfi (Or.inl rfl) rfl hs0 rfl (pc' := 79) rfl ?_
  refine st_aload (pc' := 80) rfl rfl rfl ?_
  refine st_getfi (Or.inl rfl) rfl hs0 rfl (pc' := 83) rfl ?_
  refine st_ipush (pc' := 84) (v := 1) rfl rfl (by decide) ?_
  refine st_isub (pc' := 85) rfl rfl ?_
  refine st_iastore rfl hs8 hb9 (j := (h_i (w_i (w_l h a0 ((h_i h r0 5).toNatClampNeg) l1) a2 ((h_i (w_l h a0 ((h_i h r0 5).toNatClampNeg) l1) r0 5).toNatClampNeg) x3) r0 5).toNatClampNeg) rfl (pc' := 86) rfl ?_
  exact k
theorem B_Te_takeGroup_86 {d : Nat} {h : PH} {Q : PQ} {r0 : Nat} {l1 : Int64} {x3 : Int32} {x4 : Int32} (hs0 : h_sh h r0 = some (0, 7)) (k : Q none (w_i (w_i h r0 5 ((h_i h r0 5) + (1 : Int32))) r0 6 4)) : wpx d P_Te_takeGroup 86 [.ref r0, .long l1, .retAddr 2, .int x3, .int x4] [] h Q := by
  refine st_aload (pc' := 87) rfl rfl rfl ?_
  refine st_dup (pc' := 88) rfl rfl rfl ?_
  refine st_getfi (Or.inl rfl) rfl hs0 rfl (pc' := 91) rfl ?_
  refine st_ipush (pc' := 92) (v := 1) rfl rfl (by decide) ?_
  refine st_iadd (pc' := 93) rfl rfl ?_
  refine st_putf (h' := w_i h r0 5 ((h_i h r0 5) + (1 : Int32))) (Or.inl rfl) rfl hs0 rfl rfl rfl (pc' := 96) rfl ?_
  refine st_aload (pc' := 97) rfl rfl rfl ?_
  refine st_ipush (pc' := 98) (v := 4) rfl rfl (by decide) ?_
  refine st_putf (h' := w_i (w_i h r0 5 ((h_i h r0 5) + (1 : Int32))) r0 6 4) (Or.inl rfl) rfl hs0 rfl rfl rfl (pc' := 101) rfl ?_
  exact st_return rfl k
theorem B_Te_takeSign_0 {d : Nat} {h : PH} {Q : PQ} {r0 : Nat} {x1 : Int32}  (kt : x1 = (61 : Int32) → wpx d P_Te_takeSign 26 [.ref r0, .int x1] [] h Q) (kf : ¬ (x1 = (61 : Int32)) → wpx d P_Te_takeSign 6 [.ref r0, .int x1] [] h Q) : wpx d P_Te_takeSign 0 [.ref r0, .int x1] [] h Q := by
  refine st_iload (pc' := 1) rfl rfl rfl ?_
  refine st_ipush (pc' := 3) (v := 61) rfl rfl (by decide) ?_
  exact st_icmp_eq (pc' := 6) rfl rfl kt kf
theorem B_Te_takeSign_6 {d : Nat} {h : PH} {Q : PQ} {r0 : Nat} {x1 : Int32}  (kt : x1 = (124 : Int32) → wpx d P_Te_takeSign 26 [.ref r0, .int x1] [] h Q) (kf : ¬ (x1 = (124 : Int32)) → wpx d P_Te_takeSign 12 [.ref r0, .int x1] [] h Q) : wpx d P_Te_takeSign 6 [.ref r0, .int x1] [] h Q := by
  refine st_iload (pc' := 7) rfl rfl rfl ?_
  refine st_ipush (pc' := 9) (v := 124) rfl rfl (by decide) ?_
  exact st_icmp_eq (pc' := 12) rfl rfl kt kf
theorem B_Te_takeSign_12 {d : Nat} {h : PH} {Q : PQ} {r0 : Nat} {x1 : Int32}  (kt : x1 = (59 : Int32) → wpx d P_Te_takeSign 26 [.ref r0, .int x1] [] h Q) (kf : ¬ (x1 = (59 : Int32)) → wpx d P_Te_takeSign 18 [.ref r0, .int x1] [] h Q) : wpx d P_Te_takeSign 12 [.ref r0, .int x1] [] h Q := by
  refine st_iload (pc' := 13) rfl rfl rfl ?_
  refine st_ipush (pc' := 15) (v := 59) rfl rfl (by decide) ?_
  exact st_icmp_eq (pc' := 18) rfl rfl kt kf
theorem B_Te_takeSign_18 {d : Nat} {h : PH} {Q : PQ} {r0 : Nat} {x1 : Int32} (hs0 : h_sh h r0 = some (0, 7)) (k : wpx d P_Te_takeSign 97 [.ref r0, .int x1] [] (w_i h r0 7 1) Q) : wpx d P_Te_takeSign 18 [.ref r0, .int x1] [] h Q := by
  refine st_aload (pc' := 19) rfl rfl rfl ?_
  refine st_ipush (pc' := 20) (v := 1) rfl rfl (by decide) ?_
  refine st_putf (h' := w_i h r0 7 1) (Or.inl rfl) rfl hs0 rfl rfl rfl (pc' := 23) rfl ?_
  exact st_goto rfl k
theorem B_Te_takeSign_26 {d : Nat} {h : PH} {Q : PQ} {r0 : Nat} {x1 : Int32}  (kt : ¬ (x1 = (61 : Int32)) → wpx d P_Te_takeSign 48 [.ref r0, .int x1] [] h Q) (kf : x1 = (61 : Int32) → wpx d P_Te_takeSign 32 [.ref r0, .int x1] [] h Q) : wpx d P_Te_takeSign 26 [.ref r0, .int x1] [] h Q := by
  refine st_iload (pc' := 27) rfl rfl rfl ?_
  refine st_ipush (pc' := 29) (v := 61) rfl rfl (by decide) ?_
  exact st_icmp_ne (pc' := 32) rfl rfl kt kf
theorem B_Te_takeSign_32 {d : Nat} {h : PH} {Q : PQ} {r0 : Nat} {x1 : Int32} (hs0 : h_sh h r0 = some (0, 7)) (kt : ¬ ((h_i h r0 6) = (2 : Int32)) → wpx d P_Te_takeSign 48 [.ref r0, .int x1] [] h Q) (kf : (h_i h r0 6) = (2 : Int32) → wpx d P_Te_takeSign 40 [.ref r0, .int x1] [] h Q) : wpx d P_Te_takeSign 32 [.ref r0, .int x1] [] h Q := by
  refine st_aload (pc' := 33) rfl rfl rfl ?_
  refine st_getfi (Or.inl rfl) rfl hs0 rfl (pc' := 36) rfl ?_
  refine st_ipush (pc' := 37) (v := 2) rfl rfl (by decide) ?_
  exact st_icmp_ne (pc' := 40) rfl rfl kt kf
theorem B_Te_takeSign_40 {d : Nat} {h : PH} {Q : PQ} {r0 : Nat} {x1 : Int32} (hs0 : h_sh h r0 = some (0, 7)) (k : wpx d P_Te_takeSign 97 [.ref r0, .int x1] [] (w_i h r0 6 3) Q) : wpx d P_Te_takeSign 40 [.ref r0, .int x1] [] h Q := by
  refine st_aload (pc' := 41) rfl rfl rfl ?_
  refine st_ipush (pc' := 42) (v := 3) rfl rfl (by decide) ?_
  refine st_putf (h' := w_i h r0 6 3) (Or.inl rfl) rfl hs0 rfl rfl rfl (pc' := 45) rfl ?_
  exact st_goto rfl k
theorem B_Te_takeSign_48 {d : Nat} {h : PH} {Q : PQ} {r0 : Nat} {x1 : Int32}  (kt : ¬ (x1 = (124 : Int32)) → wpx d P_Te_takeSign 70 [.ref r0, .int x1] [] h Q) (kf : x1 = (124 : Int32) → wpx d P_Te_takeSign 54 [.ref r0, .int x1] [] h Q) : wpx d P_Te_takeSign 48 [.ref r0, .int x1] [] h Q := by
  refine st_iload (pc' := 49) rfl rfl rfl ?_
  refine st_ipush (pc' := 51) (v := 124) rfl rfl (by decide) ?_
  exact st_icmp_ne (pc' := 54) rfl rfl kt kf
theorem B_Te_takeSign_54 {d : Nat} {h : PH} {Q : PQ} {r0 : Nat} {x1 : Int32} (hs0 : h_sh h r0 = some (0, 7)) (kt : ¬ ((h_i h r0 6) = (4 : Int32)) → wpx d P_Te_takeSign 70 [.ref r0, .int x1] [] h Q) (kf : (h_i h r0 6) = (4 : Int32) → wpx d P_Te_takeSign 62 [.ref r0, .int x1] [] h Q) : wpx d P_Te_takeSign 54 [.ref r0, .int x1] [] h Q := by
  refine st_aload (pc' := 55) rfl rfl rfl ?_
  refine st_getfi (Or.inl rfl) rfl hs0 rfl (pc' := 58) rfl ?_
  refine st_ipush (pc' := 59) (v := 4) rfl rfl (by decide) ?_
  exact st_icmp_ne (pc' := 62) rfl rfl kt kf
theorem B_Te_takeSign_62 {d : Nat} {h : PH} {Q : PQ} {r0 : Nat} {x1 : Int32} (hs0 : h_sh h r0 = some (0, 7)) (k : wpx d P_Te_takeSign 97 [.ref r0, .int x1] [] (w_i h r0 6 3) Q) : wpx d P_Te_takeSign 62 [.ref r0, .int x1] [] h Q := by
  refine st_aload (pc' := 63) rfl rfl rfl ?_
  refine st_ipush (pc' := 64) (v := 3) rfl rfl (by decide) ?_
  refine st_putf (h' := w_i h r0 6 3) (Or.inl rfl) rfl hs0 rfl rfl rfl (pc' := 67) rfl ?_
  exact st_goto rfl k
theorem B_Te_takeSign_70 {d : Nat} {h : PH} {Q : PQ} {r0 : Nat} {x1 : Int32}  (kt : ¬ (x1 = (59 : Int32)) → wpx d P_Te_takeSign 92 [.ref r0, .int x1] [] h Q) (kf : x1 = (59 : Int32) → wpx d P_Te_takeSign 76 [.ref r0, .int x1] [] h Q) : wpx d P_Te_takeSign 70 [.ref r0, .int x1] [] h Q := by
  refine st_iload (pc' := 71) rfl rfl rfl ?_
  refine st_ipush (pc' := 73) (v := 59) rfl rfl (by decide) ?_
  exact st_icmp_ne (pc' := 76) rfl rfl kt kf
theorem B_Te_takeSign_76 {d : Nat} {h : PH} {Q : PQ} {r0 : Nat} {x1 : Int32} (hs0 : h_sh h r0 = some (0, 7)) (kt : ¬ ((h_i h r0 6) = (4 : Int32)) → wpx d P_Te_takeSign 92 [.ref r0, .int x1] [] h Q) (kf : (h_i h r0 6) = (4 : Int32) → wpx d P_Te_takeSign 84 [.ref r0, .int x1] [] h Q) : wpx d P_Te_takeSign 76 [.ref r0, .int x1] [] h Q := by
  refine st_aload (pc' := 77) rfl rfl rfl ?_
  refine st_getfi (Or.inl rfl) rfl hs0 rfl (pc' := 80) rfl ?_
  refine st_ipush (pc' := 81) (v := 4) rfl rfl (by decide) ?_
  exact st_icmp_ne (pc' := 84) rfl rfl kt kf
theorem B_Te_takeSign_84 {d : Nat} {h : PH} {Q : PQ} {r0 : Nat} {x1 : Int32} (hs0 : h_sh h r0 = some (0, 7)) (k : wpx d P_Te_takeSign 97 [.ref r0, .int x1] [] (w_i h r0 6 0) Q) : wpx d P_Te_takeSign 84 [.ref r0, .int x1] [] h Q := by
  refine st_aload (pc' := 85) rfl rfl rfl ?_
  refine st_ipush (pc' := 86) (v := 0) rfl rfl (by decide) ?_
  refine st_putf (h' := w_i h r0 6 0) (Or.inl rfl) rfl hs0 rfl rfl rfl (pc' := 89) rfl ?_
  exact st_goto rfl k
theorem B_Te_takeSign_92 {d : Nat} {h : PH} {Q : PQ} {r0 : Nat} {x1 : Int32} (hs0 : h_sh h r0 = some (0, 7)) (k : wpx d P_Te_takeSign 97 [.ref r0, .int x1] [] (w_i h r0 7 2) Q) : wpx d P_Te_takeSign 92 [.ref r0, .int x1] [] h Q := by
  refine st_aload (pc' := 93) rfl rfl rfl ?_
  refine st_ipush (pc' := 94) (v := 2) rfl rfl (by decide) ?_
  refine st_putf (h' := w_i h r0 7 2) (Or.inl rfl) rfl hs0 rfl rfl rfl (pc' := 97) rfl ?_
  exact k
theorem B_Te_takeSign_97 {d : Nat} {h : PH} {Q : PQ} {r0 : Nat} {x1 : Int32}  (k : Q none h) : wpx d P_Te_takeSign 97 [.ref r0, .int x1] [] h Q := by
  exact st_return rfl k
theorem B_Ji_bitCount_0 {d : Nat} {h : PH} {Q : PQ} {x0 : Int32}  (k : Q (some (.int ((((((((x0 - (((x0.toUInt32 >>> ((1 : Int32).toUInt32 &&& Int32.toUInt32 31)).toInt32) &&& (1431655765 : Int32))) &&& (858993459 : Int32)) + ((((x0 - (((x0.toUInt32 >>> ((1 : Int32).toUInt32 &&& Int32.toUInt32 31)).toInt32) &&& (1431655765 : Int32))).toUInt32 >>> ((2 : Int32).toUInt32 &&& Int32.toUInt32 31)).toInt32) &&& (858993459 : Int32))) + (((((x0 - (((x0.toUInt32 >>> ((1 : Int32).toUInt32 &&& Int32.toUInt32 31)).toInt32) &&& (1431655765 : Int32))) &&& (858993459 : Int32)) + ((((x0 - (((x0.toUInt32 >>> ((1 : Int32).toUInt32 &&& Int32.toUInt32 31)).toInt32) &&& (1431655765 : Int32))).toUInt32 >>> ((2 : Int32).toUInt32 &&& Int32.toUInt32 31)).toInt32) &&& (858993459 : Int32))).toUInt32 >>> ((4 : Int32).toUInt32 &&& Int32.toUInt32 31)).toInt32)) &&& (252645135 : Int32)) + (((((((x0 - (((x0.toUInt32 >>> ((1 : Int32).toUInt32 &&& Int32.toUInt32 31)).toInt32) &&& (1431655765 : Int32))) &&& (858993459 : Int32)) + ((((x0 - (((x0.toUInt32 >>> ((1 : Int32).toUInt32 &&& Int32.toUInt32 31)).toInt32) &&& (1431655765 : Int32))).toUInt32 >>> ((2 : Int32).toUInt32 &&& Int32.toUInt32 31)).toInt32) &&& (858993459 : Int32))) + (((((x0 - (((x0.toUInt32 >>> ((1 : Int32).toUInt32 &&& Int32.toUInt32 31)).toInt32) &&& (1431655765 : Int32))) &&& (858993459 : Int32)) + ((((x0 - (((x0.toUInt32 >>> ((1 : Int32).toUInt32 &&& Int32.toUInt32 31)).toInt32) &&& (1431655765 : Int32))).toUInt32 >>> ((2 : Int32).toUInt32 &&& Int32.toUInt32 31)).toInt32) &&& (858993459 : Int32))).toUInt32 >>> ((4 : Int32).toUInt32 &&& Int32.toUInt32 31)).toInt32)) &&& (252645135 : Int32)).toUInt32 >>> ((8 : Int32).toUInt32 &&& Int32.toUInt32 31)).toInt32)) + ((((((((x0 - (((x0.toUInt32 >>> ((1 : Int32).toUInt32 &&& Int32.toUInt32 31)).toInt32) &&& (1431655765 : Int32))) &&& (858993459 : Int32)) + ((((x0 - (((x0.toUInt32 >>> ((1 : Int32).toUInt32 &&& Int32.toUInt32 31)).toInt32) &&& (1431655765 : Int32))).toUInt32 >>> ((2 : Int32).toUInt32 &&& Int32.toUInt32 31)).toInt32) &&& (858993459 : Int32))) + (((((x0 - (((x0.toUInt32 >>> ((1 : Int32).toUInt32 &&& Int32.toUInt32 31)).toInt32) &&& (1431655765 : Int32))) &&& (858993459 : Int32)) + ((((x0 - (((x0.toUInt32 >>> ((1 : Int32).toUInt32 &&& Int32.toUInt32 31)).toInt32) &&& (1431655765 : Int32))).toUInt32 >>> ((2 : Int32).toUInt32 &&& Int32.toUInt32 31)).toInt32) &&& (858993459 : Int32))).toUInt32 >>> ((4 : Int32).toUInt32 &&& Int32.toUInt32 31)).toInt32)) &&& (252645135 : Int32)) + (((((((x0 - (((x0.toUInt32 >>> ((1 : Int32).toUInt32 &&& Int32.toUInt32 31)).toInt32) &&& (1431655765 : Int32))) &&& (858993459 : Int32)) + ((((x0 - (((x0.toUInt32 >>> ((1 : Int32).toUInt32 &&& Int32.toUInt32 31)).toInt32) &&& (1431655765 : Int32))).toUInt32 >>> ((2 : Int32).toUInt32 &&& Int32.toUInt32 31)).toInt32) &&& (858993459 : Int32))) + (((((x0 - (((x0.toUInt32 >>> ((1 : Int32).toUInt32 &&& Int32.toUInt32 31)).toInt32) &&& (1431655765 : Int32))) &&& (858993459 : Int32)) + ((((x0 - (((x0.toUInt32 >>> ((1 : Int32).toUInt32 &&& Int32.toUInt32 31)).toInt32) &&& (1431655765 : Int32))).toUInt32 >>> ((2 : Int32).toUInt32 &&& Int32.toUInt32 31)).toInt32) &&& (858993459 : Int32))).toUInt32 >>> ((4 : Int32).toUInt32 &&& Int32.toUInt32 31)).toInt32)) &&& (252645135 : Int32)).toUInt32 >>> ((8 : Int32).toUInt32 &&& Int32.toUInt32 31)).toInt32)).toUInt32 >>> ((16 : Int32).toUInt32 &&& Int32.toUInt32 31)).toInt32)) &&& (63 : Int32)))) h) : wpx d P_Ji_bitCount 0 [.int x0] [] h Q := by
  refine st_iload (pc' := 1) rfl rfl rfl ?_
  refine st_iload (pc' := 2) rfl rfl rfl ?_
  refine st_ipush (pc' := 3) (v := 1) rfl rfl (by decide) ?_
  refine st_iushr (pc' := 4) rfl rfl ?_
  refine st_ldc (pc' := 7) (v := 1431655765) rfl rfl (by decide) ?_
  refine st_iand (pc' := 8) rfl rfl ?_
  refine st_isub (pc' := 9) rfl rfl ?_
  refine st_istore (pc' := 10) (ls' := [.int (x0 - (((x0.toUInt32 >>> ((1 : Int32).toUInt32 &&& Int32.toUInt32 31)).toInt32) &&& (1431655765 : Int32)))]) rfl rfl (Nat.le_of_ble_eq_true rfl) rfl ?_
  refine st_iload (pc' := 11) rfl rfl rfl ?_
  refine st_ldc (pc' := 14) (v := 858993459) rfl rfl (by decide) ?_
  refine st_iand (pc' := 15) rfl rfl ?_
  refine st_iload (pc' := 16) rfl rfl rfl ?_
  refine st_ipush (pc' := 17) (v := 2) rfl rfl (by decide) ?_
  refine st_iushr (pc' := 18) rfl rfl ?_
  refine st_ldc (pc' := 21) (v := 858993459) rfl rfl (by decide) ?_
  refine st_iand (pc' := 22) rfl rfl ?_
  refine st_iadd (pc' := 23) rfl rfl ?_
  refine st_istore (pc' := 24) (ls' := [.int (((x0 - (((x0.toUInt32 >>> ((1 : Int32).toUInt32 &&& Int32.toUInt32 31)).toInt32) &&& (1431655765 : Int32))) &&& (858993459 : Int32)) + ((((x0 - (((x0.toUInt32 >>> ((1 : Int32).toUInt32 &&& Int32.toUInt32 31)).toInt32) &&& (1431655765 : Int32))).toUInt32 >>> ((2 : Int32).toUInt32 &&& Int32.toUInt32 31)).toInt32) &&& (858993459 : Int32)))]) rfl rfl (Nat.le_of_ble_eq_true rfl) rfl ?_
  refine st_iload (pc' := 25) rfl rfl rfl ?_
  refine st_iload (pc' := 26) rfl rfl rfl ?_
  refine st_ipush (pc' := 27) (v := 4) rfl rfl (by decide) ?_
  refine st_iushr (pc' := 28) rfl rfl ?_
  refine st_iadd (pc' := 29) rfl rfl ?_
  refine st_ldc (pc' := 32) (v := 252645135) rfl rfl (by decide) ?_
  refine st_iand (pc' := 33) rfl rfl ?_
  refine st_istore (pc' := 34) (ls' := [.int (((((x0 - (((x0.toUInt32 >>> ((1 : Int32).toUInt32 &&& Int32.toUInt32 31)).toInt32) &&& (1431655765 : Int32))) &&& (858993459 : Int32)) + ((((x0 - (((x0.toUInt32 >>> ((1 : Int32).toUInt32 &&& Int32.toUInt32 31)).toInt32) &&& (1431655765 : Int32))).toUInt32 >>> ((2 : Int32).toUInt32 &&& Int32.toUInt32 31)).toInt32) &&& (858993459 : Int32))) + (((((x0 - (((x0.toUInt32 >>> ((1 : Int32).toUInt32 &&& Int32.toUInt32 31)).toInt32) &&& (1431655765 : Int32))) &&& (858993459 : Int32)) + ((((x0 - (((x0.toUInt32 >>> ((1 : Int32).toUInt32 &&& Int32.toUInt32 31)).toInt32) &&& (1431655765 : Int32))).toUInt32 >>> ((2 : Int32).toUInt32 &&& Int32.toUInt32 31)).toInt32) &&& (858993459 : Int32))).toUInt32 >>> ((4 : Int32).toUInt32 &&& Int32.toUInt32 31)).toInt32)) &&& (252645135 : Int32))]) rfl rfl (Nat.le_of_ble_eq_true rfl) rfl ?_
  refine st_iload (pc' := 35) rfl rfl rfl ?_
  refine st_iload (pc' := 36) rfl rfl rfl ?_
  refine st_ipush (pc' := 38) (v := 8) rfl rfl (by decide) ?_
  refine st_iushr (pc' := 39) rfl rfl ?_
  refine st_iadd (pc' := 40) rfl rfl ?_
  refine st_istore (pc' := 41) (ls' := [.int ((((((x0 - (((x0.toUInt32 >>> ((1 : Int32).toUInt32 &&& Int32.toUInt32 31)).toInt32) &&& (1431655765 : Int32))) &&& (858993459 : Int32)) + ((((x0 - (((x0.toUInt32 >>> ((1 : Int32).toUInt32 &&& Int32.toUInt32 31)).toInt32) &&& (1431655765 : Int32))).toUInt32 >>> ((2 : Int32).toUInt32 &&& Int32.toUInt32 31)).toInt32) &&& (858993459 : Int32))) + (((((x0 - (((x0.toUInt32 >>> ((1 : Int32).toUInt32 &&& Int32.toUInt32 31)).toInt32) &&& (1431655765 : Int32))) &&& (858993459 : Int32)) + ((((x0 - (((x0.toUInt32 >>> ((1 : Int32).toUInt32 &&& Int32.toUInt32 31)).toInt32) &&& (1431655765 : Int32))).toUInt32 >>> ((2 : Int32).toUInt32 &&& Int32.toUInt32 31)).toInt32) &&& (858993459 : Int32))).toUInt32 >>> ((4 : Int32).toUInt32 &&& Int32.toUInt32 31)).toInt32)) &&& (252645135 : Int32)) + (((((((x0 - (((x0.toUInt32 >>> ((1 : Int32).toUInt32 &&& Int32.toUInt32 31)).toInt32) &&& (1431655765 : Int32))) &&& (858993459 : Int32)) + ((((x0 - (((x0.toUInt32 >>> ((1 : Int32).toUInt32 &&& Int32.toUInt32 31)).toInt32) &&& (1431655765 : Int32))).toUInt32 >>> ((2 : Int32).toUInt32 &&& Int32.toUInt32 31)).toInt32) &&& (858993459 : Int32))) + (((((x0 - (((x0.toUInt32 >>> ((1 : Int32).toUInt32 &&& Int32.toUInt32 31)).toInt32) &&& (1431655765 : Int32))) &&& (858993459 : Int32)) + ((((x0 - (((x0.toUInt32 >>> ((1 : Int32).toUInt32 &&& Int32.toUInt32 31)).toInt32) &&& (1431655765 : Int32))).toUInt32 >>> ((2 : Int32).toUInt32 &&& Int32.toUInt32 31)).toInt32) &&& (858993459 : Int32))).toUInt32 >>> ((4 : Int32).toUInt32 &&& Int32.toUInt32 31)).toInt32)) &&& (252645135 : Int32)).toUInt32 >>> ((8 : Int32).toUInt32 &&& Int32.toUInt32 31)).toInt32))]) rfl rfl (Nat.le_of_ble_eq_true rfl) rfl ?_
  refine st_iload (pc' := 42) rfl rfl rfl ?_
  refine st_iload (pc' := 43) rfl rfl rfl ?_
  refine st_ipush (pc' := 45) (v := 16) rfl rfl (by decide) ?_
  refine st_iushr (pc' := 46) rfl rfl ?_
  refine st_iadd (pc' := 47) rfl rfl ?_
  refine st_istore (pc' := 48) (ls' := [.int (((((((x0 - (((x0.toUInt32 >>> ((1 : Int32).toUInt32 &&& Int32.toUInt32 31)).toInt32) &&& (1431655765 : Int32))) &&& (858993459 : Int32)) + ((((x0 - (((x0.toUInt32 >>> ((1 : Int32).toUInt32 &&& Int32.toUInt32 31)).toInt32) &&& (1431655765 : Int32))).toUInt32 >>> ((2 : Int32).toUInt32 &&& Int32.toUInt32 31)).toInt32) &&& (858993459 : Int32))) + (((((x0 - (((x0.toUInt32 >>> ((1 : Int32).toUInt32 &&& Int32.toUInt32 31)).toInt32) &&& (1431655765 : Int32))) &&& (858993459 : Int32)) + ((((x0 - (((x0.toUInt32 >>> ((1 : Int32).toUInt32 &&& Int32.toUInt32 31)).toInt32) &&& (1431655765 : Int32))).toUInt32 >>> ((2 : Int32).toUInt32 &&& Int32.toUInt32 31)).toInt32) &&& (858993459 : Int32))).toUInt32 >>> ((4 : Int32).toUInt32 &&& Int32.toUInt32 31)).toInt32)) &&& (252645135 : Int32)) + (((((((x0 - (((x0.toUInt32 >>> ((1 : Int32).toUInt32 &&& Int32.toUInt32 31)).toInt32) &&& (1431655765 : Int32))) &&& (858993459 : Int32)) + ((((x0 - (((x0.toUInt32 >>> ((1 : Int32).toUInt32 &&& Int32.toUInt32 31)).toInt32) &&& (1431655765 : Int32))).toUInt32 >>> ((2 : Int32).toUInt32 &&& Int32.toUInt32 31)).toInt32) &&& (858993459 : Int32))) + (((((x0 - (((x0.toUInt32 >>> ((1 : Int32).toUInt32 &&& Int32.toUInt32 31)).toInt32) &&& (1431655765 : Int32))) &&& (858993459 : Int32)) + ((((x0 - (((x0.toUInt32 >>> ((1 : Int32).toUInt32 &&& Int32.toUInt32 31)).toInt32) &&& (1431655765 : Int32))).toUInt32 >>> ((2 : Int32).toUInt32 &&& Int32.toUInt32 31)).toInt32) &&& (858993459 : Int32))).toUInt32 >>> ((4 : Int32).toUInt32 &&& Int32.toUInt32 31)).toInt32)) &&& (252645135 : Int32)).toUInt32 >>> ((8 : Int32).toUInt32 &&& Int32.toUInt32 31)).toInt32)) + ((((((((x0 - (((x0.toUInt32 >>> ((1 : Int32).toUInt32 &&& Int32.toUInt32 31)).toInt32) &&& (1431655765 : Int32))) &&& (858993459 : Int32)) + ((((x0 - (((x0.toUInt32 >>> ((1 : Int32).toUInt32 &&& Int32.toUInt32 31)).toInt32) &&& (1431655765 : Int32))).toUInt32 >>> ((2 : Int32).toUInt32 &&& Int32.toUInt32 31)).toInt32) &&& (858993459 : Int32))) + (((((x0 - (((x0.toUInt32 >>> ((1 : Int32).toUInt32 &&& Int32.toUInt32 31)).toInt32) &&& (1431655765 : Int32))) &&& (858993459 : Int32)) + ((((x0 - (((x0.toUInt32 >>> ((1 : Int32).toUInt32 &&& Int32.toUInt32 31)).toInt32) &&& (1431655765 : Int32))).toUInt32 >>> ((2 : Int32).toUInt32 &&& Int32.toUInt32 31)).toInt32) &&& (858993459 : Int32))).toUInt32 >>> ((4 : Int32).toUInt32 &&& Int32.toUInt32 31)).toInt32)) &&& (252645135 : Int32)) + (((((((x0 - (((x0.toUInt32 >>> ((1 : Int32).toUInt32 &&& Int32.toUInt32 31)).toInt32) &&& (1431655765 : Int32))) &&& (858993459 : Int32)) + ((((x0 - (((x0.toUInt32 >>> ((1 : Int32).toUInt32 &&& Int32.toUInt32 31)).toInt32) &&& (1431655765 : Int32))).toUInt32 >>> ((2 : Int32).toUInt32 &&& Int32.toUInt32 31)).toInt32) &&& (858993459 : Int32))) + (((((x0 - (((x0.toUInt32 >>> ((1 : Int32).toUInt32 &&& Int32.toUInt32 31)).toInt32) &&& (1431655765 : Int32))) &&& (858993459 : Int32)) + ((((x0 - (((x0.toUInt32 >>> ((1 : Int32).toUInt32 &&& Int32.toUInt32 31)).toInt32) &&& (1431655765 : Int32))).toUInt32 >>> ((2 : Int32).toUInt32 &&& Int32.toUInt32 31)).toInt32) &&& (858993459 : Int32))).toUInt32 >>> ((4 : Int32).toUInt32 &&& Int32.toUInt32 31)).toInt32)) &&& (252645135 : Int32)).toUInt32 >>> ((8 : Int32).toUInt32 &&& Int32.toUInt32 31)).toInt32)).toUInt32 >>> ((16 : Int32).toUInt32 &&& Int32.toUInt32 31)).toInt32))]) rfl rfl (Nat.le_of_ble_eq_true rfl) rfl ?_
  refine st_iload (pc' := 49) rfl rfl rfl ?_
  refine st_ipush (pc' := 51) (v := 63) rfl rfl (by decide) ?_
  refine st_iand (pc' := 52) rfl rfl ?_
  exact st_ireturn (ty := .int) rfl rfl rfl k
theorem B_Ja_fillI_0 {d : Nat} {h : PH} {Q : PQ} {r0 : Nat} {x1 : Int32} {v2 : Value} {v3 : Value} {n0 : Nat} (hs0 : h_sh h r0 = some (1, n0)) (k : wpx d P_Ja_fillI 5 [.ref r0, .int x1, .int 0, .int (Int32.ofNat n0)] [] h Q) : wpx d P_Ja_fillI 0 [.ref r0, .int x1, v2, v3] [] h Q := by
  refine st_ipush (pc' := 1) (v := 0) rfl rfl (by decide) ?_
  refine st_istore (pc' := 2) (ls' := [.ref r0, .int x1, .int 0, v3]) rfl rfl (Nat.le_of_ble_eq_true rfl) rfl ?_
  refine st_aload (pc' := 3) rfl rfl rfl ?_
  refine st_alen rfl hs0 (by decide) (pc' := 4) rfl ?_
  refine st_istore (pc' := 5) (ls' := [.ref r0, .int x1, .int 0, .int (Int32.ofNat n0)]) rfl rfl (Nat.le_of_ble_eq_true rfl) rfl ?_
  exact k
theorem B_Ja_fillI_5 {d : Nat} {h : PH} {Q : PQ} {r0 : Nat} {x1 : Int32} {x2 : Int32} {x3 : Int32}  (kt : x3 ≤ x2 → wpx d P_Ja_fillI 20 [.ref r0, .int x1, .int x2, .int x3] [] h Q) (kf : ¬ (x3 ≤ x2) → wpx d P_Ja_fillI 10 [.ref r0, .int x1, .int x2, .int x3] [] h Q) : wpx d P_Ja_fillI 5 [.ref r0, .int x1, .int x2, .int x3] [] h Q := by
  refine st_iload (pc' := 6) rfl rfl rfl ?_
  refine st_iload (pc' := 7) rfl rfl rfl ?_
  exact st_icmp_ge (pc' := 10) rfl rfl kt kf
theorem B_Ja_fillI_10 {d : Nat} {h : PH} {Q : PQ} {r0 : Nat} {x1 : Int32} {x2 : Int32} {x3 : Int32} {n0 : Nat} (hs0 : h_sh h r0 = some (1, n0)) (hb1 : vp_in x2 n0) (k : wpx d P_Ja_fillI 5 [.ref r0, .int x1, .int (x2 + 1), .int x3] [] (w_i h r0 x2.toNatClampNeg x1) Q) : wpx d P_Ja_fillI 10 [.ref r0, .int x1, .int x2, .int x3] [] h Q := by
  refine st_aload (pc' := 11) rfl rfl rfl ?_
  refine st_iload (pc' := 12) rfl rfl rfl ?_
  refine st_iload (pc' := 13) rfl rfl rfl ?_
  refine st_iastore rfl hs0 hb1 (j := x2.toNatClampNeg) rfl (pc' := 14) rfl ?_
  refine st_iinc (pc' := 17) (v := 1) (ls' := [.ref r0, .int x1, .int (x2 + 1), .int x3]) rfl rfl rfl (by decide) rfl ?_
  exact st_goto rfl k
theorem B_Ja_fillI_20 {d : Nat} {h : PH} {Q : PQ} {r0 : Nat} {x1 : Int32} {x2 : Int32} {x3 : Int32}  (k : Q none h) : wpx d P_Ja_fillI 20 [.ref r0, .int x1, .int x2, .int x3] [] h Q := by
  exact st_return rfl k
theorem B_Ja_copyB_0 {d : Nat} {h : PH} {Q : PQ} {r0 : Nat} {x1 : Int32} {v2 : Value} {n0 : Nat} (hs0 : h_sh h r0 = some (2, n0)) (kt : ¬ (x1 = (Int32.ofNat n0)) → wpx d P_Ja_copyB 14 [.ref r0, .int x1, v2] [] h Q) (kf : x1 = (Int32.ofNat n0) → wpx d P_Ja_copyB 6 [.ref r0, .int x1, v2] [] h Q) : wpx d P_Ja_copyB 0 [.ref r0, .int x1, v2] [] h Q := by
  refine st_iload (pc' := 1) rfl rfl rfl ?_
  refine st_aload (pc' := 2) rfl rfl rfl ?_
  refine st_alen rfl hs0 (by decide) (pc' := 3) rfl ?_
  exact st_icmp_ne (pc' := 6) rfl rfl kt kf
theorem B_Ja_copyB_14 {d : Nat} {h : PH} {Q : PQ} {r0 : Nat} {x1 : Int32} {v2 : Value} {n0 : Nat} {n1 : Nat} (hz0 : ¬ (x1 < 0 ∨ 60000000 < x1.toNatClampNeg)) (hs1 : h_sh (h_new h (2, x1.toNatClampNeg) x1.toNatClampNeg) r0 = some (2, n0)) (hs2 : h_sh (h_new h (2, x1.toNatClampNeg) x1.toNatClampNeg) (h_ct h) = some (2, n1)) (hc3 : (¬ (0 : Int32) < 0) ∧ (¬ (0 : Int32) < 0) ∧ (¬ (if x1 < (Int32.ofNat n0) then x1 else (Int32.ofNat n0)) < 0) ∧ (0 : Int32).toNatClampNeg + (if x1 < (Int32.ofNat n0) then x1 else (Int32.ofNat n0)).toNatClampNeg ≤ n0 ∧ (0 : Int32).toNatClampNeg + (if x1 < (Int32.ofNat n0) then x1 else (Int32.ofNat n0)).toNatClampNeg ≤ n1 ∧ (List.range (if x1 < (Int32.ofNat n0) then x1 else (Int32.ofNat n0)).toNatClampNeg).all (fun j => fits .byte (.int (h_i (h_new h (2, x1.toNatClampNeg) x1.toNatClampNeg) r0 ((0 : Int32).toNatClampNeg + j)))) = true) (k : wpx d P_Ja_copyB 31 [.ref r0, .int x1, .ref (h_ct h)] [] (w_ri (h_new h (2, x1.toNatClampNeg) x1.toNatClampNeg) (h_ct h) (va_cpy (h_i (h_new h (2, x1.toNatClampNeg) x1.toNatClampNeg) r0) (h_i (h_new h (2, x1.toNatClampNeg) x1.toNatClampNeg) (h_ct h)) 0 0 ((if x1 < (Int32.ofNat n0) then x1 else (Int32.ofNat n0)).toNatClampNeg))) Q) : wpx d P_Ja_copyB 14 [.ref r0, .int x1, v2] [] h Q := by
  refine st_iload (pc' := 15) rfl rfl rfl ?_
  refine st_newB rfl hz0 (j := x1.toNatClampNeg) rfl (pc' := 17) rfl ?_
  refine st_astore (pc' := 18) (ls' := [.ref r0, .int x1, .ref (h_ct h)]) rfl rfl (Nat.le_of_ble_eq_true rfl) rfl ?_
  refine st_aload (pc' := 19) rfl rfl rfl ?_
  refine st_ipush (pc' := 20) (v := 0) rfl rfl (by decide) ?_
  refine st_aload (pc' := 21) rfl rfl rfl ?_
  refine st_ipush (pc' := 22) (v := 0) rfl rfl (by decide) ?_
  refine st_aload (pc' := 23) rfl rfl rfl ?_
  refine st_alen rfl hs1 (by decide) (pc' := 24) rfl ?_
  refine st_iload (pc' := 25) rfl rfl rfl ?_
  refine st_mmin (pc' := 28) rfl rfl (Nat.le_of_ble_eq_true rfl) ?_
  refine st_copyB (pc' := 31) rfl rfl (Nat.le_of_ble_eq_true rfl) hs1 hs2 hc3 (js := 0) (jd := 0) (jn := (if x1 < (Int32.ofNat n0) then x1 else (Int32.ofNat n0)).toNatClampNeg) (by decide) (by decide) rfl ?_
  exact k
theorem B_Ja_copyB_31 {d : Nat} {h : PH} {Q : PQ} {r0 : Nat} {x1 : Int32} {r2 : Nat}  (k : Q (some (.ref r2)) h) : wpx d P_Ja_copyB 31 [.ref r0, .int x1, .ref r2] [] h Q := by
  refine st_aload (pc' := 32) rfl rfl rfl ?_
  exact st_areturn rfl k
theorem B_Ja_copyI_0 {d : Nat} {h : PH} {Q : PQ} {r0 : Nat} {x1 : Int32} {v2 : Value} {n0 : Nat} (hs0 : h_sh h r0 = some (1, n0)) (kt : ¬ (x1 = (Int32.ofNat n0)) → wpx d P_Ja_copyI 14 [.ref r0, .int x1, v2] [] h Q) (kf : x1 = (Int32.ofNat n0) → wpx d P_Ja_copyI 6 [.ref r0, .int x1, v2] [] h Q) : wpx d P_Ja_copyI 0 [.ref r0, .int x1, v2] [] h Q := by
  refine st_iload (pc' := 1) rfl rfl rfl ?_
  refine st_aload (pc' := 2) rfl rfl rfl ?_
  refine st_alen rfl hs0 (by decide) (pc' := 3) rfl ?_
  exact st_icmp_ne (pc' := 6) rfl rfl kt kf
theorem B_Ja_copyI_14 {d : Nat} {h : PH} {Q : PQ} {r0 : Nat} {x1 : Int32} {v2 : Value} {n0 : Nat} {n1 : Nat} (hz0 : ¬ (x1 < 0 ∨ 60000000 < x1.toNatClampNeg)) (hs1 : h_sh (h_new h (1, x1.toNatClampNeg) x1.toNatClampNeg) r0 = some (1, n0)) (hs2 : h_sh (h_new h (1, x1.toNatClampNeg) x1.toNatClampNeg) (h_ct h) = some (1, n1)) (hc3 : (¬ (0 : Int32) < 0) ∧ (¬ (0 : Int32) < 0) ∧ (¬ (if x1 < (Int32.ofNat n0) then x1 else (Int32.ofNat n0)) < 0) ∧ (0 : Int32).toNatClampNeg + (if x1 < (Int32.ofNat n0) then x1 else (Int32.ofNat n0)).toNatClampNeg ≤ n0 ∧ (0 : Int32).toNatClampNeg + (if x1 < (Int32.ofNat n0) then x1 else (Int32.ofNat n0)).toNatClampNeg ≤ n1) (k : wpx d P_Ja_copyI 31 [.ref r0, .int x1, .ref (h_ct h)] [] (w_ri (h_new h (1, x1.toNatClampNeg) x1.toNatClampNeg) (h_ct h) (va_cpy (h_i (h_new h (1, x1.toNatClampNeg) x1.toNatClampNeg) r0) (h_i (h_new h (1, x1.toNatClampNeg) x1.toNatClampNeg) (h_ct h)) 0 0 ((if x1 < (Int32.ofNat n0) then x1 else (Int32.ofNat n0)).toNatClampNeg))) Q) : wpx d P_Ja_copyI 14 [.ref r0, .int x1, v2] [] h Q := by
  refine st_iload (pc' := 15) rfl rfl rfl ?_
  refine st_newI rfl hz0 (j := x1.toNatClampNeg) rfl (pc' := 17) rfl ?_
  refine st_astore (pc' := 18) (ls' := [.ref r0, .int x1, .ref (h_ct h)]) rfl rfl (Nat.le_of_ble_eq_true rfl) rfl ?_
  refine st_aload (pc' := 19) rfl rfl rfl ?_
  refine st_ipush (pc' := 20) (v := 0) rfl rfl (by decide) ?_
  refine st_aload (pc' := 21) rfl rfl rfl ?_
  refine st_ipush (pc' := 22) (v := 0) rfl rfl (by decide) ?_
  refine st_aload (pc' := 23) rfl rfl rfl ?_
  refine st_alen rfl hs1 (by decide) (pc' := 24) rfl ?_
  refine st_iload (pc' := 25) rfl rfl rfl ?_
  refine st_mmin (pc' := 28) rfl rfl (Nat.le_of_ble_eq_true rfl) ?_
  refine st_copyI (pc' := 31) rfl rfl (Nat.le_of_ble_eq_true rfl) hs1 hs2 hc3 (js := 0) (jd := 0) (jn := (if x1 < (Int32.ofNat n0) then x1 else (Int32.ofNat n0)).toNatClampNeg) (by decide) (by decide) rfl ?_
  exact k
theorem B_Ja_copyI_31 {d : Nat} {h : PH} {Q : PQ} {r0 : Nat} {x1 : Int32} {r2 : Nat}  (k : Q (some (.ref r2)) h) : wpx d P_Ja_copyI 31 [.ref r0, .int x1, .ref r2] [] h Q := by
  refine st_aload (pc' := 32) rfl rfl rfl ?_
  exact st_areturn rfl k
