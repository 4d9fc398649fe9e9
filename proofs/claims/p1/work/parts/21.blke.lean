/-! stretches of methods -/
theorem B_Md_init_0 {d : Nat} {h : PH} {Q : PQ} {r0 : Nat} (hs0 : h_sh (h_new h (1, 112) 112) r0 = some (0, 12)) (hs1 : h_sh (h_new (w_r (h_new h (1, 112) 112) r0 1 (some (h_ct h))) (1, 14) 14) r0 = some (0, 12)) (hs2 : h_sh (h_new (w_r (h_new (w_r (h_new h (1, 112) 112) r0 1 (some (h_ct h))) (1, 14) 14) r0 2 (some (h_ct (w_r (h_new h (1, 112) 112) r0 1 (some (h_ct h)))))) (1, 14) 14) r0 = some (0, 12)) (k : wpx d P_Md_init 28 [.ref r0] [] (w_r (h_new (w_r (h_new (w_r (h_new h (1, 112) 112) r0 1 (some (h_ct h))) (1, 14) 14) r0 2 (some (h_ct (w_r (h_new h (1, 112) 112) r0 1 (some (h_ct h)))))) (1, 14) 14) r0 3 (some (h_ct (w_r (h_new (w_r (h_new h (1, 112) 112) r0 1 (some (h_ct h))) (1, 14) 14) r0 2 (some (h_ct (w_r (h_new h (1, 112) 112) r0 1 (some (h_ct h))))))))) Q) : wpx d P_Md_init 0 [.ref r0] [] h Q := by
  refine st_aload (pc' := 1) rfl rfl rfl ?_
  refine st_oinit (pc' := 4) rfl rfl (Nat.le_of_ble_eq_true rfl) ?_
  refine st_aload (pc' := 5) rfl rfl rfl ?_
  refine st_ipush (pc' := 7) (v := 112) rfl rfl (by decide) ?_
  refine st_newI rfl (by decide) (j := 112) (by decide) (pc' := 9) rfl ?_
  refine st_putf (h' := w_r (h_new h (1, 112) 112) r0 1 (some (h_ct h))) (Or.inr (Or.inr rfl)) rfl hs0 rfl rfl rfl (pc' := 12) rfl ?_
  refine st_aload (pc' := 13) rfl rfl rfl ?_
  refine st_ipush (pc' := 15) (v := 14) rfl rfl (by decide) ?_
  refine st_newI rfl (by decide) (j := 14) (by decide) (pc' := 17) rfl ?_
  refine st_putf (h' := w_r (h_new (w_r (h_new h (1, 112) 112) r0 1 (some (h_ct h))) (1, 14) 14) r0 2 (some (h_ct (w_r (h_new h (1, 112) 112) r0 1 (some (h_ct h)))))) (Or.inr (Or.inr rfl)) rfl hs1 rfl rfl rfl (pc' := 20) rfl ?_
  refine st_aload (pc' := 21) rfl rfl rfl ?_
  refine st_ipush (pc' := 23) (v := 14) rfl rfl (by decide) ?_
  refine st_newI rfl (by decide) (j := 14) (by decide) (pc' := 25) rfl ?_
  refine st_putf (h' := w_r (h_new (w_r (h_new (w_r (h_new h (1, 112) 112) r0 1 (some (h_ct h))) (1, 14) 14) r0 2 (some (h_ct (w_r (h_new h (1, 112) 112) r0 1 (some (h_ct h)))))) (1, 14) 14) r0 3 (some (h_ct (w_r (h_new (w_r (h_new h (1, 112) 112) r0 1 (some (h_ct h))) (1, 14) 14) r0 2 (some (h_ct (w_r (h_new h (1, 112) 112) r0 1 (some (h_ct h))))))))) (Or.inr (Or.inr rfl)) rfl hs2 rfl rfl rfl (pc' := 28) rfl ?_
  exact k
theorem B_Md_init_28 {d : Nat} {h : PH} {Q : PQ} {r0 : Nat} (hs0 : h_sh (h_new h (1, 600) 600) r0 = some (0, 12)) (hs1 : h_sh (h_new (w_r (h_new h (1, 600) 600) r0 7 (some (h_ct h))) (1, 10) 10) r0 = some (0, 12)) (hs2 : h_sh (h_new (w_r (h_new (w_r (h_new h (1, 600) 600) r0 7 (some (h_ct h))) (1, 10) 10) r0 8 (some (h_ct (w_r (h_new h (1, 600) 600) r0 7 (some (h_ct h)))))) (1, 112) 112) r0 = some (0, 12)) (k : wpx d P_Md_init 53 [.ref r0] [] (w_r (h_new (w_r (h_new (w_r (h_new h (1, 600) 600) r0 7 (some (h_ct h))) (1, 10) 10) r0 8 (some (h_ct (w_r (h_new h (1, 600) 600) r0 7 (some (h_ct h)))))) (1, 112) 112) r0 9 (some (h_ct (w_r (h_new (w_r (h_new h (1, 600) 600) r0 7 (some (h_ct h))) (1, 10) 10) r0 8 (some (h_ct (w_r (h_new h (1, 600) 600) r0 7 (some (h_ct h))))))))) Q) : wpx d P_Md_init 28 [.ref r0] [] h Q := by
  refine st_aload (pc' := 29) rfl rfl rfl ?_
  refine st_ipush (pc' := 32) (v := 600) rfl rfl (by decide) ?_
  refine st_newI rfl (by decide) (j := 600) (by decide) (pc' := 34) rfl ?_
  refine st_putf (h' := w_r (h_new h (1, 600) 600) r0 7 (some (h_ct h))) (Or.inr (Or.inr rfl)) rfl hs0 rfl rfl rfl (pc' := 37) rfl ?_
  refine st_aload (pc' := 38) rfl rfl rfl ?_
  refine st_ipush (pc' := 40) (v := 10) rfl rfl (by decide) ?_
  refine st_newI rfl (by decide) (j := 10) (by decide) (pc' := 42) rfl ?_
  refine st_putf (h' := w_r (h_new (w_r (h_new h (1, 600) 600) r0 7 (some (h_ct h))) (1, 10) 10) r0 8 (some (h_ct (w_r (h_new h (1, 600) 600) r0 7 (some (h_ct h)))))) (Or.inr (Or.inr rfl)) rfl hs1 rfl rfl rfl (pc' := 45) rfl ?_
  refine st_aload (pc' := 46) rfl rfl rfl ?_
  refine st_ipush (pc' := 48) (v := 112) rfl rfl (by decide) ?_
  refine st_newI rfl (by decide) (j := 112) (by decide) (pc' := 50) rfl ?_
  refine st_putf (h' := w_r (h_new (w_r (h_new (w_r (h_new h (1, 600) 600) r0 7 (some (h_ct h))) (1, 10) 10) r0 8 (some (h_ct (w_r (h_new h (1, 600) 600) r0 7 (some (h_ct h)))))) (1, 112) 112) r0 9 (some (h_ct (w_r (h_new (w_r (h_new h (1, 600) 600) r0 7 (some (h_ct h))) (1, 10) 10) r0 8 (some (h_ct (w_r (h_new h (1, 600) 600) r0 7 (some (h_ct h))))))))) (Or.inr (Or.inr rfl)) rfl hs2 rfl rfl rfl (pc' := 53) rfl ?_
  exact k
theorem B_Md_init_53 {d : Nat} {h : PH} {Q : PQ} {r0 : Nat} (hs0 : h_sh (h_new h (1, 14) 14) r0 = some (0, 12)) (hs1 : h_sh (h_new (w_r (h_new h (1, 14) 14) r0 10 (some (h_ct h))) (1, 14) 14) r0 = some (0, 12)) (hs2 : h_sh (h_new (w_i (w_r (h_new (w_r (h_new h (1, 14) 14) r0 10 (some (h_ct h))) (1, 14) 14) r0 11 (some (h_ct (w_r (h_new h (1, 14) 14) r0 10 (some (h_ct h)))))) r0 18 (-1)) (1, 800) 800) r0 = some (0, 12)) (k : wpx d P_Md_init 83 [.ref r0] [] (w_r (h_new (w_i (w_r (h_new (w_r (h_new h (1, 14) 14) r0 10 (some (h_ct h))) (1, 14) 14) r0 11 (some (h_ct (w_r (h_new h (1, 14) 14) r0 10 (some (h_ct h)))))) r0 18 (-1)) (1, 800) 800) r0 23 (some (h_ct (w_i (w_r (h_new (w_r (h_new h (1, 14) 14) r0 10 (some (h_ct h))) (1, 14) 14) r0 11 (some (h_ct (w_r (h_new h (1, 14) 14) r0 10 (some (h_ct h)))))) r0 18 (-1))))) Q) : wpx d P_Md_init 53 [.ref r0] [] h Q := by
  refine st_aload (pc' := 54) rfl rfl rfl ?_
  refine st_ipush (pc' := 56) (v := 14) rfl rfl (by decide) ?_
  refine st_newI rfl (by decide) (j := 14) (by decide) (pc' := 58) rfl ?_
  refine st_putf (h' := w_r (h_new h (1, 14) 14) r0 10 (some (h_ct h))) (Or.inr (Or.inr rfl)) rfl hs0 rfl rfl rfl (pc' := 61) rfl ?_
  refine st_aload (pc' := 62) rfl rfl rfl ?_
  refine st_ipush (pc' := 64) (v := 14) rfl rfl (by decide) ?_
  refine st_newI rfl (by decide) (j := 14) (by decide) (pc' := 66) rfl ?_
  refine st_putf (h' := w_r (h_new (w_r (h_new h (1, 14) 14) r0 10 (some (h_ct h))) (1, 14) 14) r0 11 (some (h_ct (w_r (h_new h (1, 14) 14) r0 10 (some (h_ct h)))))) (Or.inr (Or.inr rfl)) rfl hs1 rfl rfl rfl (pc' := 69) rfl ?_
  refine st_aload (pc' := 70) rfl rfl rfl ?_
  refine st_ipush (pc' := 71) (v := (-1)) rfl rfl (by decide) ?_
  refine st_putf (h' := w_i (w_r (h_new (w_r (h_new h (1, 14) 14) r0 10 (some (h_ct h))) (1, 14) 14) r0 11 (some (h_ct (w_r (h_new h (1, 14) 14) r0 10 (some (h_ct h)))))) r0 18 (-1)) (Or.inl rfl) rfl hs1 rfl rfl rfl (pc' := 74) rfl ?_
  refine st_aload (pc' := 75) rfl rfl rfl ?_
  refine st_ipush (pc' := 78) (v := 800) rfl rfl (by decide) ?_
  refine st_newI rfl (by decide) (j := 800) (by decide) (pc' := 80) rfl ?_
  refine st_putf (h' := w_r (h_new (w_i (w_r (h_new (w_r (h_new h (1, 14) 14) r0 10 (some (h_ct h))) (1, 14) 14) r0 11 (some (h_ct (w_r (h_new h (1, 14) 14) r0 10 (some (h_ct h)))))) r0 18 (-1)) (1, 800) 800) r0 23 (some (h_ct (w_i (w_r (h_new (w_r (h_new h (1, 14) 14) r0 10 (some (h_ct h))) (1, 14) 14) r0 11 (some (h_ct (w_r (h_new h (1, 14) 14) r0 10 (some (h_ct h)))))) r0 18 (-1))))) (Or.inr (Or.inr rfl)) rfl hs2 rfl rfl rfl (pc' := 83) rfl ?_
  exact k
theorem B_Md_init_83 {d : Nat} {h : PH} {Q : PQ} {r0 : Nat} (hs0 : h_sh (h_new h (1, 100) 100) r0 = some (0, 12)) (hs1 : h_sh (h_new (w_r (h_new h (1, 100) 100) r0 27 (some (h_ct h))) (1, 100) 100) r0 = some (0, 12)) (hs2 : h_sh (h_new (w_r (h_new (w_r (h_new h (1, 100) 100) r0 27 (some (h_ct h))) (1, 100) 100) r0 28 (some (h_ct (w_r (h_new h (1, 100) 100) r0 27 (some (h_ct h)))))) (1, 100) 100) r0 = some (0, 12)) (k : wpx d P_Md_init 107 [.ref r0] [] (w_r (h_new (w_r (h_new (w_r (h_new h (1, 100) 100) r0 27 (some (h_ct h))) (1, 100) 100) r0 28 (some (h_ct (w_r (h_new h (1, 100) 100) r0 27 (some (h_ct h)))))) (1, 100) 100) r0 29 (some (h_ct (w_r (h_new (w_r (h_new h (1, 100) 100) r0 27 (some (h_ct h))) (1, 100) 100) r0 28 (some (h_ct (w_r (h_new h (1, 100) 100) r0 27 (some (h_ct h))))))))) Q) : wpx d P_Md_init 83 [.ref r0] [] h Q := by
  refine st_aload (pc' := 84) rfl rfl rfl ?_
  refine st_ipush (pc' := 86) (v := 100) rfl rfl (by decide) ?_
  refine st_newI rfl (by decide) (j := 100) (by decide) (pc' := 88) rfl ?_
  refine st_putf (h' := w_r (h_new h (1, 100) 100) r0 27 (some (h_ct h))) (Or.inr (Or.inr rfl)) rfl hs0 rfl rfl rfl (pc' := 91) rfl ?_
  refine st_aload (pc' := 92) rfl rfl rfl ?_
  refine st_ipush (pc' := 94) (v := 100) rfl rfl (by decide) ?_
  refine st_newI rfl (by decide) (j := 100) (by decide) (pc' := 96) rfl ?_
  refine st_putf (h' := w_r (h_new (w_r (h_new h (1, 100) 100) r0 27 (some (h_ct h))) (1, 100) 100) r0 28 (some (h_ct (w_r (h_new h (1, 100) 100) r0 27 (some (h_ct h)))))) (Or.inr (Or.inr rfl)) rfl hs1 rfl rfl rfl (pc' := 99) rfl ?_
  refine st_aload (pc' := 100) rfl rfl rfl ?_
  refine st_ipush (pc' := 102) (v := 100) rfl rfl (by decide) ?_
  refine st_newI rfl (by decide) (j := 100) (by decide) (pc' := 104) rfl ?_
  refine st_putf (h' := w_r (h_new (w_r (h_new (w_r (h_new h (1, 100) 100) r0 27 (some (h_ct h))) (1, 100) 100) r0 28 (some (h_ct (w_r (h_new h (1, 100) 100) r0 27 (some (h_ct h)))))) (1, 100) 100) r0 29 (some (h_ct (w_r (h_new (w_r (h_new h (1, 100) 100) r0 27 (some (h_ct h))) (1, 100) 100) r0 28 (some (h_ct (w_r (h_new h (1, 100) 100) r0 27 (some (h_ct h))))))))) (Or.inr (Or.inr rfl)) rfl hs2 rfl rfl rfl (pc' := 107) rfl ?_
  exact k
theorem B_Md_init_107 {d : Nat} {h : PH} {Q : PQ} {r0 : Nat} (hs0 : h_sh (h_new h (1, 112) 112) r0 = some (0, 12)) (hs1 : h_sh (h_new (w_r (h_new h (1, 112) 112) r0 30 (some (h_ct h))) (1, 1400) 1400) r0 = some (0, 12)) (hs2 : h_sh (h_new (w_r (h_new (w_r (h_new h (1, 112) 112) r0 30 (some (h_ct h))) (1, 1400) 1400) r0 31 (some (h_ct (w_r (h_new h (1, 112) 112) r0 30 (some (h_ct h)))))) (1, 80000) 80000) r0 = some (0, 12)) (k : wpx d P_Md_init 132 [.ref r0] [] (w_r (h_new (w_r (h_new (w_r (h_new h (1, 112) 112) r0 30 (some (h_ct h))) (1, 1400) 1400) r0 31 (some (h_ct (w_r (h_new h (1, 112) 112) r0 30 (some (h_ct h)))))) (1, 80000) 80000) r0 35 (some (h_ct (w_r (h_new (w_r (h_new h (1, 112) 112) r0 30 (some (h_ct h))) (1, 1400) 1400) r0 31 (some (h_ct (w_r (h_new h (1, 112) 112) r0 30 (some (h_ct h))))))))) Q) : wpx d P_Md_init 107 [.ref r0] [] h Q := by
  refine st_aload (pc' := 108) rfl rfl rfl ?_
  refine st_ipush (pc' := 110) (v := 112) rfl rfl (by decide) ?_
  refine st_newI rfl (by decide) (j := 112) (by decide) (pc' := 112) rfl ?_
  refine st_putf (h' := w_r (h_new h (1, 112) 112) r0 30 (some (h_ct h))) (Or.inr (Or.inr rfl)) rfl hs0 rfl rfl rfl (pc' := 115) rfl ?_
  refine st_aload (pc' := 116) rfl rfl rfl ?_
  refine st_ipush (pc' := 119) (v := 1400) rfl rfl (by decide) ?_
  refine st_newI rfl (by decide) (j := 1400) (by decide) (pc' := 121) rfl ?_
  refine st_putf (h' := w_r (h_new (w_r (h_new h (1, 112) 112) r0 30 (some (h_ct h))) (1, 1400) 1400) r0 31 (some (h_ct (w_r (h_new h (1, 112) 112) r0 30 (some (h_ct h)))))) (Or.inr (Or.inr rfl)) rfl hs1 rfl rfl rfl (pc' := 124) rfl ?_
  refine st_aload (pc' := 125) rfl rfl rfl ?_
  refine st_ldc (pc' := 127) (v := 80000) rfl rfl (by decide) ?_
  refine st_newI rfl (by decide) (j := 80000) (by decide) (pc' := 129) rfl ?_
  refine st_putf (h' := w_r (h_new (w_r (h_new (w_r (h_new h (1, 112) 112) r0 30 (some (h_ct h))) (1, 1400) 1400) r0 31 (some (h_ct (w_r (h_new h (1, 112) 112) r0 30 (some (h_ct h)))))) (1, 80000) 80000) r0 35 (some (h_ct (w_r (h_new (w_r (h_new h (1, 112) 112) r0 30 (some (h_ct h))) (1, 1400) 1400) r0 31 (some (h_ct (w_r (h_new h (1, 112) 112) r0 30 (some (h_ct h))))))))) (Or.inr (Or.inr rfl)) rfl hs2 rfl rfl rfl (pc' := 132) rfl ?_
  exact k
theorem B_Md_init_132 {d : Nat} {h : PH} {Q : PQ} {r0 : Nat} (hs0 : h_sh (h_new h (1, 100) 100) r0 = some (0, 12)) (hs1 : h_sh (h_new (w_r (h_new h (1, 100) 100) r0 36 (some (h_ct h))) (1, 800) 800) r0 = some (0, 12)) (hs2 : h_sh (h_new (w_r (h_new (w_r (h_new h (1, 100) 100) r0 36 (some (h_ct h))) (1, 800) 800) r0 37 (some (h_ct (w_r (h_new h (1, 100) 100) r0 36 (some (h_ct h)))))) (1, 100) 100) r0 = some (0, 12)) (k : wpx d P_Md_init 157 [.ref r0] [] (w_r (h_new (w_r (h_new (w_r (h_new h (1, 100) 100) r0 36 (some (h_ct h))) (1, 800) 800) r0 37 (some (h_ct (w_r (h_new h (1, 100) 100) r0 36 (some (h_ct h)))))) (1, 100) 100) r0 39 (some (h_ct (w_r (h_new (w_r (h_new h (1, 100) 100) r0 36 (some (h_ct h))) (1, 800) 800) r0 37 (some (h_ct (w_r (h_new h (1, 100) 100) r0 36 (some (h_ct h))))))))) Q) : wpx d P_Md_init 132 [.ref r0] [] h Q := by
  refine st_aload (pc' := 133) rfl rfl rfl ?_
  refine st_ipush (pc' := 135) (v := 100) rfl rfl (by decide) ?_
  refine st_newI rfl (by decide) (j := 100) (by decide) (pc' := 137) rfl ?_
  refine st_putf (h' := w_r (h_new h (1, 100) 100) r0 36 (some (h_ct h))) (Or.inr (Or.inr rfl)) rfl hs0 rfl rfl rfl (pc' := 140) rfl ?_
  refine st_aload (pc' := 141) rfl rfl rfl ?_
  refine st_ipush (pc' := 144) (v := 800) rfl rfl (by decide) ?_
  refine st_newI rfl (by decide) (j := 800) (by decide) (pc' := 146) rfl ?_
  refine st_putf (h' := w_r (h_new (w_r (h_new h (1, 100) 100) r0 36 (some (h_ct h))) (1, 800) 800) r0 37 (some (h_ct (w_r (h_new h (1, 100) 100) r0 36 (some (h_ct h)))))) (Or.inr (Or.inr rfl)) rfl hs1 rfl rfl rfl (pc' := 149) rfl ?_
  refine st_aload (pc' := 150) rfl rfl rfl ?_
  refine st_ipush (pc' := 152) (v := 100) rfl rfl (by decide) ?_
  refine st_newI rfl (by decide) (j := 100) (by decide) (pc' := 154) rfl ?_
  refine st_putf (h' := w_r (h_new (w_r (h_new (w_r (h_new h (1, 100) 100) r0 36 (some (h_ct h))) (1, 800) 800) r0 37 (some (h_ct (w_r (h_new h (1, 100) 100) r0 36 (some (h_ct h)))))) (1, 100) 100) r0 39 (some (h_ct (w_r (h_new (w_r (h_new h (1, 100) 100) r0 36 (some (h_ct h))) (1, 800) 800) r0 37 (some (h_ct (w_r (h_new h (1, 100) 100) r0 36 (some (h_ct h))))))))) (Or.inr (Or.inr rfl)) rfl hs2 rfl rfl rfl (pc' := 157) rfl ?_
  exact k
theorem B_Md_init_157 {d : Nat} {h : PH} {Q : PQ} {r0 : Nat} (hs0 : h_sh (h_new h (4, 801) 801) r0 = some (0, 12)) (hs1 : h_sh (h_new (w_r (h_new h (4, 801) 801) r0 40 (some (h_ct h))) (1, 800) 800) r0 = some (0, 12)) (hs2 : h_sh (h_new (w_r (h_new (w_r (h_new h (4, 801) 801) r0 40 (some (h_ct h))) (1, 800) 800) r0 43 (some (h_ct (w_r (h_new h (4, 801) 801) r0 40 (some (h_ct h)))))) (1, 3000) 3000) r0 = some (0, 12)) (k : wpx d P_Md_init 184 [.ref r0] [] (w_r (h_new (w_r (h_new (w_r (h_new h (4, 801) 801) r0 40 (some (h_ct h))) (1, 800) 800) r0 43 (some (h_ct (w_r (h_new h (4, 801) 801) r0 40 (some (h_ct h)))))) (1, 3000) 3000) r0 44 (some (h_ct (w_r (h_new (w_r (h_new h (4, 801) 801) r0 40 (some (h_ct h))) (1, 800) 800) r0 43 (some (h_ct (w_r (h_new h (4, 801) 801) r0 40 (some (h_ct h))))))))) Q) : wpx d P_Md_init 157 [.ref r0] [] h Q := by
  refine st_aload (pc' := 158) rfl rfl rfl ?_
  refine st_ipush (pc' := 161) (v := 801) rfl rfl (by decide) ?_
  refine st_newL rfl (by decide) (j := 801) (by decide) (pc' := 163) rfl ?_
  refine st_putf (h' := w_r (h_new h (4, 801) 801) r0 40 (some (h_ct h))) (Or.inr (Or.inr rfl)) rfl hs0 rfl rfl rfl (pc' := 166) rfl ?_
  refine st_aload (pc' := 167) rfl rfl rfl ?_
  refine st_ipush (pc' := 170) (v := 800) rfl rfl (by decide) ?_
  refine st_newI rfl (by decide) (j := 800) (by decide) (pc' := 172) rfl ?_
  refine st_putf (h' := w_r (h_new (w_r (h_new h (4, 801) 801) r0 40 (some (h_ct h))) (1, 800) 800) r0 43 (some (h_ct (w_r (h_new h (4, 801) 801) r0 40 (some (h_ct h)))))) (Or.inr (Or.inr rfl)) rfl hs1 rfl rfl rfl (pc' := 175) rfl ?_
  refine st_aload (pc' := 176) rfl rfl rfl ?_
  refine st_ipush (pc' := 179) (v := 3000) rfl rfl (by decide) ?_
  refine st_newI rfl (by decide) (j := 3000) (by decide) (pc' := 181) rfl ?_
  refine st_putf (h' := w_r (h_new (w_r (h_new (w_r (h_new h (4, 801) 801) r0 40 (some (h_ct h))) (1, 800) 800) r0 43 (some (h_ct (w_r (h_new h (4, 801) 801) r0 40 (some (h_ct h)))))) (1, 3000) 3000) r0 44 (some (h_ct (w_r (h_new (w_r (h_new h (4, 801) 801) r0 40 (some (h_ct h))) (1, 800) 800) r0 43 (some (h_ct (w_r (h_new h (4, 801) 801) r0 40 (some (h_ct h))))))))) (Or.inr (Or.inr rfl)) rfl hs2 rfl rfl rfl (pc' := 184) rfl ?_
  exact k
theorem B_Md_init_184 {d : Nat} {h : PH} {Q : PQ} {r0 : Nat} (hs0 : h_sh (h_new h (1, 100) 100) r0 = some (0, 12)) (hs1 : h_sh (h_new (w_r (h_new h (1, 100) 100) r0 45 (some (h_ct h))) (1, 40) 40) r0 = some (0, 12)) (hs2 : h_sh (h_new (w_r (h_new (w_r (h_new h (1, 100) 100) r0 45 (some (h_ct h))) (1, 40) 40) r0 46 (some (h_ct (w_r (h_new h (1, 100) 100) r0 45 (some (h_ct h)))))) (3, 801) 801) r0 = some (0, 12)) (k : wpx d P_Md_init 209 [.ref r0] [] (w_r (h_new (w_r (h_new (w_r (h_new h (1, 100) 100) r0 45 (some (h_ct h))) (1, 40) 40) r0 46 (some (h_ct (w_r (h_new h (1, 100) 100) r0 45 (some (h_ct h)))))) (3, 801) 801) r0 48 (some (h_ct (w_r (h_new (w_r (h_new h (1, 100) 100) r0 45 (some (h_ct h))) (1, 40) 40) r0 46 (some (h_ct (w_r (h_new h (1, 100) 100) r0 45 (some (h_ct h))))))))) Q) : wpx d P_Md_init 184 [.ref r0] [] h Q := by
  refine st_aload (pc' := 185) rfl rfl rfl ?_
  refine st_ipush (pc' := 187) (v := 100) rfl rfl (by decide) ?_
  refine st_newI rfl (by decide) (j := 100) (by decide) (pc' := 189) rfl ?_
  refine st_putf (h' := w_r (h_new h (1, 100) 100) r0 45 (some (h_ct h))) (Or.inr (Or.inr rfl)) rfl hs0 rfl rfl rfl (pc' := 192) rfl ?_
  refine st_aload (pc' := 193) rfl rfl rfl ?_
  refine st_ipush (pc' := 195) (v := 40) rfl rfl (by decide) ?_
  refine st_newI rfl (by decide) (j := 40) (by decide) (pc' := 197) rfl ?_
  refine st_putf (h' := w_r (h_new (w_r (h_new h (1, 100) 100) r0 45 (some (h_ct h))) (1, 40) 40) r0 46 (some (h_ct (w_r (h_new h (1, 100) 100) r0 45 (some (h_ct h)))))) (Or.inr (Or.inr rfl)) rfl hs1 rfl rfl rfl (pc' := 200) rfl ?_
  refine st_aload (pc' := 201) rfl rfl rfl ?_
  refine st_ipush (pc' := 204) (v := 801) rfl rfl (by decide) ?_
  refine st_newZ rfl (by decide) (j := 801) (by decide) (pc' := 206) rfl ?_
  refine st_putf (h' := w_r (h_new (w_r (h_new (w_r (h_new h (1, 100) 100) r0 45 (some (h_ct h))) (1, 40) 40) r0 46 (some (h_ct (w_r (h_new h (1, 100) 100) r0 45 (some (h_ct h)))))) (3, 801) 801) r0 48 (some (h_ct (w_r (h_new (w_r (h_new h (1, 100) 100) r0 45 (some (h_ct h))) (1, 40) 40) r0 46 (some (h_ct (w_r (h_new h (1, 100) 100) r0 45 (some (h_ct h))))))))) (Or.inr (Or.inr rfl)) rfl hs2 rfl rfl rfl (pc' := 209) rfl ?_
  exact k
theorem B_Md_init_209 {d : Nat} {h : PH} {Q : PQ} {r0 : Nat} (hs0 : h_sh (h_new h (1, 4) 4) r0 = some (0, 12)) (hs1 : h_sh (h_new (w_r (h_new h (1, 4) 4) r0 49 (some (h_ct h))) (1, 4) 4) r0 = some (0, 12)) (hs2 : h_sh (h_new (w_r (h_new (w_r (h_new h (1, 4) 4) r0 49 (some (h_ct h))) (1, 4) 4) r0 50 (some (h_ct (w_r (h_new h (1, 4) 4) r0 49 (some (h_ct h)))))) (1, 2700) 2700) r0 = some (0, 12)) (k : wpx d P_Md_init 232 [.ref r0] [] (w_r (h_new (w_r (h_new (w_r (h_new h (1, 4) 4) r0 49 (some (h_ct h))) (1, 4) 4) r0 50 (some (h_ct (w_r (h_new h (1, 4) 4) r0 49 (some (h_ct h)))))) (1, 2700) 2700) r0 51 (some (h_ct (w_r (h_new (w_r (h_new h (1, 4) 4) r0 49 (some (h_ct h))) (1, 4) 4) r0 50 (some (h_ct (w_r (h_new h (1, 4) 4) r0 49 (some (h_ct h))))))))) Q) : wpx d P_Md_init 209 [.ref r0] [] h Q := by
  refine st_aload (pc' := 210) rfl rfl rfl ?_
  refine st_ipush (pc' := 211) (v := 4) rfl rfl (by decide) ?_
  refine st_newI rfl (by decide) (j := 4) (by decide) (pc' := 213) rfl ?_
  refine st_putf (h' := w_r (h_new h (1, 4) 4) r0 49 (some (h_ct h))) (Or.inr (Or.inr rfl)) rfl hs0 rfl rfl rfl (pc' := 216) rfl ?_
  refine st_aload (pc' := 217) rfl rfl rfl ?_
  refine st_ipush (pc' := 218) (v := 4) rfl rfl (by decide) ?_
  refine st_newI rfl (by decide) (j := 4) (by decide) (pc' := 220) rfl ?_
  refine st_putf (h' := w_r (h_new (w_r (h_new h (1, 4) 4) r0 49 (some (h_ct h))) (1, 4) 4) r0 50 (some (h_ct (w_r (h_new h (1, 4) 4) r0 49 (some (h_ct h)))))) (Or.inr (Or.inr rfl)) rfl hs1 rfl rfl rfl (pc' := 223) rfl ?_
  refine st_aload (pc' := 224) rfl rfl rfl ?_
  refine st_ipush (pc' := 227) (v := 2700) rfl rfl (by decide) ?_
  refine st_newI rfl (by decide) (j := 2700) (by decide) (pc' := 229) rfl ?_
  refine st_putf (h' := w_r (h_new (w_r (h_new (w_r (h_new h (1, 4) 4) r0 49 (some (h_ct h))) (1, 4) 4) r0 50 (some (h_ct (w_r (h_new h (1, 4) 4) r0 49 (some (h_ct h)))))) (1, 2700) 2700) r0 51 (some (h_ct (w_r (h_new (w_r (h_new h (1, 4) 4) r0 49 (some (h_ct h))) (1, 4) 4) r0 50 (some (h_ct (w_r (h_new h (1, 4) 4) r0 49 (some (h_ct h))))))))) (Or.inr (Or.inr rfl)) rfl hs2 rfl rfl rfl (pc' := 232) rfl ?_
  exact k
theorem B_Md_init_232 {d : Nat} {h : PH} {Q : PQ} {r0 : Nat} (hs0 : h_sh (h_new h (3, 100) 100) r0 = some (0, 12)) (hs1 : h_sh (h_new (w_r (h_new h (3, 100) 100) r0 52 (some (h_ct h))) (4, 131072) 131072) r0 = some (0, 12)) (hs2 : h_sh (h_new (w_r (h_new (w_r (h_new h (3, 100) 100) r0 52 (some (h_ct h))) (4, 131072) 131072) r0 54 (some (h_ct (w_r (h_new h (3, 100) 100) r0 52 (some (h_ct h)))))) (4, 32768) 32768) r0 = some (0, 12)) (k : wpx d P_Md_init 256 [.ref r0] [] (w_r (h_new (w_r (h_new (w_r (h_new h (3, 100) 100) r0 52 (some (h_ct h))) (4, 131072) 131072) r0 54 (some (h_ct (w_r (h_new h (3, 100) 100) r0 52 (some (h_ct h)))))) (4, 32768) 32768) r0 55 (some (h_ct (w_r (h_new (w_r (h_new h (3, 100) 100) r0 52 (some (h_ct h))) (4, 131072) 131072) r0 54 (some (h_ct (w_r (h_new h (3, 100) 100) r0 52 (some (h_ct h))))))))) Q) : wpx d P_Md_init 232 [.ref r0] [] h Q := by
  refine st_aload (pc' := 233) rfl rfl rfl ?_
  refine st_ipush (pc' := 235) (v := 100) rfl rfl (by decide) ?_
  refine st_newZ rfl (by decide) (j := 100) (by decide) (pc' := 237) rfl ?_
  refine st_putf (h' := w_r (h_new h (3, 100) 100) r0 52 (some (h_ct h))) (Or.inr (Or.inr rfl)) rfl hs0 rfl rfl rfl (pc' := 240) rfl ?_
  refine st_aload (pc' := 241) rfl rfl rfl ?_
  refine st_ldc (pc' := 243) (v := 131072) rfl rfl (by decide) ?_
  refine st_newL rfl (by decide) (j := 131072) (by decide) (pc' := 245) rfl ?_
  refine st_putf (h' := w_r (h_new (w_r (h_new h (3, 100) 100) r0 52 (some (h_ct h))) (4, 131072) 131072) r0 54 (some (h_ct (w_r (h_new h (3, 100) 100) r0 52 (some (h_ct h)))))) (Or.inr (Or.inr rfl)) rfl hs1 rfl rfl rfl (pc' := 248) rfl ?_
  refine st_aload (pc' := 249) rfl rfl rfl ?_
  refine st_ldc (pc' := 251) (v := 32768) rfl rfl (by decide) ?_
  refine st_newL rfl (by decide) (j := 32768) (by decide) (pc' := 253) rfl ?_
  refine st_putf (h' := w_r (h_new (w_r (h_new (w_r (h_new h (3, 100) 100) r0 52 (some (h_ct h))) (4, 131072) 131072) r0 54 (some (h_ct (w_r (h_new h (3, 100) 100) r0 52 (some (h_ct h)))))) (4, 32768) 32768) r0 55 (some (h_ct (w_r (h_new (w_r (h_new h (3, 100) 100) r0 52 (some (h_ct h))) (4, 131072) 131072) r0 54 (some (h_ct (w_r (h_new h (3, 100) 100) r0 52 (some (h_ct h))))))))) (Or.inr (Or.inr rfl)) rfl hs2 rfl rfl rfl (pc' := 256) rfl ?_
  exact k
theorem B_Md_init_256 {d : Nat} {h : PH} {Q : PQ} {r0 : Nat} (hs0 : h_sh (h_new h (3, 32768) 32768) r0 = some (0, 12)) (hs1 : h_sh (h_new (w_r (h_new h (3, 32768) 32768) r0 56 (some (h_ct h))) (1, 32768) 32768) r0 = some (0, 12)) (hs2 : h_sh (h_new (w_r (h_new (w_r (h_new h (3, 32768) 32768) r0 56 (some (h_ct h))) (1, 32768) 32768) r0 57 (some (h_ct (w_r (h_new h (3, 32768) 32768) r0 56 (some (h_ct h)))))) (1, 2) 2) r0 = some (0, 12)) (k : wpx d P_Md_init 279 [.ref r0] [] (w_r (h_new (w_r (h_new (w_r (h_new h (3, 32768) 32768) r0 56 (some (h_ct h))) (1, 32768) 32768) r0 57 (some (h_ct (w_r (h_new h (3, 32768) 32768) r0 56 (some (h_ct h)))))) (1, 2) 2) r0 58 (some (h_ct (w_r (h_new (w_r (h_new h (3, 32768) 32768) r0 56 (some (h_ct h))) (1, 32768) 32768) r0 57 (some (h_ct (w_r (h_new h (3, 32768) 32768) r0 56 (some (h_ct h))))))))) Q) : wpx d P_Md_init 256 [.ref r0] [] h Q := by
  refine st_aload (pc' := 257) rfl rfl rfl ?_
  refine st_ldc (pc' := 259) (v := 32768) rfl rfl (by decide) ?_
  refine st_newZ rfl (by decide) (j := 32768) (by decide) (pc' := 261) rfl ?_
  refine st_putf (h' := w_r (h_new h (3, 32768) 32768) r0 56 (some (h_ct h))) (Or.inr (Or.inr rfl)) rfl hs0 rfl rfl rfl (pc' := 264) rfl ?_
  refine st_aload (pc' := 265) rfl rfl rfl ?_
  refine st_ldc (pc' := 267) (v := 32768) rfl rfl (by decide) ?_
  refine st_newI rfl (by decide) (j := 32768) (by decide) (pc' := 269) rfl ?_
  refine st_putf (h' := w_r (h_new (w_r (h_new h (3, 32768) 32768) r0 56 (some (h_ct h))) (1, 32768) 32768) r0 57 (some (h_ct (w_r (h_new h (3, 32768) 32768) r0 56 (some (h_ct h)))))) (Or.inr (Or.inr rfl)) rfl hs1 rfl rfl rfl (pc' := 272) rfl ?_
  refine st_aload (pc' := 273) rfl rfl rfl ?_
  refine st_ipush (pc' := 274) (v := 2) rfl rfl (by decide) ?_
  refine st_newI rfl (by decide) (j := 2) (by decide) (pc' := 276) rfl ?_
  refine st_putf (h' := w_r (h_new (w_r (h_new (w_r (h_new h (3, 32768) 32768) r0 56 (some (h_ct h))) (1, 32768) 32768) r0 57 (some (h_ct (w_r (h_new h (3, 32768) 32768) r0 56 (some (h_ct h)))))) (1, 2) 2) r0 58 (some (h_ct (w_r (h_new (w_r (h_new h (3, 32768) 32768) r0 56 (some (h_ct h))) (1, 32768) 32768) r0 57 (some (h_ct (w_r (h_new h (3, 32768) 32768) r0 56 (some (h_ct h))))))))) (Or.inr (Or.inr rfl)) rfl hs2 rfl rfl rfl (pc' := 279) rfl ?_
  exact k
theorem B_Md_init_279 {d : Nat} {h : PH} {Q : PQ} {r0 : Nat} (hs0 : h_sh (h_new h (4, 4) 4) r0 = some (0, 12)) (hs1 : h_sh (h_new (w_r (h_new h (4, 4) 4) r0 59 (some (h_ct h))) (4, 4) 4) r0 = some (0, 12)) (hs2 : h_sh (h_new (w_r (h_new (w_r (h_new h (4, 4) 4) r0 59 (some (h_ct h))) (4, 4) 4) r0 60 (some (h_ct (w_r (h_new h (4, 4) 4) r0 59 (some (h_ct h)))))) (4, 4) 4) r0 = some (0, 12)) (k : wpx d P_Md_init 300 [.ref r0] [] (w_r (h_new (w_r (h_new (w_r (h_new h (4, 4) 4) r0 59 (some (h_ct h))) (4, 4) 4) r0 60 (some (h_ct (w_r (h_new h (4, 4) 4) r0 59 (some (h_ct h)))))) (4, 4) 4) r0 63 (some (h_ct (w_r (h_new (w_r (h_new h (4, 4) 4) r0 59 (some (h_ct h))) (4, 4) 4) r0 60 (some (h_ct (w_r (h_new h (4, 4) 4) r0 59 (some (h_ct h))))))))) Q) : wpx d P_Md_init 279 [.ref r0] [] h Q := by
  refine st_aload (pc' := 280) rfl rfl rfl ?_
  refine st_ipush (pc' := 281) (v := 4) rfl rfl (by decide) ?_
  refine st_newL rfl (by decide) (j := 4) (by decide) (pc' := 283) rfl ?_
  refine st_putf (h' := w_r (h_new h (4, 4) 4) r0 59 (some (h_ct h))) (Or.inr (Or.inr rfl)) rfl hs0 rfl rfl rfl (pc' := 286) rfl ?_
  refine st_aload (pc' := 287) rfl rfl rfl ?_
  refine st_ipush (pc' := 288) (v := 4) rfl rfl (by decide) ?_
  refine st_newL rfl (by decide) (j := 4) (by decide) (pc' := 290) rfl ?_
  refine st_putf (h' := w_r (h_new (w_r (h_new h (4, 4) 4) r0 59 (some (h_ct h))) (4, 4) 4) r0 60 (some (h_ct (w_r (h_new h (4, 4) 4) r0 59 (some (h_ct h)))))) (Or.inr (Or.inr rfl)) rfl hs1 rfl rfl rfl (pc' := 293) rfl ?_
  refine st_aload (pc' := 294) rfl rfl rfl ?_
  refine st_ipush (pc' := 295) (v := 4) rfl rfl (by decide) ?_
  refine st_newL rfl (by decide) (j := 4) (by decide) (pc' := 297) rfl ?_
  refine st_putf (h' := w_r (h_new (w_r (h_new (w_r (h_new h (4, 4) 4) r0 59 (some (h_ct h))) (4, 4) 4) r0 60 (some (h_ct (w_r (h_new h (4, 4) 4) r0 59 (some (h_ct h)))))) (4, 4) 4) r0 63 (some (h_ct (w_r (h_new (w_r (h_new h (4, 4) 4) r0 59 (some (h_ct h))) (4, 4) 4) r0 60 (some (h_ct (w_r (h_new h (4, 4) 4) r0 59 (some (h_ct h))))))))) (Or.inr (Or.inr rfl)) rfl hs2 rfl rfl rfl (pc' := 300) rfl ?_
  exact k
theorem B_Md_init_300 {d : Nat} {h : PH} {Q : PQ} {r0 : Nat} (hs0 : h_sh (h_new h (4, 4) 4) r0 = some (0, 12)) (hs1 : h_sh (h_new (w_r (h_new h (4, 4) 4) r0 64 (some (h_ct h))) (1, 40000) 40000) r0 = some (0, 12)) (hs2 : h_sh (h_new (w_r (h_new (w_r (h_new h (4, 4) 4) r0 64 (some (h_ct h))) (1, 40000) 40000) r0 65 (some (h_ct (w_r (h_new h (4, 4) 4) r0 64 (some (h_ct h)))))) (1, 2) 2) r0 = some (0, 12)) (k : wpx d P_Md_init 322 [.ref r0] [] (w_r (h_new (w_r (h_new (w_r (h_new h (4, 4) 4) r0 64 (some (h_ct h))) (1, 40000) 40000) r0 65 (some (h_ct (w_r (h_new h (4, 4) 4) r0 64 (some (h_ct h)))))) (1, 2) 2) r0 66 (some (h_ct (w_r (h_new (w_r (h_new h (4, 4) 4) r0 64 (some (h_ct h))) (1, 40000) 40000) r0 65 (some (h_ct (w_r (h_new h (4, 4) 4) r0 64 (some (h_ct h))))))))) Q) : wpx d P_Md_init 300 [.ref r0] [] h Q := by
  refine st_aload (pc' := 301) rfl rfl rfl ?_
  refine st_ipush (pc' := 302) (v := 4) rfl rfl (by decide) ?_
  refine st_newL rfl (by decide) (j := 4) (by decide) (pc' := 304) rfl ?_
  refine st_putf (h' := w_r (h_new h (4, 4) 4) r0 64 (some (h_ct h))) (Or.inr (Or.inr rfl)) rfl hs0 rfl rfl rfl (pc' := 307) rfl ?_
  refine st_aload (pc' := 308) rfl rfl rfl ?_
  refine st_ldc (pc' := 310) (v := 40000) rfl rfl (by decide) ?_
  refine st_newI rfl (by decide) (j := 40000) (by decide) (pc' := 312) rfl ?_
  refine st_putf (h' := w_r (h_new (w_r (h_new h (4, 4) 4) r0 64 (some (h_ct h))) (1, 40000) 40000) r0 65 (some (h_ct (w_r (h_new h (4, 4) 4) r0 64 (some (h_ct h)))))) (Or.inr (Or.inr rfl)) rfl hs1 rfl rfl rfl (pc' := 315) rfl ?_
  refine st_aload (pc' := 316) rfl rfl rfl ?_
  refine st_ipush (pc' := 317) (v := 2) rfl rfl (by decide) ?_
  refine st_newI rfl (by decide) (j := 2) (by decide) (pc' := 319) rfl ?_
  refine st_putf (h' := w_r (h_new (w_r (h_new (w_r (h_new h (4, 4) 4) r0 64 (some (h_ct h))) (1, 40000) 40000) r0 65 (some (h_ct (w_r (h_new h (4, 4) 4) r0 64 (some (h_ct h)))))) (1, 2) 2) r0 66 (some (h_ct (w_r (h_new (w_r (h_new h (4, 4) 4) r0 64 (some (h_ct h))) (1, 40000) 40000) r0 65 (some (h_ct (w_r (h_new h (4, 4) 4) r0 64 (some (h_ct h))))))))) (Or.inr (Or.inr rfl)) rfl hs2 rfl rfl rfl (pc' := 322) rfl ?_
  exact k
theorem B_Md_init_322 {d : Nat} {h : PH} {Q : PQ} {r0 : Nat} (hs0 : h_sh (h_new h (1, 20000) 20000) r0 = some (0, 12)) (hs1 : h_sh (h_new (w_r (h_new h (1, 20000) 20000) r0 67 (some (h_ct h))) (1, 4) 4) r0 = some (0, 12)) (hs2 : h_sh (h_new (w_r (h_new (w_r (h_new h (1, 20000) 20000) r0 67 (some (h_ct h))) (1, 4) 4) r0 68 (some (h_ct (w_r (h_new h (1, 20000) 20000) r0 67 (some (h_ct h)))))) (3, 5) 5) r0 = some (0, 12)) (k : wpx d P_Md_init 345 [.ref r0] [] (w_r (h_new (w_r (h_new (w_r (h_new h (1, 20000) 20000) r0 67 (some (h_ct h))) (1, 4) 4) r0 68 (some (h_ct (w_r (h_new h (1, 20000) 20000) r0 67 (some (h_ct h)))))) (3, 5) 5) r0 69 (some (h_ct (w_r (h_new (w_r (h_new h (1, 20000) 20000) r0 67 (some (h_ct h))) (1, 4) 4) r0 68 (some (h_ct (w_r (h_new h (1, 20000) 20000) r0 67 (some (h_ct h))))))))) Q) : wpx d P_Md_init 322 [.ref r0] [] h Q := by
  refine st_aload (pc' := 323) rfl rfl rfl ?_
  refine st_ipush (pc' := 326) (v := 20000) rfl rfl (by decide) ?_
  refine st_newI rfl (by decide) (j := 20000) (by decide) (pc' := 328) rfl ?_
  refine st_putf (h' := w_r (h_new h (1, 20000) 20000) r0 67 (some (h_ct h))) (Or.inr (Or.inr rfl)) rfl hs0 rfl rfl rfl (pc' := 331) rfl ?_
  refine st_aload (pc' := 332) rfl rfl rfl ?_
  refine st_ipush (pc' := 333) (v := 4) rfl rfl (by decide) ?_
  refine st_newI rfl (by decide) (j := 4) (by decide) (pc' := 335) rfl ?_
  refine st_putf (h' := w_r (h_new (w_r (h_new h (1, 20000) 20000) r0 67 (some (h_ct h))) (1, 4) 4) r0 68 (some (h_ct (w_r (h_new h (1, 20000) 20000) r0 67 (some (h_ct h)))))) (Or.inr (Or.inr rfl)) rfl hs1 rfl rfl rfl (pc' := 338) rfl ?_
  refine st_aload (pc' := 339) rfl rfl rfl ?_
  refine st_ipush (pc' := 340) (v := 5) rfl rfl (by decide) ?_
  refine st_newZ rfl (by decide) (j := 5) (by decide) (pc' := 342) rfl ?_
  refine st_putf (h' := w_r (h_new (w_r (h_new (w_r (h_new h (1, 20000) 20000) r0 67 (some (h_ct h))) (1, 4) 4) r0 68 (some (h_ct (w_r (h_new h (1, 20000) 20000) r0 67 (some (h_ct h)))))) (3, 5) 5) r0 69 (some (h_ct (w_r (h_new (w_r (h_new h (1, 20000) 20000) r0 67 (some (h_ct h))) (1, 4) 4) r0 68 (some (h_ct (w_r (h_new h (1, 20000) 20000) r0 67 (some (h_ct h))))))))) (Or.inr (Or.inr rfl)) rfl hs2 rfl rfl rfl (pc' := 345) rfl ?_
  exact k
theorem B_Md_init_345 {d : Nat} {h : PH} {Q : PQ} {r0 : Nat} (hs0 : h_sh (h_new h (1, 112) 112) r0 = some (0, 12)) (hs1 : h_sh (h_new (w_r (h_new h (1, 112) 112) r0 72 (some (h_ct h))) (3, 112) 112) r0 = some (0, 12)) (hs2 : h_sh (h_new (w_r (h_new (w_r (h_new h (1, 112) 112) r0 72 (some (h_ct h))) (3, 112) 112) r0 73 (some (h_ct (w_r (h_new h (1, 112) 112) r0 72 (some (h_ct h)))))) (1, 1692) 1692) r0 = some (0, 12)) (k : wpx d P_Md_init 370 [.ref r0] [] (w_r (h_new (w_r (h_new (w_r (h_new h (1, 112) 112) r0 72 (some (h_ct h))) (3, 112) 112) r0 73 (some (h_ct (w_r (h_new h (1, 112) 112) r0 72 (some (h_ct h)))))) (1, 1692) 1692) r0 75 (some (h_ct (w_r (h_new (w_r (h_new h (1, 112) 112) r0 72 (some (h_ct h))) (3, 112) 112) r0 73 (some (h_ct (w_r (h_new h (1, 112) 112) r0 72 (some (h_ct h))))))))) Q) : wpx d P_Md_init 345 [.ref r0] [] h Q := by
  refine st_aload (pc' := 346) rfl rfl rfl ?_
  refine st_ipush (pc' := 348) (v := 112) rfl rfl (by decide) ?_
  refine st_newI rfl (by decide) (j := 112) (by decide) (pc' := 350) rfl ?_
  refine st_putf (h' := w_r (h_new h (1, 112) 112) r0 72 (some (h_ct h))) (Or.inr (Or.inr rfl)) rfl hs0 rfl rfl rfl (pc' := 353) rfl ?_
  refine st_aload (pc' := 354) rfl rfl rfl ?_
  refine st_ipush (pc' := 356) (v := 112) rfl rfl (by decide) ?_
  refine st_newZ rfl (by decide) (j := 112) (by decide) (pc' := 358) rfl ?_
  refine st_putf (h' := w_r (h_new (w_r (h_new h (1, 112) 112) r0 72 (some (h_ct h))) (3, 112) 112) r0 73 (some (h_ct (w_r (h_new h (1, 112) 112) r0 72 (some (h_ct h)))))) (Or.inr (Or.inr rfl)) rfl hs1 rfl rfl rfl (pc' := 361) rfl ?_
  refine st_aload (pc' := 362) rfl rfl rfl ?_
  refine st_ipush (pc' := 365) (v := 1692) rfl rfl (by decide) ?_
  refine st_newI rfl (by decide) (j := 1692) (by decide) (pc' := 367) rfl ?_
  refine st_putf (h' := w_r (h_new (w_r (h_new (w_r (h_new h (1, 112) 112) r0 72 (some (h_ct h))) (3, 112) 112) r0 73 (some (h_ct (w_r (h_new h (1, 112) 112) r0 72 (some (h_ct h)))))) (1, 1692) 1692) r0 75 (some (h_ct (w_r (h_new (w_r (h_new h (1, 112) 112) r0 72 (some (h_ct h))) (3, 112) 112) r0 73 (some (h_ct (w_r (h_new h (1, 112) 112) r0 72 (some (h_ct h))))))))) (Or.inr (Or.inr rfl)) rfl hs2 rfl rfl rfl (pc' := 370) rfl ?_
  exact k
theorem B_Md_init_370 {d : Nat} {h : PH} {Q : PQ} {r0 : Nat}  (k : Q none h) : wpx d P_Md_init 370 [.ref r0] [] h Q := by
  exact st_return rfl k
theorem B_Md_in_0 {d : Nat} {h : PH} {Q : PQ} {x0 : Int32} {x1 : Int32} {x2 : Int32}  (kt : x0 < x1 → wpx d P_Md_in 14 [.int x0, .int x1, .int x2] [] h Q) (kf : ¬ (x0 < x1) → wpx d P_Md_in 5 [.int x0, .int x1, .int x2] [] h Q) : wpx d P_Md_in 0 [.int x0, .int x1, .int x2] [] h Q := by
  refine st_iload (pc' := 1) rfl rfl rfl ?_
  refine st_iload (pc' := 2) rfl rfl rfl ?_
  exact st_icmp_lt (pc' := 5) rfl rfl kt kf
theorem B_Md_in_5 {d : Nat} {h : PH} {Q : PQ} {x0 : Int32} {x1 : Int32} {x2 : Int32}  (kt : x2 < x0 → wpx d P_Md_in 14 [.int x0, .int x1, .int x2] [] h Q) (kf : ¬ (x2 < x0) → wpx d P_Md_in 10 [.int x0, .int x1, .int x2] [] h Q) : wpx d P_Md_in 5 [.int x0, .int x1, .int x2] [] h Q := by
  refine st_iload (pc' := 6) rfl rfl rfl ?_
  refine st_iload (pc' := 7) rfl rfl rfl ?_
  exact st_icmp_gt (pc' := 10) rfl rfl kt kf
theorem B_Md_in_10 {d : Nat} {h : PH} {Q : PQ} {x0 : Int32} {x1 : Int32} {x2 : Int32}  (k : wpx d P_Md_in 15 [.int x0, .int x1, .int x2] [.int 1] h Q) : wpx d P_Md_in 10 [.int x0, .int x1, .int x2] [] h Q := by
  refine st_ipush (pc' := 11) (v := 1) rfl rfl (by decide) ?_
  exact st_goto rfl k
theorem B_Md_in_14 {d : Nat} {h : PH} {Q : PQ} {x0 : Int32} {x1 : Int32} {x2 : Int32}  (k : wpx d P_Md_in 15 [.int x0, .int x1, .int x2] [.int 0] h Q) : wpx d P_Md_in 14 [.int x0, .int x1, .int x2] [] h Q := by
  refine st_ipush (pc' := 15) (v := 0) rfl rfl (by decide) ?_
  exact k
theorem B_Md_in_15 {d : Nat} {h : PH} {Q : PQ} {x0 : Int32} {x1 : Int32} {x2 : Int32} {s0 : Int32} (hz0 : narrow .boolean (.int s0) = .int s0) (k : Q (some (.int s0)) h) : wpx d P_Md_in 15 [.int x0, .int x1, .int x2] [.int s0] h Q := by
  exact st_ireturn (ty := .boolean) rfl rfl hz0 k
theorem B_Md_isOf_0 {d : Nat} {h : PH} {Q : PQ} {x0 : Int32} {x1 : Int32}  (kt : ¬ (((x0 >>> (x1 &&& 31)) &&& (1 : Int32)) = (1 : Int32)) → wpx d P_Md_isOf 13 [.int x0, .int x1] [] h Q) (kf : ((x0 >>> (x1 &&& 31)) &&& (1 : Int32)) = (1 : Int32) → wpx d P_Md_isOf 9 [.int x0, .int x1] [] h Q) : wpx d P_Md_isOf 0 [.int x0, .int x1] [] h Q := by
  refine st_iload (pc' := 1) rfl rfl rfl ?_
  refine st_iload (pc' := 2) rfl rfl rfl ?_
  refine st_ishr (pc' := 3) rfl rfl ?_
  refine st_ipush (pc' := 4) (v := 1) rfl rfl (by decide) ?_
  refine st_iand (pc' := 5) rfl rfl ?_
  refine st_ipush (pc' := 6) (v := 1) rfl rfl (by decide) ?_
  exact st_icmp_ne (pc' := 9) rfl rfl kt kf
theorem B_Md_isOf_9 {d : Nat} {h : PH} {Q : PQ} {x0 : Int32} {x1 : Int32}  (k : wpx d P_Md_isOf 14 [.int x0, .int x1] [.int 1] h Q) : wpx d P_Md_isOf 9 [.int x0, .int x1] [] h Q := by
  refine st_ipush (pc' := 10) (v := 1) rfl rfl (by decide) ?_
  exact st_goto rfl k
theorem B_Md_isOf_13 {d : Nat} {h : PH} {Q : PQ} {x0 : Int32} {x1 : Int32}  (k : wpx d P_Md_isOf 14 [.int x0, .int x1] [.int 0] h Q) : wpx d P_Md_isOf 13 [.int x0, .int x1] [] h Q := by
  refine st_ipush (pc' := 14) (v := 0) rfl rfl (by decide) ?_
  exact k
theorem B_Md_isOf_14 {d : Nat} {h : PH} {Q : PQ} {x0 : Int32} {x1 : Int32} {s0 : Int32} (hz0 : narrow .boolean (.int s0) = .int s0) (k : Q (some (.int s0)) h) : wpx d P_Md_isOf 14 [.int x0, .int x1] [.int s0] h Q := by
  exact st_ireturn (ty := .boolean) rfl rfl hz0 k
theorem B_Md_lesser_0 {d : Nat} {h : PH} {Q : PQ} {x0 : Int32} {x1 : Int32}  (kt : x1 ≤ x0 → wpx d P_Md_lesser 9 [.int x0, .int x1] [] h Q) (kf : ¬ (x1 ≤ x0) → wpx d P_Md_lesser 5 [.int x0, .int x1] [] h Q) : wpx d P_Md_lesser 0 [.int x0, .int x1] [] h Q := by
  refine st_iload (pc' := 1) rfl rfl rfl ?_
  refine st_iload (pc' := 2) rfl rfl rfl ?_
  exact st_icmp_ge (pc' := 5) rfl rfl kt kf
theorem B_Md_lesser_5 {d : Nat} {h : PH} {Q : PQ} {x0 : Int32} {x1 : Int32}  (k : wpx d P_Md_lesser 10 [.int x0, .int x1] [.int x0] h Q) : wpx d P_Md_lesser 5 [.int x0, .int x1] [] h Q := by
  refine st_iload (pc' := 6) rfl rfl rfl ?_
  exact st_goto rfl k
theorem B_Md_lesser_9 {d : Nat} {h : PH} {Q : PQ} {x0 : Int32} {x1 : Int32}  (k : wpx d P_Md_lesser 10 [.int x0, .int x1] [.int x1] h Q) : wpx d P_Md_lesser 9 [.int x0, .int x1] [] h Q := by
  refine st_iload (pc' := 10) rfl rfl rfl ?_
  exact k
theorem B_Md_lesser_10 {d : Nat} {h : PH} {Q : PQ} {x0 : Int32} {x1 : Int32} {s0 : Int32}  (k : Q (some (.int s0)) h) : wpx d P_Md_lesser 10 [.int x0, .int x1] [.int s0] h Q := by
  exact st_ireturn (ty := .int) rfl rfl rfl k
theorem B_Md_many_0 {d : Nat} {h : PH} {Q : PQ} {x0 : Int32} {v1 : Value} {v2 : Value}  (k : wpx d P_Md_many 4 [.int x0, .int 0, .int 0] [] h Q) : wpx d P_Md_many 0 [.int x0, v1, v2] [] h Q := by
  refine st_ipush (pc' := 1) (v := 0) rfl rfl (by decide) ?_
  refine st_istore (pc' := 2) (ls' := [.int x0, .int 0, v2]) rfl rfl (Nat.le_of_ble_eq_true rfl) rfl ?_
  refine st_ipush (pc' := 3) (v := 0) rfl rfl (by decide) ?_
  refine st_istore (pc' := 4) (ls' := [.int x0, .int 0, .int 0]) rfl rfl (Nat.le_of_ble_eq_true rfl) rfl ?_
  exact k
theorem B_Md_many_4 {d : Nat} {h : PH} {Q : PQ} {x0 : Int32} {x1 : Int32} {x2 : Int32}  (kt : (14 : Int32) ≤ x2 → wpx d P_Md_many 24 [.int x0, .int x1, .int x2] [] h Q) (kf : ¬ ((14 : Int32) ≤ x2) → wpx d P_Md_many 10 [.int x0, .int x1, .int x2] [] h Q) : wpx d P_Md_many 4 [.int x0, .int x1, .int x2] [] h Q := by
  refine st_iload (pc' := 5) rfl rfl rfl ?_
  refine st_ipush (pc' := 7) (v := 14) rfl rfl (by decide) ?_
  exact st_icmp_ge (pc' := 10) rfl rfl kt kf
theorem B_Md_many_10 {d : Nat} {h : PH} {Q : PQ} {x0 : Int32} {x1 : Int32} {x2 : Int32}  (k : wpx d P_Md_many 4 [.int x0, .int (x1 + ((x0 >>> (x2 &&& 31)) &&& (1 : Int32))), .int (x2 + 1)] [] h Q) : wpx d P_Md_many 10 [.int x0, .int x1, .int x2] [] h Q := by
  refine st_iload (pc' := 11) rfl rfl rfl ?_
  refine st_iload (pc' := 12) rfl rfl rfl ?_
  refine st_iload (pc' := 13) rfl rfl rfl ?_
  refine st_ishr (pc' := 14) rfl rfl ?_
  refine st_ipush (pc' := 15) (v := 1) rfl rfl (by decide) ?_
  refine st_iand (pc' := 16) rfl rfl ?_
  refine st_iadd (pc' := 17) rfl rfl ?_
  refine st_istore (pc' := 18) (ls' := [.int x0, .int (x1 + ((x0 >>> (x2 &&& 31)) &&& (1 : Int32))), .int x2]) rfl rfl (Nat.le_of_ble_eq_true rfl) rfl ?_
  refine st_iinc (pc' := 21) (v := 1) (ls' := [.int x0, .int (x1 + ((x0 >>> (x2 &&& 31)) &&& (1 : Int32))), .int (x2 + 1)]) rfl rfl rfl (by decide) rfl ?_
  exact st_goto rfl k
theorem B_Md_many_24 {d : Nat} {h : PH} {Q : PQ} {x0 : Int32} {x1 : Int32} {x2 : Int32}  (k : Q (some (.int x1)) h) : wpx d P_Md_many 24 [.int x0, .int x1, .int x2] [] h Q := by
  refine st_iload (pc' := 25) rfl rfl rfl ?_
  exact st_ireturn (ty := .int) rfl rfl rfl k
theorem B_Md_isGroup_0 {d : Nat} {h : PH} {Q : PQ} {r0 : Nat} {x1 : Int32} (hs0 : h_sh h r0 = some (0, 12)) (k : wpm d 170 [.int x1, .int 0, .int ((h_i h r0 4) - (1 : Int32))] h (fun r h' => wpx d P_Md_isGroup 11 [.ref r0, .int x1] (r.toList ++ []) h' Q)) : wpx d P_Md_isGroup 0 [.ref r0, .int x1] [] h Q := by
  refine st_iload (pc' := 1) rfl rfl rfl ?_
  refine st_ipush (pc' := 2) (v := 0) rfl rfl (by decide) ?_
  refine st_aload (pc' := 3) rfl rfl rfl ?_
  refine st_getfi (Or.inl rfl) rfl hs0 rfl (pc' := 6) rfl ?_
  refine st_ipush (pc' := 7) (v := 1) rfl rfl (by decide) ?_
  refine st_isub (pc' := 8) rfl rfl ?_
  exact st_call (pc' := 11) (as := [.int x1, .int 0, .int ((h_i h r0 4) - (1 : Int32))]) (rest := []) rfl rfl (Nat.le_of_ble_eq_true rfl) rfl rfl (Nat.le_of_ble_eq_true rfl) (kd := 0) (o := 12) rfl rfl rfl k
theorem B_Md_isGroup_11 {d : Nat} {h : PH} {Q : PQ} {r0 : Nat} {x1 : Int32} {s0 : Int32} (hz0 : narrow .boolean (.int s0) = .int s0) (k : Q (some (.int s0)) h) : wpx d P_Md_isGroup 11 [.ref r0, .int x1] [.int s0] h Q := by
  exact st_ireturn (ty := .boolean) rfl rfl hz0 k
theorem B_Md_letterAt_0 {d : Nat} {h : PH} {Q : PQ} {r0 : Nat} {x1 : Int32} {x2 : Int32} {a0 : Nat} {n1 : Nat} (hs0 : h_sh h r0 = some (0, 12)) (hr1 : h_r h r0 1 = some a0) (hs2 : h_sh h a0 = some (1, n1)) (hb3 : vp_in (((8 : Int32) * x1) + x2) n1) (k : Q (some (.int (h_i h a0 (((8 : Int32) * x1) + x2).toNatClampNeg))) h) : wpx d P_Md_letterAt 0 [.ref r0, .int x1, .int x2] [] h Q := by
  refine st_aload (pc' := 1) rfl rfl rfl ?_
  refine st_getfr (x := some a0) (Or.inl rfl) rfl hs0 rfl hr1 (pc' := 4) rfl ?_
  refine st_ipush (pc' := 6) (v := 8) rfl rfl (by decide) ?_
  refine st_iload (pc' := 7) rfl rfl rfl ?_
  refine st_imul (pc' := 8) rfl rfl ?_
  refine st_iload (pc' := 9) rfl rfl rfl ?_
  refine st_iadd (pc' := 10) rfl rfl ?_
  refine st_iaload rfl hs2 hb3 (j := (((8 : Int32) * x1) + x2).toNatClampNeg) rfl (pc' := 11) rfl ?_
  exact st_ireturn (ty := .int) rfl rfl rfl k
theorem B_Md_alike_0 {d : Nat} {h : PH} {Q : PQ} {r0 : Nat} {x1 : Int32} {x2 : Int32} {x3 : Int32} {x4 : Int32} {v5 : Value}  (k : wpx d P_Md_alike 3 [.ref r0, .int x1, .int x2, .int x3, .int x4, .int 0] [] h Q) : wpx d P_Md_alike 0 [.ref r0, .int x1, .int x2, .int x3, .int x4, v5] [] h Q := by
  refine st_ipush (pc' := 1) (v := 0) rfl rfl (by decide) ?_
  refine st_istore (pc' := 3) (ls' := [.ref r0, .int x1, .int x2, .int x3, .int x4, .int 0]) rfl rfl (Nat.le_of_ble_eq_true rfl) rfl ?_
  exact k
theorem B_Md_alike_3 {d : Nat} {h : PH} {Q : PQ} {r0 : Nat} {x1 : Int32} {x2 : Int32} {x3 : Int32} {x4 : Int32} {x5 : Int32} {a0 : Nat} {n1 : Nat} (hs0 : h_sh h r0 = some (0, 12)) (hr1 : h_r h r0 2 = some a0) (hs2 : h_sh h a0 = some (1, n1)) (hb3 : vp_in x1 n1) (kt : (h_i h a0 x1.toNatClampNeg) ≤ (x2 + x5) → wpx d P_Md_alike 58 [.ref r0, .int x1, .int x2, .int x3, .int x4, .int x5] [] h Q) (kf : ¬ ((h_i h a0 x1.toNatClampNeg) ≤ (x2 + x5)) → wpx d P_Md_alike 16 [.ref r0, .int x1, .int x2, .int x3, .int x4, .int x5] [] h Q) : wpx d P_Md_alike 3 [.ref r0, .int x1, .int x2, .int x3, .int x4, .int x5] [] h Q := by
  refine st_iload (pc' := 4) rfl rfl rfl ?_
  refine st_iload (pc' := 6) rfl rfl rfl ?_
  refine st_iadd (pc' := 7) rfl rfl ?_
  refine st_aload (pc' := 8) rfl rfl rfl ?_
  refine st_getfr (x := some a0) (Or.inl rfl) rfl hs0 rfl hr1 (pc' := 11) rfl ?_
  refine st_iload (pc' := 12) rfl rfl rfl ?_
  refine st_iaload rfl hs2 hb3 (j := x1.toNatClampNeg) rfl (pc' := 13) rfl ?_
  exact st_icmp_ge (pc' := 16) rfl rfl kt kf
theorem B_Md_alike_16 {d : Nat} {h : PH} {Q : PQ} {r0 : Nat} {x1 : Int32} {x2 : Int32} {x3 : Int32} {x4 : Int32} {x5 : Int32} {a0 : Nat} {n1 : Nat} (hs0 : h_sh h r0 = some (0, 12)) (hr1 : h_r h r0 2 = some a0) (hs2 : h_sh h a0 = some (1, n1)) (hb3 : vp_in x3 n1) (kt : (h_i h a0 x3.toNatClampNeg) ≤ (x4 + x5) → wpx d P_Md_alike 58 [.ref r0, .int x1, .int x2, .int x3, .int x4, .int x5] [] h Q) (kf : ¬ ((h_i h a0 x3.toNatClampNeg) ≤ (x4 + x5)) → wpx d P_Md_alike 30 [.ref r0, .int x1, .int x2, .int x3, .int x4, .int x5] [] h Q) : wpx d P_Md_alike 16 [.ref r0, .int x1, .int x2, .int x3, .int x4, .int x5] [] h Q := by
  refine st_iload (pc' := 18) rfl rfl rfl ?_
  refine st_iload (pc' := 20) rfl rfl rfl ?_
  refine st_iadd (pc' := 21) rfl rfl ?_
  refine st_aload (pc' := 22) rfl rfl rfl ?_
  refine st_getfr (x := some a0) (Or.inl rfl) rfl hs0 rfl hr1 (pc' := 25) rfl ?_
  refine st_iload (pc' := 26) rfl rfl rfl ?_
  refine st_iaload rfl hs2 hb3 (j := x3.toNatClampNeg) rfl (pc' := 27) rfl ?_
  exact st_icmp_ge (pc' := 30) rfl rfl kt kf
theorem B_Md_alike_30 {d : Nat} {h : PH} {Q : PQ} {r0 : Nat} {x1 : Int32} {x2 : Int32} {x3 : Int32} {x4 : Int32} {x5 : Int32} (hs0 : h_sh h r0 = some (0, 12)) (k : wpm d 175 [.ref r0, .int x1, .int (x2 + x5)] h (fun r h' => wpx d P_Md_alike 39 [.ref r0, .int x1, .int x2, .int x3, .int x4, .int x5] (r.toList ++ []) h' Q)) : wpx d P_Md_alike 30 [.ref r0, .int x1, .int x2, .int x3, .int x4, .int x5] [] h Q := by
  refine st_aload (pc' := 31) rfl rfl rfl ?_
  refine st_iload (pc' := 32) rfl rfl rfl ?_
  refine st_iload (pc' := 33) rfl rfl rfl ?_
  refine st_iload (pc' := 35) rfl rfl rfl ?_
  refine st_iadd (pc' := 36) rfl rfl ?_
  exact st_call (pc' := 39) (as := [.ref r0, .int x1, .int (x2 + x5)]) (rest := []) rfl rfl (Nat.le_of_ble_eq_true rfl) rfl rfl (Nat.le_of_ble_eq_true rfl) (kd := 1) (o := 12) rfl rfl (beq_iff_eq.mpr hs0) k
theorem B_Md_alike_39 {d : Nat} {h : PH} {Q : PQ} {r0 : Nat} {x1 : Int32} {x2 : Int32} {x3 : Int32} {x4 : Int32} {x5 : Int32} {s0 : Int32} (hs0 : h_sh h r0 = some (0, 12)) (k : wpm d 175 [.ref r0, .int x3, .int (x4 + x5)] h (fun r h' => wpx d P_Md_alike 49 [.ref r0, .int x1, .int x2, .int x3, .int x4, .int x5] (r.toList ++ [.int s0]) h' Q)) : wpx d P_Md_alike 39 [.ref r0, .int x1, .int x2, .int x3, .int x4, .int x5] [.int s0] h Q := by
  refine st_aload (pc' := 40) rfl rfl rfl ?_
  refine st_iload (pc' := 41) rfl rfl rfl ?_
  refine st_iload (pc' := 43) rfl rfl rfl ?_
  refine st_iload (pc' := 45) rfl rfl rfl ?_
  refine st_iadd (pc' := 46) rfl rfl ?_
  exact st_call (pc' := 49) (as := [.ref r0, .int x3, .int (x4 + x5)]) (rest := [.int s0]) rfl rfl (Nat.le_of_ble_eq_true rfl) rfl rfl (Nat.le_of_ble_eq_true rfl) (kd := 1) (o := 12) rfl rfl (beq_iff_eq.mpr hs0) k
theorem B_Md_alike_49 {d : Nat} {h : PH} {Q : PQ} {r0 : Nat} {x1 : Int32} {x2 : Int32} {x3 : Int32} {x4 : Int32} {x5 : Int32} {s0 : Int32} {s1 : Int32}  (kt : ¬ (s0 = s1) → wpx d P_Md_alike 58 [.ref r0, .int x1, .int x2, .int x3, .int x4, .int x5] [] h Q) (kf : s0 = s1 → wpx d P_Md_alike 52 [.ref r0, .int x1, .int x2, .int x3, .int x4, .int x5] [] h Q) : wpx d P_Md_alike 49 [.ref r0, .int x1, .int x2, .int x3, .int x4, .int x5] [.int s1, .int s0] h Q := by
  exact st_icmp_ne (pc' := 52) rfl rfl kt kf
theorem B_Md_alike_52 {d : Nat} {h : PH} {Q : PQ} {r0 : Nat} {x1 : Int32} {x2 : Int32} {x3 : Int32} {x4 : Int32} {x5 : Int32}  (k : wpx d P_Md_alike 3 [.ref r0, .int x1, .int x2, .int x3, .int x4, .int (x5 + 1)] [] h Q) : wpx d P_Md_alike 52 [.ref r0, .int x1, .int x2, .int x3, .int x4, .int x5] [] h Q := by
  refine st_iinc (pc' := 55) (v := 1) (ls' := [.ref r0, .int x1, .int x2, .int x3, .int x4, .int (x5 + 1)]) rfl rfl rfl (by decide) rfl ?_
  exact st_goto rfl k
theorem B_Md_alike_58 {d : Nat} {h : PH} {Q : PQ} {r0 : Nat} {x1 : Int32} {x2 : Int32} {x3 : Int32} {x4 : Int32} {x5 : Int32}  (k : Q (some (.int x5)) h) : wpx d P_Md_alike 58 [.ref r0, .int x1, .int x2, .int x3, .int x4, .int x5] [] h Q := by
  refine st_iload (pc' := 60) rfl rfl rfl ?_
  exact st_ireturn (ty := .int) rfl rfl rfl k
theorem B_Md_four_0 {d : Nat} {h : PH} {Q : PQ} {r0 : Nat} {x1 : Int32} {v2 : Value}  (k : wpx d P_Md_four 3 [.ref r0, .int x1, .int 24] [] h Q) : wpx d P_Md_four 0 [.ref r0, .int x1, v2] [] h Q := by
  refine st_ipush (pc' := 2) (v := 24) rfl rfl (by decide) ?_
  refine st_istore (pc' := 3) (ls' := [.ref r0, .int x1, .int 24]) rfl rfl (Nat.le_of_ble_eq_true rfl) rfl ?_
  exact k
theorem B_Md_four_3 {d : Nat} {h : PH} {Q : PQ} {r0 : Nat} {x1 : Int32} {x2 : Int32}  (kt : x2 < 0 → wpx d P_Md_four 39 [.ref r0, .int x1, .int x2] [] h Q) (kf : ¬ (x2 < 0) → wpx d P_Md_four 7 [.ref r0, .int x1, .int x2] [] h Q) : wpx d P_Md_four 3 [.ref r0, .int x1, .int x2] [] h Q := by
  refine st_iload (pc' := 4) rfl rfl rfl ?_
  exact st_if_lt (pc' := 7) rfl rfl kt kf
theorem B_Md_four_7 {d : Nat} {h : PH} {Q : PQ} {r0 : Nat} {x1 : Int32} {x2 : Int32} {a0 : Nat} {n1 : Nat} (hs0 : h_sh h r0 = some (0, 12)) (hr1 : h_r h r0 7 = some a0) (hs2 : h_sh h a0 = some (1, n1)) (hb3 : vp_in (h_i h r0 12) n1) (k : wpx d P_Md_four 3 [.ref r0, .int x1, .int (x2 + (-8))] [] (w_i (w_i h a0 ((h_i h r0 12).toNatClampNeg) ((x1 >>> (x2 &&& 31)) &&& (255 : Int32))) r0 12 ((h_i (w_i h a0 ((h_i h r0 12).toNatClampNeg) ((x1 >>> (x2 &&& 31)) &&& (255 : Int32))) r0 12) + (1 : Int32))) Q) : wpx d P_Md_four 7 [.ref r0, .int x1, .int x2] [] h Q := by
  refine st_aload (pc' := 8) rfl rfl rfl ?_
  refine st_getfr (x := some a0) (Or.inl rfl) rfl hs0 rfl hr1 (pc' := 11) rfl ?_
  refine st_aload (pc' := 12) rfl rfl rfl ?_
  refine st_getfi (Or.inl rfl) rfl hs0 rfl (pc' := 15) rfl ?_
  refine st_iload (pc' := 16) rfl rfl rfl ?_
  refine st_iload (pc' := 17) rfl rfl rfl ?_
  refine st_ishr (pc' := 18) rfl rfl ?_
  refine st_ipush (pc' := 21) (v := 255) rfl rfl (by decide) ?_
  refine st_iand (pc' := 22) rfl rfl ?_
  refine st_iastore rfl hs2 hb3 (j := (h_i h r0 12).toNatClampNeg) rfl (pc' := 23) rfl ?_
  refine st_aload (pc' := 24) rfl rfl rfl ?_
  refine st_dup (pc' := 25) rfl rfl rfl ?_
  refine st_getfi (Or.inl rfl) rfl hs0 rfl (pc' := 28) rfl ?_
  refine st_ipush (pc' := 29) (v := 1) rfl rfl (by decide) ?_
  refine st_iadd (pc' := 30) rfl rfl ?_
  refine st_putf (h' := w_i (w_i h a0 ((h_i h r0 12).toNatClampNeg) ((x1 >>> (x2 &&& 31)) &&& (255 : Int32))) r0 12 ((h_i (w_i h a0 ((h_i h r0 12).toNatClampNeg) ((x1 >>> (x2 &&& 31)) &&& (255 : Int32))) r0 12) + (1 : Int32))) (Or.inl rfl) rfl hs0 rfl rfl rfl (pc' := 33) rfl ?_
  refine st_iinc (pc' := 36) (v := (-8)) (ls' := [.ref r0, .int x1, .int (x2 + (-8))]) rfl rfl rfl (by decide) rfl ?_
  exact st_goto rfl k
theorem B_Md_four_39 {d : Nat} {h : PH} {Q : PQ} {r0 : Nat} {x1 : Int32} {x2 : Int32}  (k : Q none h) : wpx d P_Md_four 39 [.ref r0, .int x1, .int x2] [] h Q := by
  exact st_return rfl k
theorem B_Md_feed_0 {d : Nat} {h : PH} {Q : PQ} {r0 : Nat} {x1 : Int32} {x2 : Int32} {x3 : Int32} {x4 : Int32} {x5 : Int32} (hs0 : h_sh h r0 = some (0, 12)) (kt : ((h_i (w_i h r0 0 0) r0 12) + (20 : Int32)) ≤ (600 : Int32) → wpx d P_Md_feed 20 [.ref r0, .int x1, .int x2, .int x3, .int x4, .int x5] [] (w_i h r0 0 0) Q) (kf : ¬ (((h_i (w_i h r0 0 0) r0 12) + (20 : Int32)) ≤ (600 : Int32)) → wpx d P_Md_feed 18 [.ref r0, .int x1, .int x2, .int x3, .int x4, .int x5] [] (w_i h r0 0 0) Q) : wpx d P_Md_feed 0 [.ref r0, .int x1, .int x2, .int x3, .int x4, .int x5] [] h Q := by
  refine st_aload (pc' := 1) rfl rfl rfl ?_
  refine st_ipush (pc' := 2) (v := 0) rfl rfl (by decide) ?_
  refine st_putf (h' := w_i h r0 0 0) (Or.inl rfl) rfl hs0 rfl rfl rfl (pc' := 5) rfl ?_
  refine st_aload (pc' := 6) rfl rfl rfl ?_
  refine st_getfi (Or.inl rfl) rfl hs0 rfl (pc' := 9) rfl ?_
  refine st_ipush (pc' := 11) (v := 20) rfl rfl (by decide) ?_
  refine st_iadd (pc' := 12) rfl rfl ?_
  refine st_ipush (pc' := 15) (v := 600) rfl rfl (by decide) ?_
  exact st_icmp_le (pc' := 18) rfl rfl kt kf
theorem B_Md_feed_18 {d : Nat} {h : PH} {Q : PQ} {r0 : Nat} {x1 : Int32} {x2 : Int32} {x3 : Int32} {x4 : Int32} {x5 : Int32}  (k : Q (some (.int (-1))) h) : wpx d P_Md_feed 18 [.ref r0, .int x1, .int x2, .int x3, .int x4, .int x5] [] h Q := by
  refine st_ipush (pc' := 19) (v := (-1)) rfl rfl (by decide) ?_
  exact st_ireturn (ty := .int) rfl rfl rfl k
theorem B_Md_feed_20 {d : Nat} {h : PH} {Q : PQ} {r0 : Nat} {x1 : Int32} {x2 : Int32} {x3 : Int32} {x4 : Int32} {x5 : Int32} (hs0 : h_sh h r0 = some (0, 12)) (k : wpm d 177 [.ref r0, .int x1] h (fun r h' => wpx d P_Md_feed 25 [.ref r0, .int x1, .int x2, .int x3, .int x4, .int x5] (r.toList ++ []) h' Q)) : wpx d P_Md_feed 20 [.ref r0, .int x1, .int x2, .int x3, .int x4, .int x5] [] h Q := by
  refine st_aload (pc' := 21) rfl rfl rfl ?_
  refine st_iload (pc' := 22) rfl rfl rfl ?_
  exact st_call (pc' := 25) (as := [.ref r0, .int x1]) (rest := []) rfl rfl (Nat.le_of_ble_eq_true rfl) rfl rfl (Nat.le_of_ble_eq_true rfl) (kd := 1) (o := 12) rfl rfl (beq_iff_eq.mpr hs0) k
theorem B_Md_feed_25 {d : Nat} {h : PH} {Q : PQ} {r0 : Nat} {x1 : Int32} {x2 : Int32} {x3 : Int32} {x4 : Int32} {x5 : Int32} (hs0 : h_sh h r0 = some (0, 12)) (k : wpm d 177 [.ref r0, .int x2] h (fun r h' => wpx d P_Md_feed 30 [.ref r0, .int x1, .int x2, .int x3, .int x4, .int x5] (r.toList ++ []) h' Q)) : wpx d P_Md_feed 25 [.ref r0, .int x1, .int x2, .int x3, .int x4, .int x5] [] h Q := by
  refine st_aload (pc' := 26) rfl rfl rfl ?_
  refine st_iload (pc' := 27) rfl rfl rfl ?_
  exact st_call (pc' := 30) (as := [.ref r0, .int x2]) (rest := []) rfl rfl (Nat.le_of_ble_eq_true rfl) rfl rfl (Nat.le_of_ble_eq_true rfl) (kd := 1) (o := 12) rfl rfl (beq_iff_eq.mpr hs0) k
theorem B_Md_feed_30 {d : Nat} {h : PH} {Q : PQ} {r0 : Nat} {x1 : Int32} {x2 : Int32} {x3 : Int32} {x4 : Int32} {x5 : Int32} (hs0 : h_sh h r0 = some (0, 12)) (k : wpm d 177 [.ref r0, .int x3] h (fun r h' => wpx d P_Md_feed 35 [.ref r0, .int x1, .int x2, .int x3, .int x4, .int x5] (r.toList ++ []) h' Q)) : wpx d P_Md_feed 30 [.ref r0, .int x1, .int x2, .int x3, .int x4, .int x5] [] h Q := by
  refine st_aload (pc' := 31) rfl rfl rfl ?_
  refine st_iload (pc' := 32) rfl rfl rfl ?_
  exact st_call (pc' := 35) (as := [.ref r0, .int x3]) (rest := []) rfl rfl (Nat.le_of_ble_eq_true rfl) rfl rfl (Nat.le_of_ble_eq_true rfl) (kd := 1) (o := 12) rfl rfl (beq_iff_eq.mpr hs0) k
theorem B_Md_feed_35 {d : Nat} {h : PH} {Q : PQ} {r0 : Nat} {x1 : Int32} {x2 : Int32} {x3 : Int32} {x4 : Int32} {x5 : Int32} (hs0 : h_sh h r0 = some (0, 12)) (k : wpm d 177 [.ref r0, .int x4] h (fun r h' => wpx d P_Md_feed 41 [.ref r0, .int x1, .int x2, .int x3, .int x4, .int x5] (r.toList ++ []) h' Q)) : wpx d P_Md_feed 35 [.ref r0, .int x1, .int x2, .int x3, .int x4, .int x5] [] h Q := by
  refine st_aload (pc' := 36) rfl rfl rfl ?_
  refine st_iload (pc' := 38) rfl rfl rfl ?_
  exact st_call (pc' := 41) (as := [.ref r0, .int x4]) (rest := []) rfl rfl (Nat.le_of_ble_eq_true rfl) rfl rfl (Nat.le_of_ble_eq_true rfl) (kd := 1) (o := 12) rfl rfl (beq_iff_eq.mpr hs0) k
theorem B_Md_feed_41 {d : Nat} {h : PH} {Q : PQ} {r0 : Nat} {x1 : Int32} {x2 : Int32} {x3 : Int32} {x4 : Int32} {x5 : Int32} (hs0 : h_sh h r0 = some (0, 12)) (k : wpm d 177 [.ref r0, .int x5] h (fun r h' => wpx d P_Md_feed 47 [.ref r0, .int x1, .int x2, .int x3, .int x4, .int x5] (r.toList ++ []) h' Q)) : wpx d P_Md_feed 41 [.ref r0, .int x1, .int x2, .int x3, .int x4, .int x5] [] h Q := by
  refine st_aload (pc' := 42) rfl rfl rfl ?_
  refine st_iload (pc' := 44) rfl rfl rfl ?_
  exact st_call (pc' := 47) (as := [.ref r0, .int x5]) (rest := []) rfl rfl (Nat.le_of_ble_eq_true rfl) rfl rfl (Nat.le_of_ble_eq_true rfl) (kd := 1) (o := 12) rfl rfl (beq_iff_eq.mpr hs0) k
theorem B_Md_feed_47 {d : Nat} {h : PH} {Q : PQ} {r0 : Nat} {x1 : Int32} {x2 : Int32} {x3 : Int32} {x4 : Int32} {x5 : Int32} (hs0 : h_sh h r0 = some (0, 12)) (k : Q (some (.int (h_i h r0 12))) h) : wpx d P_Md_feed 47 [.ref r0, .int x1, .int x2, .int x3, .int x4, .int x5] [] h Q := by
  refine st_aload (pc' := 48) rfl rfl rfl ?_
  refine st_getfi (Or.inl rfl) rfl hs0 rfl (pc' := 51) rfl ?_
  exact st_ireturn (ty := .int) rfl rfl rfl k
theorem B_Md_end_0 {d : Nat} {h : PH} {Q : PQ} {r0 : Nat} {x1 : Int32} (hs0 : h_sh h r0 = some (0, 12)) (k : wpm d 170 [.int x1, .int 0, .int (h_i (w_i h r0 0 0) r0 12)] (w_i h r0 0 0) (fun r h' => wpx d P_Md_end 14 [.ref r0, .int x1] (r.toList ++ []) h' Q)) : wpx d P_Md_end 0 [.ref r0, .int x1] [] h Q := by
  refine st_aload (pc' := 1) rfl rfl rfl ?_
  refine st_ipush (pc' := 2) (v := 0) rfl rfl (by decide) ?_
  refine st_putf (h' := w_i h r0 0 0) (Or.inl rfl) rfl hs0 rfl rfl rfl (pc' := 5) rfl ?_
  refine st_iload (pc' := 6) rfl rfl rfl ?_
  refine st_ipush (pc' := 7) (v := 0) rfl rfl (by decide) ?_
  refine st_aload (pc' := 8) rfl rfl rfl ?_
  refine st_getfi (Or.inl rfl) rfl hs0 rfl (pc' := 11) rfl ?_
  exact st_call (pc' := 14) (as := [.int x1, .int 0, .int (h_i (w_i h r0 0 0) r0 12)]) (rest := []) rfl rfl (Nat.le_of_ble_eq_true rfl) rfl rfl (Nat.le_of_ble_eq_true rfl) (kd := 0) (o := 12) rfl rfl rfl k
theorem B_Md_end_14 {d : Nat} {h : PH} {Q : PQ} {r0 : Nat} {x1 : Int32} {s0 : Int32}  (kt : ¬ (s0 = 0) → wpx d P_Md_end 19 [.ref r0, .int x1] [] h Q) (kf : s0 = 0 → wpx d P_Md_end 17 [.ref r0, .int x1] [] h Q) : wpx d P_Md_end 14 [.ref r0, .int x1] [.int s0] h Q := by
  exact st_if_ne (pc' := 17) rfl rfl kt kf
theorem B_Md_end_17 {d : Nat} {h : PH} {Q : PQ} {r0 : Nat} {x1 : Int32}  (k : Q (some (.int (-1))) h) : wpx d P_Md_end 17 [.ref r0, .int x1] [] h Q := by
  refine st_ipush (pc' := 18) (v := (-1)) rfl rfl (by decide) ?_
  exact st_ireturn (ty := .int) rfl rfl rfl k
theorem B_Md_end_19 {d : Nat} {h : PH} {Q : PQ} {r0 : Nat} {x1 : Int32} (hs0 : h_sh h r0 = some (0, 12)) (k : Q (some (.int x1)) (w_i h r0 12 x1)) : wpx d P_Md_end 19 [.ref r0, .int x1] [] h Q := by
  refine st_aload (pc' := 20) rfl rfl rfl ?_
  refine st_iload (pc' := 21) rfl rfl rfl ?_
  refine st_putf (h' := w_i h r0 12 x1) (Or.inl rfl) rfl hs0 rfl rfl rfl (pc' := 24) rfl ?_
  refine st_iload (pc' := 25) rfl rfl rfl ?_
  exact st_ireturn (ty := .int) rfl rfl rfl k
theorem B_Md_byteAt_0 {d : Nat} {h : PH} {Q : PQ} {r0 : Nat} {x1 : Int32} (hs0 : h_sh h r0 = some (0, 12)) (kt : (h_i h r0 13) ≤ x1 → wpx d P_Md_byteAt 17 [.ref r0, .int x1] [] h Q) (kf : ¬ ((h_i h r0 13) ≤ x1) → wpx d P_Md_byteAt 8 [.ref r0, .int x1] [] h Q) : wpx d P_Md_byteAt 0 [.ref r0, .int x1] [] h Q := by
  refine st_iload (pc' := 1) rfl rfl rfl ?_
  refine st_aload (pc' := 2) rfl rfl rfl ?_
  refine st_getfi (Or.inl rfl) rfl hs0 rfl (pc' := 5) rfl ?_
  exact st_icmp_ge (pc' := 8) rfl rfl kt kf
theorem B_Md_byteAt_8 {d : Nat} {h : PH} {Q : PQ} {r0 : Nat} {x1 : Int32} {a0 : Nat} {n1 : Nat} (hs0 : h_sh h r0 = some (0, 12)) (hr1 : h_r h r0 7 = some a0) (hs2 : h_sh h a0 = some (1, n1)) (hb3 : vp_in x1 n1) (k : wpx d P_Md_byteAt 18 [.ref r0, .int x1] [.int (h_i h a0 x1.toNatClampNeg)] h Q) : wpx d P_Md_byteAt 8 [.ref r0, .int x1] [] h Q := by
  refine st_aload (pc' := 9) rfl rfl rfl ?_
  refine st_getfr (x := some a0) (Or.inl rfl) rfl hs0 rfl hr1 (pc' := 12) rfl ?_
  refine st_iload (pc' := 13) rfl rfl rfl ?_
  refine st_iaload rfl hs2 hb3 (j := x1.toNatClampNeg) rfl (pc' := 14) rfl ?_
  exact st_goto rfl k
theorem B_Md_byteAt_17 {d : Nat} {h : PH} {Q : PQ} {r0 : Nat} {x1 : Int32}  (k : wpx d P_Md_byteAt 18 [.ref r0, .int x1] [.int (-1)] h Q) : wpx d P_Md_byteAt 17 [.ref r0, .int x1] [] h Q := by
  refine st_ipush (pc' := 18) (v := (-1)) rfl rfl (by decide) ?_
  exact k
theorem B_Md_byteAt_18 {d : Nat} {h : PH} {Q : PQ} {r0 : Nat} {x1 : Int32} {s0 : Int32}  (k : Q (some (.int s0)) h) : wpx d P_Md_byteAt 18 [.ref r0, .int x1] [.int s0] h Q := by
  exact st_ireturn (ty := .int) rfl rfl rfl k
theorem B_Md_isSmall_0 {d : Nat} {h : PH} {Q : PQ} {x0 : Int32}  (kt : x0 < (97 : Int32) → wpx d P_Md_isSmall 16 [.int x0] [] h Q) (kf : ¬ (x0 < (97 : Int32)) → wpx d P_Md_isSmall 6 [.int x0] [] h Q) : wpx d P_Md_isSmall 0 [.int x0] [] h Q := by
  refine st_iload (pc' := 1) rfl rfl rfl ?_
  refine st_ipush (pc' := 3) (v := 97) rfl rfl (by decide) ?_
  exact st_icmp_lt (pc' := 6) rfl rfl kt kf
theorem B_Md_isSmall_6 {d : Nat} {h : PH} {Q : PQ} {x0 : Int32}  (kt : (122 : Int32) < x0 → wpx d P_Md_isSmall 16 [.int x0] [] h Q) (kf : ¬ ((122 : Int32) < x0) → wpx d P_Md_isSmall 12 [.int x0] [] h Q) : wpx d P_Md_isSmall 6 [.int x0] [] h Q := by
  refine st_iload (pc' := 7) rfl rfl rfl ?_
  refine st_ipush (pc' := 9) (v := 122) rfl rfl (by decide) ?_
  exact st_icmp_gt (pc' := 12) rfl rfl kt kf
theorem B_Md_isSmall_12 {d : Nat} {h : PH} {Q : PQ} {x0 : Int32}  (k : wpx d P_Md_isSmall 17 [.int x0] [.int 1] h Q) : wpx d P_Md_isSmall 12 [.int x0] [] h Q := by
  refine st_ipush (pc' := 13) (v := 1) rfl rfl (by decide) ?_
  exact st_goto rfl k
theorem B_Md_isSmall_16 {d : Nat} {h : PH} {Q : PQ} {x0 : Int32}  (k : wpx d P_Md_isSmall 17 [.int x0] [.int 0] h Q) : wpx d P_Md_isSmall 16 [.int x0] [] h Q := by
  refine st_ipush (pc' := 17) (v := 0) rfl rfl (by decide) ?_
  exact k
theorem B_Md_isSmall_17 {d : Nat} {h : PH} {Q : PQ} {x0 : Int32} {s0 : Int32} (hz0 : narrow .boolean (.int s0) = .int s0) (k : Q (some (.int s0)) h) : wpx d P_Md_isSmall 17 [.int x0] [.int s0] h Q := by
  exact st_ireturn (ty := .boolean) rfl rfl hz0 k
theorem B_Md_next_0 {d : Nat} {h : PH} {Q : PQ} {r0 : Nat} {v1 : Value} (hs0 : h_sh h r0 = some (0, 12)) (k : wpm d 180 [.ref r0, .int (h_i h r0 15)] h (fun r h' => wpx d P_Md_next 8 [.ref r0, v1] (r.toList ++ []) h' Q)) : wpx d P_Md_next 0 [.ref r0, v1] [] h Q := by
  refine st_aload (pc' := 1) rfl rfl rfl ?_
  refine st_aload (pc' := 2) rfl rfl rfl ?_
  refine st_getfi (Or.inl rfl) rfl hs0 rfl (pc' := 5) rfl ?_
  exact st_call (pc' := 8) (as := [.ref r0, .int (h_i h r0 15)]) (rest := []) rfl rfl (Nat.le_of_ble_eq_true rfl) rfl rfl (Nat.le_of_ble_eq_true rfl) (kd := 1) (o := 12) rfl rfl (beq_iff_eq.mpr hs0) k
theorem B_Md_next_8 {d : Nat} {h : PH} {Q : PQ} {r0 : Nat} {v1 : Value} {s0 : Int32}  (kt : s0 = (32 : Int32) → wpx d P_Md_next 26 [.ref r0, v1] [] h Q) (kf : ¬ (s0 = (32 : Int32)) → wpx d P_Md_next 13 [.ref r0, v1] [] h Q) : wpx d P_Md_next 8 [.ref r0, v1] [.int s0] h Q := by
  refine st_ipush (pc' := 10) (v := 32) rfl rfl (by decide) ?_
  exact st_icmp_eq (pc' := 13) rfl rfl kt kf
theorem B_Md_next_13 {d : Nat} {h : PH} {Q : PQ} {r0 : Nat} {v1 : Value} (hs0 : h_sh h r0 = some (0, 12)) (k : wpm d 180 [.ref r0, .int (h_i h r0 15)] h (fun r h' => wpx d P_Md_next 21 [.ref r0, v1] (r.toList ++ []) h' Q)) : wpx d P_Md_next 13 [.ref r0, v1] [] h Q := by
  refine st_aload (pc' := 14) rfl rfl rfl ?_
  refine st_aload (pc' := 15) rfl rfl rfl ?_
  refine st_getfi (Or.inl rfl) rfl hs0 rfl (pc' := 18) rfl ?_
  exact st_call (pc' := 21) (as := [.ref r0, .int (h_i h r0 15)]) (rest := []) rfl rfl (Nat.le_of_ble_eq_true rfl) rfl rfl (Nat.le_of_ble_eq_true rfl) (kd := 1) (o := 12) rfl rfl (beq_iff_eq.mpr hs0) k
theorem B_Md_next_21 {d : Nat} {h : PH} {Q : PQ} {r0 : Nat} {v1 : Value} {s0 : Int32}  (kt : ¬ (s0 = (10 : Int32)) → wpx d P_Md_next 39 [.ref r0, v1] [] h Q) (kf : s0 = (10 : Int32) → wpx d P_Md_next 26 [.ref r0, v1] [] h Q) : wpx d P_Md_next 21 [.ref r0, v1] [.int s0] h Q := by
  refine st_ipush (pc' := 23) (v := 10) rfl rfl (by decide) ?_
  exact st_icmp_ne (pc' := 26) rfl rfl kt kf
theorem B_Md_next_26 {d : Nat} {h : PH} {Q : PQ} {r0 : Nat} {v1 : Value} (hs0 : h_sh h r0 = some (0, 12)) (k : wpx d P_Md_next 0 [.ref r0, v1] [] (w_i h r0 15 ((h_i h r0 15) + (1 : Int32))) Q) : wpx d P_Md_next 26 [.ref r0, v1] [] h Q := by
  refine st_aload (pc' := 27) rfl rfl rfl ?_
  refine st_dup (pc' := 28) rfl rfl rfl ?_
  refine st_getfi (Or.inl rfl) rfl hs0 rfl (pc' := 31) rfl ?_
  refine st_ipush (pc' := 32) (v := 1) rfl rfl (by decide) ?_
  refine st_iadd (pc' := 33) rfl rfl ?_
  refine st_putf (h' := w_i h r0 15 ((h_i h r0 15) + (1 : Int32))) (Or.inl rfl) rfl hs0 rfl rfl rfl (pc' := 36) rfl ?_
  exact st_goto rfl k
theorem B_Md_next_39 {d : Nat} {h : PH} {Q : PQ} {r0 : Nat} {v1 : Value} (hs0 : h_sh h r0 = some (0, 12)) (k : wpm d 180 [.ref r0, .int (h_i (w_i h r0 14 (h_i h r0 15)) r0 14)] (w_i h r0 14 (h_i h r0 15)) (fun r h' => wpx d P_Md_next 55 [.ref r0, v1] (r.toList ++ []) h' Q)) : wpx d P_Md_next 39 [.ref r0, v1] [] h Q := by
  refine st_aload (pc' := 40) rfl rfl rfl ?_
  refine st_aload (pc' := 41) rfl rfl rfl ?_
  refine st_getfi (Or.inl rfl) rfl hs0 rfl (pc' := 44) rfl ?_
  refine st_putf (h' := w_i h r0 14 (h_i h r0 15)) (Or.inl rfl) rfl hs0 rfl rfl rfl (pc' := 47) rfl ?_
  refine st_aload (pc' := 48) rfl rfl rfl ?_
  refine st_aload (pc' := 49) rfl rfl rfl ?_
  refine st_getfi (Or.inl rfl) rfl hs0 rfl (pc' := 52) rfl ?_
  exact st_call (pc' := 55) (as := [.ref r0, .int (h_i (w_i h r0 14 (h_i h r0 15)) r0 14)]) (rest := []) rfl rfl (Nat.le_of_ble_eq_true rfl) rfl rfl (Nat.le_of_ble_eq_true rfl) (kd := 1) (o := 12) rfl rfl (beq_iff_eq.mpr hs0) k
theorem B_Md_next_55 {d : Nat} {h : PH} {Q : PQ} {r0 : Nat} {v1 : Value} {s0 : Int32}  (kt : ¬ (s0 = ((-1) : Int32)) → wpx d P_Md_next 69 [.ref r0, .int s0] [] h Q) (kf : s0 = ((-1) : Int32) → wpx d P_Md_next 61 [.ref r0, .int s0] [] h Q) : wpx d P_Md_next 55 [.ref r0, v1] [.int s0] h Q := by
  refine st_istore (pc' := 56) (ls' := [.ref r0, .int s0]) rfl rfl (Nat.le_of_ble_eq_true rfl) rfl ?_
  refine st_iload (pc' := 57) rfl rfl rfl ?_
  refine st_ipush (pc' := 58) (v := (-1)) rfl rfl (by decide) ?_
  exact st_icmp_ne (pc' := 61) rfl rfl kt kf
theorem B_Md_next_61 {d : Nat} {h : PH} {Q : PQ} {r0 : Nat} {x1 : Int32} (hs0 : h_sh h r0 = some (0, 12)) (k : wpx d P_Md_next 148 [.ref r0, .int x1] [] (w_i h r0 16 0) Q) : wpx d P_Md_next 61 [.ref r0, .int x1] [] h Q := by
  refine st_aload (pc' := 62) rfl rfl rfl ?_
  refine st_ipush (pc' := 63) (v := 0) rfl rfl (by decide) ?_
  refine st_putf (h' := w_i h r0 16 0) (Or.inl rfl) rfl hs0 rfl rfl rfl (pc' := 66) rfl ?_
  exact st_goto rfl k
theorem B_Md_next_69 {d : Nat} {h : PH} {Q : PQ} {r0 : Nat} {x1 : Int32}  (k : wpm d 181 [.int x1] h (fun r h' => wpx d P_Md_next 73 [.ref r0, .int x1] (r.toList ++ []) h' Q)) : wpx d P_Md_next 69 [.ref r0, .int x1] [] h Q := by
  refine st_iload (pc' := 70) rfl rfl rfl ?_
  exact st_call (pc' := 73) (as := [.int x1]) (rest := []) rfl rfl (Nat.le_of_ble_eq_true rfl) rfl rfl (Nat.le_of_ble_eq_true rfl) (kd := 0) (o := 12) rfl rfl rfl k
theorem B_Md_next_73 {d : Nat} {h : PH} {Q : PQ} {r0 : Nat} {x1 : Int32} {s0 : Int32}  (kt : s0 = 0 → wpx d P_Md_next 111 [.ref r0, .int x1] [] h Q) (kf : ¬ (s0 = 0) → wpx d P_Md_next 76 [.ref r0, .int x1] [] h Q) : wpx d P_Md_next 73 [.ref r0, .int x1] [.int s0] h Q := by
  exact st_if_eq (pc' := 76) rfl rfl kt kf
theorem B_Md_next_76 {d : Nat} {h : PH} {Q : PQ} {r0 : Nat} {x1 : Int32} (hs0 : h_sh h r0 = some (0, 12)) (k : wpm d 180 [.ref r0, .int (h_i h r0 15)] h (fun r h' => wpx d P_Md_next 84 [.ref r0, .int x1] (r.toList ++ []) h' Q)) : wpx d P_Md_next 76 [.ref r0, .int x1] [] h Q := by
  refine st_aload (pc' := 77) rfl rfl rfl ?_
  refine st_aload (pc' := 78) rfl rfl rfl ?_
  refine st_getfi (Or.inl rfl) rfl hs0 rfl (pc' := 81) rfl ?_
  exact st_call (pc' := 84) (as := [.ref r0, .int (h_i h r0 15)]) (rest := []) rfl rfl (Nat.le_of_ble_eq_true rfl) rfl rfl (Nat.le_of_ble_eq_true rfl) (kd := 1) (o := 12) rfl rfl (beq_iff_eq.mpr hs0) k
theorem B_Md_next_84 {d : Nat} {h : PH} {Q : PQ} {r0 : Nat} {x1 : Int32} {s0 : Int32}  (k : wpm d 181 [.int s0] h (fun r h' => wpx d P_Md_next 87 [.ref r0, .int x1] (r.toList ++ []) h' Q)) : wpx d P_Md_next 84 [.ref r0, .int x1] [.int s0] h Q := by
  exact st_call (pc' := 87) (as := [.int s0]) (rest := []) rfl rfl (Nat.le_of_ble_eq_true rfl) rfl rfl (Nat.le_of_ble_eq_true rfl) (kd := 0) (o := 12) rfl rfl rfl k
theorem B_Md_next_87 {d : Nat} {h : PH} {Q : PQ} {r0 : Nat} {x1 : Int32} {s0 : Int32}  (kt : s0 = 0 → wpx d P_Md_next 103 [.ref r0, .int x1] [] h Q) (kf : ¬ (s0 = 0) → wpx d P_Md_next 90 [.ref r0, .int x1] [] h Q) : wpx d P_Md_next 87 [.ref r0, .int x1] [.int s0] h Q := by
  exact st_if_eq (pc' := 90) rfl rfl kt kf
theorem B_Md_next_90 {d : Nat} {h : PH} {Q : PQ} {r0 : Nat} {x1 : Int32} (hs0 : h_sh h r0 = some (0, 12)) (k : wpx d P_Md_next 76 [.ref r0, .int x1] [] (w_i h r0 15 ((h_i h r0 15) + (1 : Int32))) Q) : wpx d P_Md_next 90 [.ref r0, .int x1] [] h Q := by
  refine st_aload (pc' := 91) rfl rfl rfl ?_
  refine st_dup (pc' := 92) rfl rfl rfl ?_
  refine st_getfi (Or.inl rfl) rfl hs0 rfl (pc' := 95) rfl ?_
  refine st_ipush (pc' := 96) (v := 1) rfl rfl (by decide) ?_
  refine st_iadd (pc' := 97) rfl rfl ?_
  refine st_putf (h' := w_i h r0 15 ((h_i h r0 15) + (1 : Int32))) (Or.inl rfl) rfl hs0 rfl rfl rfl (pc' := 100) rfl ?_
  exact st_goto rfl k
theorem B_Md_next_103 {d : Nat} {h : PH} {Q : PQ} {r0 : Nat} {x1 : Int32} (hs0 : h_sh h r0 = some (0, 12)) (k : wpx d P_Md_next 148 [.ref r0, .int x1] [] (w_i h r0 16 1) Q) : wpx d P_Md_next 103 [.ref r0, .int x1] [] h Q := by
  refine st_aload (pc' := 104) rfl rfl rfl ?_
  refine st_ipush (pc' := 105) (v := 1) rfl rfl (by decide) ?_
  refine st_putf (h' := w_i h r0 16 1) (Or.inl rfl) rfl hs0 rfl rfl rfl (pc' := 108) rfl ?_
  exact st_goto rfl k
theorem B_Md_next_111 {d : Nat} {h : PH} {Q : PQ} {r0 : Nat} {x1 : Int32} (hs0 : h_sh h r0 = some (0, 12)) (kt : x1 = (61 : Int32) → wpx d P_Md_next 140 [.ref r0, .int x1] [.ref r0] (w_i h r0 15 ((h_i h r0 15) + (1 : Int32))) Q) (kf : ¬ (x1 = (61 : Int32)) → wpx d P_Md_next 128 [.ref r0, .int x1] [.ref r0] (w_i h r0 15 ((h_i h r0 15) + (1 : Int32))) Q) : wpx d P_Md_next 111 [.ref r0, .int x1] [] h Q := by
  refine st_aload (pc' := 112) rfl rfl rfl ?_
  refine st_dup (pc' := 113) rfl rfl rfl ?_
  refine st_getfi (Or.inl rfl) rfl hs0 rfl (pc' := 116) rfl ?_
  refine st_ipush (pc' := 117) (v := 1) rfl rfl (by decide) ?_
  refine st_iadd (pc' := 118) rfl rfl ?_
  refine st_putf (h' := w_i h r0 15 ((h_i h r0 15) + (1 : Int32))) (Or.inl rfl) rfl hs0 rfl rfl rfl (pc' := 121) rfl ?_
  refine st_aload (pc' := 122) rfl rfl rfl ?_
  refine st_iload (pc' := 123) rfl rfl rfl ?_
  refine st_ipush (pc' := 125) (v := 61) rfl rfl (by decide) ?_
  exact st_icmp_eq (pc' := 128) rfl rfl kt kf
theorem B_Md_next_128 {d : Nat} {h : PH} {Q : PQ} {r0 : Nat} {x1 : Int32} {q0 : Nat}  (kt : x1 = (124 : Int32) → wpx d P_Md_next 140 [.ref r0, .int x1] [.ref q0] h Q) (kf : ¬ (x1 = (124 : Int32)) → wpx d P_Md_next 134 [.ref r0, .int x1] [.ref q0] h Q) : wpx d P_Md_next 128 [.ref r0, .int x1] [.ref q0] h Q := by
  refine st_iload (pc' := 129) rfl rfl rfl ?_
  refine st_ipush (pc' := 131) (v := 124) rfl rfl (by decide) ?_
  exact st_icmp_eq (pc' := 134) rfl rfl kt kf
theorem B_Md_next_134 {d : Nat} {h : PH} {Q : PQ} {r0 : Nat} {x1 : Int32} {q0 : Nat}  (kt : ¬ (x1 = (59 : Int32)) → wpx d P_Md_next 144 [.ref r0, .int x1] [.ref q0] h Q) (kf : x1 = (59 : Int32) → wpx d P_Md_next 140 [.ref r0, .int x1] [.ref q0] h Q) : wpx d P_Md_next 134 [.ref r0, .int x1] [.ref q0] h Q := by
  refine st_iload (pc' := 135) rfl rfl rfl ?_
  refine st_ipush (pc' := 137) (v := 59) rfl rfl (by decide) ?_
  exact st_icmp_ne (pc' := 140) rfl rfl kt kf
theorem B_Md_next_140 {d : Nat} {h : PH} {Q : PQ} {r0 : Nat} {x1 : Int32} {q0 : Nat}  (k : wpx d P_Md_next 145 [.ref r0, .int x1] [.int 2, .ref q0] h Q) : wpx d P_Md_next 140 [.ref r0, .int x1] [.ref q0] h Q := by
  refine st_ipush (pc' := 141) (v := 2) rfl rfl (by decide) ?_
  exact st_goto rfl k
theorem B_Md_next_144 {d : Nat} {h : PH} {Q : PQ} {r0 : Nat} {x1 : Int32} {q0 : Nat}  (k : wpx d P_Md_next 145 [.ref r0, .int x1] [.int 3, .ref q0] h Q) : wpx d P_Md_next 144 [.ref r0, .int x1] [.ref q0] h Q := by
  refine st_ipush (pc' := 145) (v := 3) rfl rfl (by decide) ?_
  exact k
theorem B_Md_next_145 {d : Nat} {h : PH} {Q : PQ} {r0 : Nat} {x1 : Int32} {q0 : Nat} {s1 : Int32} (hs0 : h_sh h q0 = some (0, 12)) (k : wpx d P_Md_next 148 [.ref r0, .int x1] [] (w_i h q0 16 s1) Q) : wpx d P_Md_next 145 [.ref r0, .int x1] [.int s1, .ref q0] h Q := by
  refine st_putf (h' := w_i h q0 16 s1) (Or.inl rfl) rfl hs0 rfl rfl rfl (pc' := 148) rfl ?_
  exact k
theorem B_Md_next_148 {d : Nat} {h : PH} {Q : PQ} {r0 : Nat} {x1 : Int32}  (k : Q none h) : wpx d P_Md_next 148 [.ref r0, .int x1] [] h Q := by
  exact st_return rfl k
theorem B_Md_isGood_0 {d : Nat} {h : PH} {Q : PQ} {r0 : Nat} (hs0 : h_sh h r0 = some (0, 12)) (kt : ¬ ((h_i h r0 19) = 0) → wpx d P_Md_isGood 11 [.ref r0] [] h Q) (kf : (h_i h r0 19) = 0 → wpx d P_Md_isGood 7 [.ref r0] [] h Q) : wpx d P_Md_isGood 0 [.ref r0] [] h Q := by
  refine st_aload (pc' := 1) rfl rfl rfl ?_
  refine st_getfi (Or.inl rfl) rfl hs0 rfl (pc' := 4) rfl ?_
  exact st_if_ne (pc' := 7) rfl rfl kt kf
theorem B_Md_isGood_7 {d : Nat} {h : PH} {Q : PQ} {r0 : Nat}  (k : wpx d P_Md_isGood 12 [.ref r0] [.int 1] h Q) : wpx d P_Md_isGood 7 [.ref r0] [] h Q := by
  refine st_ipush (pc' := 8) (v := 1) rfl rfl (by decide) ?_
  exact st_goto rfl k
theorem B_Md_isGood_11 {d : Nat} {h : PH} {Q : PQ} {r0 : Nat}  (k : wpx d P_Md_isGood 12 [.ref r0] [.int 0] h Q) : wpx d P_Md_isGood 11 [.ref r0] [] h Q := by
  refine st_ipush (pc' := 12) (v := 0) rfl rfl (by decide) ?_
  exact k
theorem B_Md_isGood_12 {d : Nat} {h : PH} {Q : PQ} {r0 : Nat} {s0 : Int32} (hz0 : narrow .boolean (.int s0) = .int s0) (k : Q (some (.int s0)) h) : wpx d P_Md_isGood 12 [.ref r0] [.int s0] h Q := by
  exact st_ireturn (ty := .boolean) rfl rfl hz0 k
theorem B_Md_fails_0 {d : Nat} {h : PH} {Q : PQ} {r0 : Nat} {x1 : Int32} (hs0 : h_sh h r0 = some (0, 12)) (kt : ¬ ((h_i h r0 19) = 0) → wpx d P_Md_fails 32 [.ref r0, .int x1] [] h Q) (kf : (h_i h r0 19) = 0 → wpx d P_Md_fails 7 [.ref r0, .int x1] [] h Q) : wpx d P_Md_fails 0 [.ref r0, .int x1] [] h Q := by
  refine st_aload (pc' := 1) rfl rfl rfl ?_
  refine st_getfi (Or.inl rfl) rfl hs0 rfl (pc' := 4) rfl ?_
  exact st_if_ne (pc' := 7) rfl rfl kt kf
theorem B_Md_fails_7 {d : Nat} {h : PH} {Q : PQ} {r0 : Nat} {x1 : Int32} (hs0 : h_sh h r0 = some (0, 12)) (kt : ¬ ((h_i h r0 16) = (3 : Int32)) → wpx d P_Md_fails 20 [.ref r0, .int x1] [.ref r0] h Q) (kf : (h_i h r0 16) = (3 : Int32) → wpx d P_Md_fails 16 [.ref r0, .int x1] [.ref r0] h Q) : wpx d P_Md_fails 7 [.ref r0, .int x1] [] h Q := by
  refine st_aload (pc' := 8) rfl rfl rfl ?_
  refine st_aload (pc' := 9) rfl rfl rfl ?_
  refine st_getfi (Or.inl rfl) rfl hs0 rfl (pc' := 12) rfl ?_
  refine st_ipush (pc' := 13) (v := 3) rfl rfl (by decide) ?_
  exact st_icmp_ne (pc' := 16) rfl rfl kt kf
theorem B_Md_fails_16 {d : Nat} {h : PH} {Q : PQ} {r0 : Nat} {x1 : Int32} {q0 : Nat}  (k : wpx d P_Md_fails 21 [.ref r0, .int x1] [.int 1, .ref q0] h Q) : wpx d P_Md_fails 16 [.ref r0, .int x1] [.ref q0] h Q := by
  refine st_ipush (pc' := 17) (v := 1) rfl rfl (by decide) ?_
  exact st_goto rfl k
theorem B_Md_fails_20 {d : Nat} {h : PH} {Q : PQ} {r0 : Nat} {x1 : Int32} {q0 : Nat}  (k : wpx d P_Md_fails 21 [.ref r0, .int x1] [.int x1, .ref q0] h Q) : wpx d P_Md_fails 20 [.ref r0, .int x1] [.ref q0] h Q := by
  refine st_iload (pc' := 21) rfl rfl rfl ?_
  exact k
theorem B_Md_fails_21 {d : Nat} {h : PH} {Q : PQ} {r0 : Nat} {x1 : Int32} {q0 : Nat} {s1 : Int32} (hs0 : h_sh h q0 = some (0, 12)) (hs1 : h_sh h r0 = some (0, 12)) (k : wpx d P_Md_fails 32 [.ref r0, .int x1] [] (w_i (w_i h q0 19 s1) r0 20 (h_i (w_i h q0 19 s1) r0 14)) Q) : wpx d P_Md_fails 21 [.ref r0, .int x1] [.int s1, .ref q0] h Q := by
  refine st_putf (h' := w_i h q0 19 s1) (Or.inl rfl) rfl hs0 rfl rfl rfl (pc' := 24) rfl ?_
  refine st_aload (pc' := 25) rfl rfl rfl ?_
  refine st_aload (pc' := 26) rfl rfl rfl ?_
  refine st_getfi (Or.inl rfl) rfl hs1 rfl (pc' := 29) rfl ?_
  refine st_putf (h' := w_i (w_i h q0 19 s1) r0 20 (h_i (w_i h q0 19 s1) r0 14)) (Or.inl rfl) rfl hs1 rfl rfl rfl (pc' := 32) rfl ?_
  exact k
theorem B_Md_fails_32 {d : Nat} {h : PH} {Q : PQ} {r0 : Nat} {x1 : Int32}  (k : Q none h) : wpx d P_Md_fails 32 [.ref r0, .int x1] [] h Q := by
  exact st_return rfl k
theorem B_Md_goOn_0 {d : Nat} {h : PH} {Q : PQ} {r0 : Nat} (hs0 : h_sh h r0 = some (0, 12)) (k : wpm d 183 [.ref r0] h (fun r h' => wpx d P_Md_goOn 4 [.ref r0] (r.toList ++ []) h' Q)) : wpx d P_Md_goOn 0 [.ref r0] [] h Q := by
  refine st_aload (pc' := 1) rfl rfl rfl ?_
  exact st_call (pc' := 4) (as := [.ref r0]) (rest := []) rfl rfl (Nat.le_of_ble_eq_true rfl) rfl rfl (Nat.le_of_ble_eq_true rfl) (kd := 1) (o := 12) rfl rfl (beq_iff_eq.mpr hs0) k
theorem B_Md_goOn_4 {d : Nat} {h : PH} {Q : PQ} {r0 : Nat} {s0 : Int32}  (kt : s0 = 0 → wpx d P_Md_goOn 11 [.ref r0] [] h Q) (kf : ¬ (s0 = 0) → wpx d P_Md_goOn 7 [.ref r0] [] h Q) : wpx d P_Md_goOn 4 [.ref r0] [.int s0] h Q := by
  exact st_if_eq (pc' := 7) rfl rfl kt kf
theorem B_Md_goOn_7 {d : Nat} {h : PH} {Q : PQ} {r0 : Nat} (hs0 : h_sh h r0 = some (0, 12)) (k : wpm d 182 [.ref r0] h (fun r h' => wpx d P_Md_goOn 11 [.ref r0] (r.toList ++ []) h' Q)) : wpx d P_Md_goOn 7 [.ref r0] [] h Q := by
  refine st_aload (pc' := 8) rfl rfl rfl ?_
  exact st_call (pc' := 11) (as := [.ref r0]) (rest := []) rfl rfl (Nat.le_of_ble_eq_true rfl) rfl rfl (Nat.le_of_ble_eq_true rfl) (kd := 1) (o := 12) rfl rfl (beq_iff_eq.mpr hs0) k
theorem B_Md_goOn_11 {d : Nat} {h : PH} {Q : PQ} {r0 : Nat}  (k : Q none h) : wpx d P_Md_goOn 11 [.ref r0] [] h Q := by
  exact st_return rfl k
theorem B_Md_isSign_0 {d : Nat} {h : PH} {Q : PQ} {r0 : Nat} {x1 : Int32} (hs0 : h_sh h r0 = some (0, 12)) (kt : ¬ ((h_i h r0 16) = (2 : Int32)) → wpx d P_Md_isSign 24 [.ref r0, .int x1] [] h Q) (kf : (h_i h r0 16) = (2 : Int32) → wpx d P_Md_isSign 8 [.ref r0, .int x1] [] h Q) : wpx d P_Md_isSign 0 [.ref r0, .int x1] [] h Q := by
  refine st_aload (pc' := 1) rfl rfl rfl ?_
  refine st_getfi (Or.inl rfl) rfl hs0 rfl (pc' := 4) rfl ?_
  refine st_ipush (pc' := 5) (v := 2) rfl rfl (by decide) ?_
  exact st_icmp_ne (pc' := 8) rfl rfl kt kf
theorem B_Md_isSign_8 {d : Nat} {h : PH} {Q : PQ} {r0 : Nat} {x1 : Int32} (hs0 : h_sh h r0 = some (0, 12)) (k : wpm d 180 [.ref r0, .int (h_i h r0 14)] h (fun r h' => wpx d P_Md_isSign 16 [.ref r0, .int x1] (r.toList ++ []) h' Q)) : wpx d P_Md_isSign 8 [.ref r0, .int x1] [] h Q := by
  refine st_aload (pc' := 9) rfl rfl rfl ?_
  refine st_aload (pc' := 10) rfl rfl rfl ?_
  refine st_getfi (Or.inl rfl) rfl hs0 rfl (pc' := 13) rfl ?_
  exact st_call (pc' := 16) (as := [.ref r0, .int (h_i h r0 14)]) (rest := []) rfl rfl (Nat.le_of_ble_eq_true rfl) rfl rfl (Nat.le_of_ble_eq_true rfl) (kd := 1) (o := 12) rfl rfl (beq_iff_eq.mpr hs0) k
theorem B_Md_isSign_16 {d : Nat} {h : PH} {Q : PQ} {r0 : Nat} {x1 : Int32} {s0 : Int32}  (kt : ¬ (s0 = x1) → wpx d P_Md_isSign 24 [.ref r0, .int x1] [] h Q) (kf : s0 = x1 → wpx d P_Md_isSign 20 [.ref r0, .int x1] [] h Q) : wpx d P_Md_isSign 16 [.ref r0, .int x1] [.int s0] h Q := by
  refine st_iload (pc' := 17) rfl rfl rfl ?_
  exact st_icmp_ne (pc' := 20) rfl rfl kt kf
theorem B_Md_isSign_20 {d : Nat} {h : PH} {Q : PQ} {r0 : Nat} {x1 : Int32}  (k : wpx d P_Md_isSign 25 [.ref r0, .int x1] [.int 1] h Q) : wpx d P_Md_isSign 20 [.ref r0, .int x1] [] h Q := by
  refine st_ipush (pc' := 21) (v := 1) rfl rfl (by decide) ?_
  exact st_goto rfl k
theorem B_Md_isSign_24 {d : Nat} {h : PH} {Q : PQ} {r0 : Nat} {x1 : Int32}  (k : wpx d P_Md_isSign 25 [.ref r0, .int x1] [.int 0] h Q) : wpx d P_Md_isSign 24 [.ref r0, .int x1] [] h Q := by
  refine st_ipush (pc' := 25) (v := 0) rfl rfl (by decide) ?_
  exact k
theorem B_Md_isSign_25 {d : Nat} {h : PH} {Q : PQ} {r0 : Nat} {x1 : Int32} {s0 : Int32} (hz0 : narrow .boolean (.int s0) = .int s0) (k : Q (some (.int s0)) h) : wpx d P_Md_isSign 25 [.ref r0, .int x1] [.int s0] h Q := by
  exact st_ireturn (ty := .boolean) rfl rfl hz0 k
theorem B_Md_packed_0 {d : Nat} {h : PH} {Q : PQ} {r0 : Nat} {v1 : Value} {v2 : Value} (hs0 : h_sh h r0 = some (0, 12)) (k : wpx d P_Md_packed 7 [.ref r0, .int 0, .int (h_i h r0 14)] [] h Q) : wpx d P_Md_packed 0 [.ref r0, v1, v2] [] h Q := by
  refine st_ipush (pc' := 1) (v := 0) rfl rfl (by decide) ?_
  refine st_istore (pc' := 2) (ls' := [.ref r0, .int 0, v2]) rfl rfl (Nat.le_of_ble_eq_true rfl) rfl ?_
  refine st_aload (pc' := 3) rfl rfl rfl ?_
  refine st_getfi (Or.inl rfl) rfl hs0 rfl (pc' := 6) rfl ?_
  refine st_istore (pc' := 7) (ls' := [.ref r0, .int 0, .int (h_i h r0 14)]) rfl rfl (Nat.le_of_ble_eq_true rfl) rfl ?_
  exact k
theorem B_Md_packed_7 {d : Nat} {h : PH} {Q : PQ} {r0 : Nat} {x1 : Int32} {x2 : Int32} (hs0 : h_sh h r0 = some (0, 12)) (kt : (h_i h r0 15) ≤ x2 → wpx d P_Md_packed 35 [.ref r0, .int x1, .int x2] [] h Q) (kf : ¬ ((h_i h r0 15) ≤ x2) → wpx d P_Md_packed 15 [.ref r0, .int x1, .int x2] [] h Q) : wpx d P_Md_packed 7 [.ref r0, .int x1, .int x2] [] h Q := by
  refine st_iload (pc' := 8) rfl rfl rfl ?_
  refine st_aload (pc' := 9) rfl rfl rfl ?_
  refine st_getfi (Or.inl rfl) rfl hs0 rfl (pc' := 12) rfl ?_
  exact st_icmp_ge (pc' := 15) rfl rfl kt kf
theorem B_Md_packed_15 {d : Nat} {h : PH} {Q : PQ} {r0 : Nat} {x1 : Int32} {x2 : Int32} (hs0 : h_sh h r0 = some (0, 12)) (k : wpm d 180 [.ref r0, .int x2] h (fun r h' => wpx d P_Md_packed 24 [.ref r0, .int x1, .int x2] (r.toList ++ [.int (x1 * (32 : Int32))]) h' Q)) : wpx d P_Md_packed 15 [.ref r0, .int x1, .int x2] [] h Q := by
  refine st_iload (pc' := 16) rfl rfl rfl ?_
  refine st_ipush (pc' := 18) (v := 32) rfl rfl (by decide) ?_
  refine st_imul (pc' := 19) rfl rfl ?_
  refine st_aload (pc' := 20) rfl rfl rfl ?_
  refine st_iload (pc' := 21) rfl rfl rfl ?_
  exact st_call (pc' := 24) (as := [.ref r0, .int x2]) (rest := [.int (x1 * (32 : Int32))]) rfl rfl (Nat.le_of_ble_eq_true rfl) rfl rfl (Nat.le_of_ble_eq_true rfl) (kd := 1) (o := 12) rfl rfl (beq_iff_eq.mpr hs0) k
theorem B_Md_packed_24 {d : Nat} {h : PH} {Q : PQ} {r0 : Nat} {x1 : Int32} {x2 : Int32} {s0 : Int32} {s1 : Int32}  (k : wpx d P_Md_packed 7 [.ref r0, .int ((s0 + s1) - (96 : Int32)), .int (x2 + 1)] [] h Q) : wpx d P_Md_packed 24 [.ref r0, .int x1, .int x2] [.int s1, .int s0] h Q := by
  refine st_iadd (pc' := 25) rfl rfl ?_
  refine st_ipush (pc' := 27) (v := 96) rfl rfl (by decide) ?_
  refine st_isub (pc' := 28) rfl rfl ?_
  refine st_istore (pc' := 29) (ls' := [.ref r0, .int ((s0 + s1) - (96 : Int32)), .int x2]) rfl rfl (Nat.le_of_ble_eq_true rfl) rfl ?_
  refine st_iinc (pc' := 32) (v := 1) (ls' := [.ref r0, .int ((s0 + s1) - (96 : Int32)), .int (x2 + 1)]) rfl rfl rfl (by decide) rfl ?_
  exact st_goto rfl k
theorem B_Md_packed_35 {d : Nat} {h : PH} {Q : PQ} {r0 : Nat} {x1 : Int32} {x2 : Int32}  (k : Q (some (.int x1)) h) : wpx d P_Md_packed 35 [.ref r0, .int x1, .int x2] [] h Q := by
  refine st_iload (pc' := 36) rfl rfl rfl ?_
  exact st_ireturn (ty := .int) rfl rfl rfl k
theorem B_Md_isShort_0 {d : Nat} {h : PH} {Q : PQ} {r0 : Nat} (hs0 : h_sh h r0 = some (0, 12)) (kt : ¬ ((h_i h r0 16) = (1 : Int32)) → wpx d P_Md_isShort 26 [.ref r0] [] h Q) (kf : (h_i h r0 16) = (1 : Int32) → wpx d P_Md_isShort 8 [.ref r0] [] h Q) : wpx d P_Md_isShort 0 [.ref r0] [] h Q := by
  refine st_aload (pc' := 1) rfl rfl rfl ?_
  refine st_getfi (Or.inl rfl) rfl hs0 rfl (pc' := 4) rfl ?_
  refine st_ipush (pc' := 5) (v := 1) rfl rfl (by decide) ?_
  exact st_icmp_ne (pc' := 8) rfl rfl kt kf
theorem B_Md_isShort_8 {d : Nat} {h : PH} {Q : PQ} {r0 : Nat} (hs0 : h_sh h r0 = some (0, 12)) (kt : (6 : Int32) < ((h_i h r0 15) - (h_i h r0 14)) → wpx d P_Md_isShort 26 [.ref r0] [] h Q) (kf : ¬ ((6 : Int32) < ((h_i h r0 15) - (h_i h r0 14))) → wpx d P_Md_isShort 22 [.ref r0] [] h Q) : wpx d P_Md_isShort 8 [.ref r0] [] h Q := by
  refine st_aload (pc' := 9) rfl rfl rfl ?_
  refine st_getfi (Or.inl rfl) rfl hs0 rfl (pc' := 12) rfl ?_
  refine st_aload (pc' := 13) rfl rfl rfl ?_
  refine st_getfi (Or.inl rfl) rfl hs0 rfl (pc' := 16) rfl ?_
  refine st_isub (pc' := 17) rfl rfl ?_
  refine st_ipush (pc' := 19) (v := 6) rfl rfl (by decide) ?_
  exact st_icmp_gt (pc' := 22) rfl rfl kt kf
theorem B_Md_isShort_22 {d : Nat} {h : PH} {Q : PQ} {r0 : Nat}  (k : wpx d P_Md_isShort 27 [.ref r0] [.int 1] h Q) : wpx d P_Md_isShort 22 [.ref r0] [] h Q := by
  refine st_ipush (pc' := 23) (v := 1) rfl rfl (by decide) ?_
  exact st_goto rfl k
theorem B_Md_isShort_26 {d : Nat} {h : PH} {Q : PQ} {r0 : Nat}  (k : wpx d P_Md_isShort 27 [.ref r0] [.int 0] h Q) : wpx d P_Md_isShort 26 [.ref r0] [] h Q := by
  refine st_ipush (pc' := 27) (v := 0) rfl rfl (by decide) ?_
  exact k
theorem B_Md_isShort_27 {d : Nat} {h : PH} {Q : PQ} {r0 : Nat} {s0 : Int32} (hz0 : narrow .boolean (.int s0) = .int s0) (k : Q (some (.int s0)) h) : wpx d P_Md_isShort 27 [.ref r0] [.int s0] h Q := by
  exact st_ireturn (ty := .boolean) rfl rfl hz0 k
theorem B_Md_isSound_0 {d : Nat} {h : PH} {Q : PQ} {r0 : Nat} (hs0 : h_sh h r0 = some (0, 12)) (k : wpm d 188 [.ref r0] h (fun r h' => wpx d P_Md_isSound 4 [.ref r0] (r.toList ++ []) h' Q)) : wpx d P_Md_isSound 0 [.ref r0] [] h Q := by
  refine st_aload (pc' := 1) rfl rfl rfl ?_
  exact st_call (pc' := 4) (as := [.ref r0]) (rest := []) rfl rfl (Nat.le_of_ble_eq_true rfl) rfl rfl (Nat.le_of_ble_eq_true rfl) (kd := 1) (o := 12) rfl rfl (beq_iff_eq.mpr hs0) k
theorem B_Md_isSound_4 {d : Nat} {h : PH} {Q : PQ} {r0 : Nat} {s0 : Int32}  (kt : s0 = 0 → wpx d P_Md_isSound 20 [.ref r0] [] h Q) (kf : ¬ (s0 = 0) → wpx d P_Md_isSound 7 [.ref r0] [] h Q) : wpx d P_Md_isSound 4 [.ref r0] [.int s0] h Q := by
  exact st_if_eq (pc' := 7) rfl rfl kt kf
theorem B_Md_isSound_7 {d : Nat} {h : PH} {Q : PQ} {r0 : Nat} (hs0 : h_sh h r0 = some (0, 12)) (k : wpm d 187 [.ref r0] h (fun r h' => wpx d P_Md_isSound 11 [.ref r0] (r.toList ++ []) h' Q)) : wpx d P_Md_isSound 7 [.ref r0] [] h Q := by
  refine st_aload (pc' := 8) rfl rfl rfl ?_
  exact st_call (pc' := 11) (as := [.ref r0]) (rest := []) rfl rfl (Nat.le_of_ble_eq_true rfl) rfl rfl (Nat.le_of_ble_eq_true rfl) (kd := 1) (o := 12) rfl rfl (beq_iff_eq.mpr hs0) k
theorem B_Md_isSound_11 {d : Nat} {h : PH} {Q : PQ} {r0 : Nat} {s0 : Int32}  (kt : ¬ (s0 = (20436420 : Int32)) → wpx d P_Md_isSound 20 [.ref r0] [] h Q) (kf : s0 = (20436420 : Int32) → wpx d P_Md_isSound 16 [.ref r0] [] h Q) : wpx d P_Md_isSound 11 [.ref r0] [.int s0] h Q := by
  refine st_ldc (pc' := 13) (v := 20436420) rfl rfl (by decide) ?_
  exact st_icmp_ne (pc' := 16) rfl rfl kt kf
theorem B_Md_isSound_16 {d : Nat} {h : PH} {Q : PQ} {r0 : Nat}  (k : wpx d P_Md_isSound 21 [.ref r0] [.int 1] h Q) : wpx d P_Md_isSound 16 [.ref r0] [] h Q := by
  refine st_ipush (pc' := 17) (v := 1) rfl rfl (by decide) ?_
  exact st_goto rfl k
theorem B_Md_isSound_20 {d : Nat} {h : PH} {Q : PQ} {r0 : Nat}  (k : wpx d P_Md_isSound 21 [.ref r0] [.int 0] h Q) : wpx d P_Md_isSound 20 [.ref r0] [] h Q := by
  refine st_ipush (pc' := 21) (v := 0) rfl rfl (by decide) ?_
  exact k
theorem B_Md_isSound_21 {d : Nat} {h : PH} {Q : PQ} {r0 : Nat} {s0 : Int32} (hz0 : narrow .boolean (.int s0) = .int s0) (k : Q (some (.int s0)) h) : wpx d P_Md_isSound 21 [.ref r0] [.int s0] h Q := by
  exact st_ireturn (ty := .boolean) rfl rfl hz0 k
theorem B_Md_readName_0 {d : Nat} {h : PH} {Q : PQ} {r0 : Nat} {v1 : Value} (hs0 : h_sh h r0 = some (0, 12)) (k : wpm d 188 [.ref r0] h (fun r h' => wpx d P_Md_readName 4 [.ref r0, v1] (r.toList ++ []) h' Q)) : wpx d P_Md_readName 0 [.ref r0, v1] [] h Q := by
  refine st_aload (pc' := 1) rfl rfl rfl ?_
  exact st_call (pc' := 4) (as := [.ref r0]) (rest := []) rfl rfl (Nat.le_of_ble_eq_true rfl) rfl rfl (Nat.le_of_ble_eq_true rfl) (kd := 1) (o := 12) rfl rfl (beq_iff_eq.mpr hs0) k
theorem B_Md_readName_4 {d : Nat} {h : PH} {Q : PQ} {r0 : Nat} {v1 : Value} {s0 : Int32}  (kt : s0 = 0 → wpx d P_Md_readName 14 [.ref r0, v1] [] h Q) (kf : ¬ (s0 = 0) → wpx d P_Md_readName 7 [.ref r0, v1] [] h Q) : wpx d P_Md_readName 4 [.ref r0, v1] [.int s0] h Q := by
  exact st_if_eq (pc' := 7) rfl rfl kt kf
theorem B_Md_readName_7 {d : Nat} {h : PH} {Q : PQ} {r0 : Nat} {v1 : Value} (hs0 : h_sh h r0 = some (0, 12)) (k : wpm d 189 [.ref r0] h (fun r h' => wpx d P_Md_readName 11 [.ref r0, v1] (r.toList ++ []) h' Q)) : wpx d P_Md_readName 7 [.ref r0, v1] [] h Q := by
  refine st_aload (pc' := 8) rfl rfl rfl ?_
  exact st_call (pc' := 11) (as := [.ref r0]) (rest := []) rfl rfl (Nat.le_of_ble_eq_true rfl) rfl rfl (Nat.le_of_ble_eq_true rfl) (kd := 1) (o := 12) rfl rfl (beq_iff_eq.mpr hs0) k
theorem B_Md_readName_11 {d : Nat} {h : PH} {Q : PQ} {r0 : Nat} {v1 : Value} {s0 : Int32}  (kt : s0 = 0 → wpx d P_Md_readName 19 [.ref r0, v1] [] h Q) (kf : ¬ (s0 = 0) → wpx d P_Md_readName 14 [.ref r0, v1] [] h Q) : wpx d P_Md_readName 11 [.ref r0, v1] [.int s0] h Q := by
  exact st_if_eq (pc' := 14) rfl rfl kt kf
theorem B_Md_readName_14 {d : Nat} {h : PH} {Q : PQ} {r0 : Nat} {v1 : Value} (hs0 : h_sh h r0 = some (0, 12)) (k : wpm d 184 [.ref r0, .int 2] h (fun r h' => wpx d P_Md_readName 19 [.ref r0, v1] (r.toList ++ []) h' Q)) : wpx d P_Md_readName 14 [.ref r0, v1] [] h Q := by
  refine st_aload (pc' := 15) rfl rfl rfl ?_
  refine st_ipush (pc' := 16) (v := 2) rfl rfl (by decide) ?_
  exact st_call (pc' := 19) (as := [.ref r0, .int 2]) (rest := []) rfl rfl (Nat.le_of_ble_eq_true rfl) rfl rfl (Nat.le_of_ble_eq_true rfl) (kd := 1) (o := 12) rfl rfl (beq_iff_eq.mpr hs0) k
theorem B_Md_readName_19 {d : Nat} {h : PH} {Q : PQ} {r0 : Nat} {v1 : Value}  (k : wpx d P_Md_readName 21 [.ref r0, .int 0] [] h Q) : wpx d P_Md_readName 19 [.ref r0, v1] [] h Q := by
  refine st_ipush (pc' := 20) (v := 0) rfl rfl (by decide) ?_
  refine st_istore (pc' := 21) (ls' := [.ref r0, .int 0]) rfl rfl (Nat.le_of_ble_eq_true rfl) rfl ?_
  exact k
theorem B_Md_readName_21 {d : Nat} {h : PH} {Q : PQ} {r0 : Nat} {x1 : Int32} (hs0 : h_sh h r0 = some (0, 12)) (kt : (h_i h r0 21) ≤ x1 → wpx d P_Md_readName 60 [.ref r0, .int x1] [] h Q) (kf : ¬ ((h_i h r0 21) ≤ x1) → wpx d P_Md_readName 29 [.ref r0, .int x1] [] h Q) : wpx d P_Md_readName 21 [.ref r0, .int x1] [] h Q := by
  refine st_iload (pc' := 22) rfl rfl rfl ?_
  refine st_aload (pc' := 23) rfl rfl rfl ?_
  refine st_getfi (Or.inl rfl) rfl hs0 rfl (pc' := 26) rfl ?_
  exact st_icmp_ge (pc' := 29) rfl rfl kt kf
theorem B_Md_readName_29 {d : Nat} {h : PH} {Q : PQ} {r0 : Nat} {x1 : Int32} (hs0 : h_sh h r0 = some (0, 12)) (k : wpm d 183 [.ref r0] h (fun r h' => wpx d P_Md_readName 33 [.ref r0, .int x1] (r.toList ++ []) h' Q)) : wpx d P_Md_readName 29 [.ref r0, .int x1] [] h Q := by
  refine st_aload (pc' := 30) rfl rfl rfl ?_
  exact st_call (pc' := 33) (as := [.ref r0]) (rest := []) rfl rfl (Nat.le_of_ble_eq_true rfl) rfl rfl (Nat.le_of_ble_eq_true rfl) (kd := 1) (o := 12) rfl rfl (beq_iff_eq.mpr hs0) k
theorem B_Md_readName_33 {d : Nat} {h : PH} {Q : PQ} {r0 : Nat} {x1 : Int32} {s0 : Int32}  (kt : s0 = 0 → wpx d P_Md_readName 60 [.ref r0, .int x1] [] h Q) (kf : ¬ (s0 = 0) → wpx d P_Md_readName 36 [.ref r0, .int x1] [] h Q) : wpx d P_Md_readName 33 [.ref r0, .int x1] [.int s0] h Q := by
  exact st_if_eq (pc' := 36) rfl rfl kt kf
theorem B_Md_readName_36 {d : Nat} {h : PH} {Q : PQ} {r0 : Nat} {x1 : Int32} {a0 : Nat} {n1 : Nat} (hs0 : h_sh h r0 = some (0, 12)) (hr1 : h_r h r0 8 = some a0) (hs2 : h_sh h a0 = some (1, n1)) (hb3 : vp_in x1 n1) (k : wpm d 187 [.ref r0] h (fun r h' => wpx d P_Md_readName 46 [.ref r0, .int x1] (r.toList ++ [.int (h_i h a0 x1.toNatClampNeg)]) h' Q)) : wpx d P_Md_readName 36 [.ref r0, .int x1] [] h Q := by
  refine st_aload (pc' := 37) rfl rfl rfl ?_
  refine st_getfr (x := some a0) (Or.inl rfl) rfl hs0 rfl hr1 (pc' := 40) rfl ?_
  refine st_iload (pc' := 41) rfl rfl rfl ?_
  refine st_iaload rfl hs2 hb3 (j := x1.toNatClampNeg) rfl (pc' := 42) rfl ?_
  refine st_aload (pc' := 43) rfl rfl rfl ?_
  exact st_call (pc' := 46) (as := [.ref r0]) (rest := [.int (h_i h a0 x1.toNatClampNeg)]) rfl rfl (Nat.le_of_ble_eq_true rfl) rfl rfl (Nat.le_of_ble_eq_true rfl) (kd := 1) (o := 12) rfl rfl (beq_iff_eq.mpr hs0) k
theorem B_Md_readName_46 {d : Nat} {h : PH} {Q : PQ} {r0 : Nat} {x1 : Int32} {s0 : Int32} {s1 : Int32}  (kt : ¬ (s0 = s1) → wpx d P_Md_readName 54 [.ref r0, .int x1] [] h Q) (kf : s0 = s1 → wpx d P_Md_readName 49 [.ref r0, .int x1] [] h Q) : wpx d P_Md_readName 46 [.ref r0, .int x1] [.int s1, .int s0] h Q := by
  exact st_icmp_ne (pc' := 49) rfl rfl kt kf
theorem B_Md_readName_49 {d : Nat} {h : PH} {Q : PQ} {r0 : Nat} {x1 : Int32} (hs0 : h_sh h r0 = some (0, 12)) (k : wpm d 184 [.ref r0, .int 3] h (fun r h' => wpx d P_Md_readName 54 [.ref r0, .int x1] (r.toList ++ []) h' Q)) : wpx d P_Md_readName 49 [.ref r0, .int x1] [] h Q := by
  refine st_aload (pc' := 50) rfl rfl rfl ?_
  refine st_ipush (pc' := 51) (v := 3) rfl rfl (by decide) ?_
  exact st_call (pc' := 54) (as := [.ref r0, .int 3]) (rest := []) rfl rfl (Nat.le_of_ble_eq_true rfl) rfl rfl (Nat.le_of_ble_eq_true rfl) (kd := 1) (o := 12) rfl rfl (beq_iff_eq.mpr hs0) k
theorem B_Md_readName_54 {d : Nat} {h : PH} {Q : PQ} {r0 : Nat} {x1 : Int32}  (k : wpx d P_Md_readName 21 [.ref r0, .int (x1 + 1)] [] h Q) : wpx d P_Md_readName 54 [.ref r0, .int x1] [] h Q := by
  refine st_iinc (pc' := 57) (v := 1) (ls' := [.ref r0, .int (x1 + 1)]) rfl rfl rfl (by decide) rfl ?_
  exact st_goto rfl k
theorem B_Md_readName_60 {d : Nat} {h : PH} {Q : PQ} {r0 : Nat} {x1 : Int32} (hs0 : h_sh h r0 = some (0, 12)) (k : wpm d 183 [.ref r0] h (fun r h' => wpx d P_Md_readName 64 [.ref r0, .int x1] (r.toList ++ []) h' Q)) : wpx d P_Md_readName 60 [.ref r0, .int x1] [] h Q := by
  refine st_aload (pc' := 61) rfl rfl rfl ?_
  exact st_call (pc' := 64) (as := [.ref r0]) (rest := []) rfl rfl (Nat.le_of_ble_eq_true rfl) rfl rfl (Nat.le_of_ble_eq_true rfl) (kd := 1) (o := 12) rfl rfl (beq_iff_eq.mpr hs0) k
theorem B_Md_readName_64 {d : Nat} {h : PH} {Q : PQ} {r0 : Nat} {x1 : Int32} {s0 : Int32}  (kt : s0 = 0 → wpx d P_Md_readName 90 [.ref r0, .int x1] [] h Q) (kf : ¬ (s0 = 0) → wpx d P_Md_readName 67 [.ref r0, .int x1] [] h Q) : wpx d P_Md_readName 64 [.ref r0, .int x1] [.int s0] h Q := by
  exact st_if_eq (pc' := 67) rfl rfl kt kf
theorem B_Md_readName_67 {d : Nat} {h : PH} {Q : PQ} {r0 : Nat} {x1 : Int32} {a0 : Nat} (hs0 : h_sh h r0 = some (0, 12)) (hr1 : h_r h r0 8 = some a0) (k : wpm d 187 [.ref r0] h (fun r h' => wpx d P_Md_readName 79 [.ref r0, .int x1] (r.toList ++ [.int (h_i h r0 21), .ref a0]) h' Q)) : wpx d P_Md_readName 67 [.ref r0, .int x1] [] h Q := by
  refine st_aload (pc' := 68) rfl rfl rfl ?_
  refine st_getfr (x := some a0) (Or.inl rfl) rfl hs0 rfl hr1 (pc' := 71) rfl ?_
  refine st_aload (pc' := 72) rfl rfl rfl ?_
  refine st_getfi (Or.inl rfl) rfl hs0 rfl (pc' := 75) rfl ?_
  refine st_aload (pc' := 76) rfl rfl rfl ?_
  exact st_call (pc' := 79) (as := [.ref r0]) (rest := [.int (h_i h r0 21), .ref a0]) rfl rfl (Nat.le_of_ble_eq_true rfl) rfl rfl (Nat.le_of_ble_eq_true rfl) (kd := 1) (o := 12) rfl rfl (beq_iff_eq.mpr hs0) k
theorem B_Md_readName_79 {d : Nat} {h : PH} {Q : PQ} {r0 : Nat} {x1 : Int32} {q0 : Nat} {s1 : Int32} {s2 : Int32} {n0 : Nat} (hs0 : h_sh h q0 = some (1, n0)) (hb1 : vp_in s1 n0) (hs2 : h_sh h r0 = some (0, 12)) (k : wpx d P_Md_readName 90 [.ref r0, .int x1] [] (w_i (w_i h q0 s1.toNatClampNeg s2) r0 21 ((h_i (w_i h q0 s1.toNatClampNeg s2) r0 21) + (1 : Int32))) Q) : wpx d P_Md_readName 79 [.ref r0, .int x1] [.int s2, .int s1, .ref q0] h Q := by
  refine st_iastore rfl hs0 hb1 (j := s1.toNatClampNeg) rfl (pc' := 80) rfl ?_
  refine st_aload (pc' := 81) rfl rfl rfl ?_
  refine st_dup (pc' := 82) rfl rfl rfl ?_
  refine st_getfi (Or.inl rfl) rfl hs2 rfl (pc' := 85) rfl ?_
  refine st_ipush (pc' := 86) (v := 1) rfl rfl (by decide) ?_
  refine st_iadd (pc' := 87) rfl rfl ?_
  refine st_putf (h' := w_i (w_i h q0 s1.toNatClampNeg s2) r0 21 ((h_i (w_i h q0 s1.toNatClampNeg s2) r0 21) + (1 : Int32))) (Or.inl rfl) rfl hs2 rfl rfl rfl (pc' := 90) rfl ?_
  exact k
theorem B_Md_readName_90 {d : Nat} {h : PH} {Q : PQ} {r0 : Nat} {x1 : Int32} (hs0 : h_sh h r0 = some (0, 12)) (k : wpm d 185 [.ref r0] h (fun r h' => wpx d P_Md_readName 94 [.ref r0, .int x1] (r.toList ++ []) h' Q)) : wpx d P_Md_readName 90 [.ref r0, .int x1] [] h Q := by
  refine st_aload (pc' := 91) rfl rfl rfl ?_
  exact st_call (pc' := 94) (as := [.ref r0]) (rest := []) rfl rfl (Nat.le_of_ble_eq_true rfl) rfl rfl (Nat.le_of_ble_eq_true rfl) (kd := 1) (o := 12) rfl rfl (beq_iff_eq.mpr hs0) k
theorem B_Md_readName_94 {d : Nat} {h : PH} {Q : PQ} {r0 : Nat} {x1 : Int32}  (k : Q none h) : wpx d P_Md_readName 94 [.ref r0, .int x1] [] h Q := by
  exact st_return rfl k
theorem B_Md_isTold_0 {d : Nat} {h : PH} {Q : PQ} {r0 : Nat} {x1 : Int32} {v2 : Value} {a0 : Nat} {n1 : Nat} (hs0 : h_sh h r0 = some (0, 12)) (hr1 : h_r h r0 10 = some a0) (hs2 : h_sh h a0 = some (1, n1)) (hb3 : vp_in x1 n1) (kt : (h_i h a0 x1.toNatClampNeg) = ((h_i h r0 15) - (h_i h r0 14)) → wpx d P_Md_isTold 20 [.ref r0, .int x1, v2] [] h Q) (kf : ¬ ((h_i h a0 x1.toNatClampNeg) = ((h_i h r0 15) - (h_i h r0 14))) → wpx d P_Md_isTold 18 [.ref r0, .int x1, v2] [] h Q) : wpx d P_Md_isTold 0 [.ref r0, .int x1, v2] [] h Q := by
  refine st_aload (pc' := 1) rfl rfl rfl ?_
  refine st_getfr (x := some a0) (Or.inl rfl) rfl hs0 rfl hr1 (pc' := 4) rfl ?_
  refine st_iload (pc' := 5) rfl rfl rfl ?_
  refine st_iaload rfl hs2 hb3 (j := x1.toNatClampNeg) rfl (pc' := 6) rfl ?_
  refine st_aload (pc' := 7) rfl rfl rfl ?_
  refine st_getfi (Or.inl rfl) rfl hs0 rfl (pc' := 10) rfl ?_
  refine st_aload (pc' := 11) rfl rfl rfl ?_
  refine st_getfi (Or.inl rfl) rfl hs0 rfl (pc' := 14) rfl ?_
  refine st_isub (pc' := 15) rfl rfl ?_
  exact st_icmp_eq (pc' := 18) rfl rfl kt kf
theorem B_Md_isTold_18 {d : Nat} {h : PH} {Q : PQ} {r0 : Nat} {x1 : Int32} {v2 : Value}  (k : Q (some (.int 0)) h) : wpx d P_Md_isTold 18 [.ref r0, .int x1, v2] [] h Q := by
  refine st_ipush (pc' := 19) (v := 0) rfl rfl (by decide) ?_
  exact st_ireturn (ty := .boolean) rfl rfl (by decide) k
theorem B_Md_isTold_20 {d : Nat} {h : PH} {Q : PQ} {r0 : Nat} {x1 : Int32} {v2 : Value}  (k : wpx d P_Md_isTold 22 [.ref r0, .int x1, .int 0] [] h Q) : wpx d P_Md_isTold 20 [.ref r0, .int x1, v2] [] h Q := by
  refine st_ipush (pc' := 21) (v := 0) rfl rfl (by decide) ?_
  refine st_istore (pc' := 22) (ls' := [.ref r0, .int x1, .int 0]) rfl rfl (Nat.le_of_ble_eq_true rfl) rfl ?_
  exact k
theorem B_Md_isTold_22 {d : Nat} {h : PH} {Q : PQ} {r0 : Nat} {x1 : Int32} {x2 : Int32} {a0 : Nat} {n1 : Nat} (hs0 : h_sh h r0 = some (0, 12)) (hr1 : h_r h r0 10 = some a0) (hs2 : h_sh h a0 = some (1, n1)) (hb3 : vp_in x1 n1) (kt : (h_i h a0 x1.toNatClampNeg) ≤ x2 → wpx d P_Md_isTold 64 [.ref r0, .int x1, .int x2] [] h Q) (kf : ¬ ((h_i h a0 x1.toNatClampNeg) ≤ x2) → wpx d P_Md_isTold 32 [.ref r0, .int x1, .int x2] [] h Q) : wpx d P_Md_isTold 22 [.ref r0, .int x1, .int x2] [] h Q := by
  refine st_iload (pc' := 23) rfl rfl rfl ?_
  refine st_aload (pc' := 24) rfl rfl rfl ?_
  refine st_getfr (x := some a0) (Or.inl rfl) rfl hs0 rfl hr1 (pc' := 27) rfl ?_
  refine st_iload (pc' := 28) rfl rfl rfl ?_
  refine st_iaload rfl hs2 hb3 (j := x1.toNatClampNeg) rfl (pc' := 29) rfl ?_
  exact st_icmp_ge (pc' := 32) rfl rfl kt kf
theorem B_Md_isTold_32 {d : Nat} {h : PH} {Q : PQ} {r0 : Nat} {x1 : Int32} {x2 : Int32} {a0 : Nat} {n1 : Nat} (hs0 : h_sh h r0 = some (0, 12)) (hr1 : h_r h r0 9 = some a0) (hs2 : h_sh h a0 = some (1, n1)) (hb3 : vp_in (((8 : Int32) * x1) + x2) n1) (k : wpm d 180 [.ref r0, .int ((h_i h r0 14) + x2)] h (fun r h' => wpx d P_Md_isTold 53 [.ref r0, .int x1, .int x2] (r.toList ++ [.int (h_i h a0 (((8 : Int32) * x1) + x2).toNatClampNeg)]) h' Q)) : wpx d P_Md_isTold 32 [.ref r0, .int x1, .int x2] [] h Q := by
  refine st_aload (pc' := 33) rfl rfl rfl ?_
  refine st_getfr (x := some a0) (Or.inl rfl) rfl hs0 rfl hr1 (pc' := 36) rfl ?_
  refine st_ipush (pc' := 38) (v := 8) rfl rfl (by decide) ?_
  refine st_iload (pc' := 39) rfl rfl rfl ?_
  refine st_imul (pc' := 40) rfl rfl ?_
  refine st_iload (pc' := 41) rfl rfl rfl ?_
  refine st_iadd (pc' := 42) rfl rfl ?_
  refine st_iaload rfl hs2 hb3 (j := (((8 : Int32) * x1) + x2).toNatClampNeg) rfl (pc' := 43) rfl ?_
  refine st_aload (pc' := 44) rfl rfl rfl ?_
  refine st_aload (pc' := 45) rfl rfl rfl ?_
  refine st_getfi (Or.inl rfl) rfl hs0 rfl (pc' := 48) rfl ?_
  refine st_iload (pc' := 49) rfl rfl rfl ?_
  refine st_iadd (pc' := 50) rfl rfl ?_
  exact st_call (pc' := 53) (as := [.ref r0, .int ((h_i h r0 14) + x2)]) (rest := [.int (h_i h a0 (((8 : Int32) * x1) + x2).toNatClampNeg)]) rfl rfl (Nat.le_of_ble_eq_true rfl) rfl rfl (Nat.le_of_ble_eq_true rfl) (kd := 1) (o := 12) rfl rfl (beq_iff_eq.mpr hs0) k
theorem B_Md_isTold_53 {d : Nat} {h : PH} {Q : PQ} {r0 : Nat} {x1 : Int32} {x2 : Int32} {s0 : Int32} {s1 : Int32}  (kt : s0 = s1 → wpx d P_Md_isTold 58 [.ref r0, .int x1, .int x2] [] h Q) (kf : ¬ (s0 = s1) → wpx d P_Md_isTold 56 [.ref r0, .int x1, .int x2] [] h Q) : wpx d P_Md_isTold 53 [.ref r0, .int x1, .int x2] [.int s1, .int s0] h Q := by
  exact st_icmp_eq (pc' := 56) rfl rfl kt kf
theorem B_Md_isTold_56 {d : Nat} {h : PH} {Q : PQ} {r0 : Nat} {x1 : Int32} {x2 : Int32}  (k : Q (some (.int 0)) h) : wpx d P_Md_isTold 56 [.ref r0, .int x1, .int x2] [] h Q := by
  refine st_ipush (pc' := 57) (v := 0) rfl rfl (by decide) ?_
  exact st_ireturn (ty := .boolean) rfl rfl (by decide) k
theorem B_Md_isTold_58 {d : Nat} {h : PH} {Q : PQ} {r0 : Nat} {x1 : Int32} {x2 : Int32}  (k : wpx d P_Md_isTold 22 [.ref r0, .int x1, .int (x2 + 1)] [] h Q) : wpx d P_Md_isTold 58 [.ref r0, .int x1, .int x2] [] h Q := by
  refine st_iinc (pc' := 61) (v := 1) (ls' := [.ref r0, .int x1, .int (x2 + 1)]) rfl rfl rfl (by decide) rfl ?_
  exact st_goto rfl k
theorem B_Md_isTold_64 {d : Nat} {h : PH} {Q : PQ} {r0 : Nat} {x1 : Int32} {x2 : Int32}  (k : Q (some (.int 1)) h) : wpx d P_Md_isTold 64 [.ref r0, .int x1, .int x2] [] h Q := by
  refine st_ipush (pc' := 65) (v := 1) rfl rfl (by decide) ?_
  exact st_ireturn (ty := .boolean) rfl rfl (by decide) k
theorem B_Md_readGroup_0 {d : Nat} {h : PH} {Q : PQ} {r0 : Nat} {v1 : Value} (hs0 : h_sh h r0 = some (0, 12)) (k : wpm d 188 [.ref r0] h (fun r h' => wpx d P_Md_readGroup 4 [.ref r0, v1] (r.toList ++ []) h' Q)) : wpx d P_Md_readGroup 0 [.ref r0, v1] [] h Q := by
  refine st_aload (pc' := 1) rfl rfl rfl ?_
  exact st_call (pc' := 4) (as := [.ref r0]) (rest := []) rfl rfl (Nat.le_of_ble_eq_true rfl) rfl rfl (Nat.le_of_ble_eq_true rfl) (kd := 1) (o := 12) rfl rfl (beq_iff_eq.mpr hs0) k
theorem B_Md_readGroup_4 {d : Nat} {h : PH} {Q : PQ} {r0 : Nat} {v1 : Value} {s0 : Int32}  (kt : ¬ (s0 = 0) → wpx d P_Md_readGroup 12 [.ref r0, v1] [] h Q) (kf : s0 = 0 → wpx d P_Md_readGroup 7 [.ref r0, v1] [] h Q) : wpx d P_Md_readGroup 4 [.ref r0, v1] [.int s0] h Q := by
  exact st_if_ne (pc' := 7) rfl rfl kt kf
theorem B_Md_readGroup_7 {d : Nat} {h : PH} {Q : PQ} {r0 : Nat} {v1 : Value} (hs0 : h_sh h r0 = some (0, 12)) (k : wpm d 184 [.ref r0, .int 2] h (fun r h' => wpx d P_Md_readGroup 12 [.ref r0, v1] (r.toList ++ []) h' Q)) : wpx d P_Md_readGroup 7 [.ref r0, v1] [] h Q := by
  refine st_aload (pc' := 8) rfl rfl rfl ?_
  refine st_ipush (pc' := 9) (v := 2) rfl rfl (by decide) ?_
  exact st_call (pc' := 12) (as := [.ref r0, .int 2]) (rest := []) rfl rfl (Nat.le_of_ble_eq_true rfl) rfl rfl (Nat.le_of_ble_eq_true rfl) (kd := 1) (o := 12) rfl rfl (beq_iff_eq.mpr hs0) k
theorem B_Md_readGroup_12 {d : Nat} {h : PH} {Q : PQ} {r0 : Nat} {v1 : Value}  (k : wpx d P_Md_readGroup 14 [.ref r0, .int 0] [] h Q) : wpx d P_Md_readGroup 12 [.ref r0, v1] [] h Q := by
  refine st_ipush (pc' := 13) (v := 0) rfl rfl (by decide) ?_
  refine st_istore (pc' := 14) (ls' := [.ref r0, .int 0]) rfl rfl (Nat.le_of_ble_eq_true rfl) rfl ?_
  exact k
theorem B_Md_readGroup_14 {d : Nat} {h : PH} {Q : PQ} {r0 : Nat} {x1 : Int32} (hs0 : h_sh h r0 = some (0, 12)) (kt : (h_i h r0 22) ≤ x1 → wpx d P_Md_readGroup 48 [.ref r0, .int x1] [] h Q) (kf : ¬ ((h_i h r0 22) ≤ x1) → wpx d P_Md_readGroup 22 [.ref r0, .int x1] [] h Q) : wpx d P_Md_readGroup 14 [.ref r0, .int x1] [] h Q := by
  refine st_iload (pc' := 15) rfl rfl rfl ?_
  refine st_aload (pc' := 16) rfl rfl rfl ?_
  refine st_getfi (Or.inl rfl) rfl hs0 rfl (pc' := 19) rfl ?_
  exact st_icmp_ge (pc' := 22) rfl rfl kt kf
theorem B_Md_readGroup_22 {d : Nat} {h : PH} {Q : PQ} {r0 : Nat} {x1 : Int32} (hs0 : h_sh h r0 = some (0, 12)) (k : wpm d 183 [.ref r0] h (fun r h' => wpx d P_Md_readGroup 26 [.ref r0, .int x1] (r.toList ++ []) h' Q)) : wpx d P_Md_readGroup 22 [.ref r0, .int x1] [] h Q := by
  refine st_aload (pc' := 23) rfl rfl rfl ?_
  exact st_call (pc' := 26) (as := [.ref r0]) (rest := []) rfl rfl (Nat.le_of_ble_eq_true rfl) rfl rfl (Nat.le_of_ble_eq_true rfl) (kd := 1) (o := 12) rfl rfl (beq_iff_eq.mpr hs0) k
theorem B_Md_readGroup_26 {d : Nat} {h : PH} {Q : PQ} {r0 : Nat} {x1 : Int32} {s0 : Int32}  (kt : s0 = 0 → wpx d P_Md_readGroup 48 [.ref r0, .int x1] [] h Q) (kf : ¬ (s0 = 0) → wpx d P_Md_readGroup 29 [.ref r0, .int x1] [] h Q) : wpx d P_Md_readGroup 26 [.ref r0, .int x1] [.int s0] h Q := by
  exact st_if_eq (pc' := 29) rfl rfl kt kf
theorem B_Md_readGroup_29 {d : Nat} {h : PH} {Q : PQ} {r0 : Nat} {x1 : Int32} (hs0 : h_sh h r0 = some (0, 12)) (k : wpm d 191 [.ref r0, .int x1] h (fun r h' => wpx d P_Md_readGroup 34 [.ref r0, .int x1] (r.toList ++ []) h' Q)) : wpx d P_Md_readGroup 29 [.ref r0, .int x1] [] h Q := by
  refine st_aload (pc' := 30) rfl rfl rfl ?_
  refine st_iload (pc' := 31) rfl rfl rfl ?_
  exact st_call (pc' := 34) (as := [.ref r0, .int x1]) (rest := []) rfl rfl (Nat.le_of_ble_eq_true rfl) rfl rfl (Nat.le_of_ble_eq_true rfl) (kd := 1) (o := 12) rfl rfl (beq_iff_eq.mpr hs0) k
theorem B_Md_readGroup_34 {d : Nat} {h : PH} {Q : PQ} {r0 : Nat} {x1 : Int32} {s0 : Int32}  (kt : s0 = 0 → wpx d P_Md_readGroup 42 [.ref r0, .int x1] [] h Q) (kf : ¬ (s0 = 0) → wpx d P_Md_readGroup 37 [.ref r0, .int x1] [] h Q) : wpx d P_Md_readGroup 34 [.ref r0, .int x1] [.int s0] h Q := by
  exact st_if_eq (pc' := 37) rfl rfl kt kf
theorem B_Md_readGroup_37 {d : Nat} {h : PH} {Q : PQ} {r0 : Nat} {x1 : Int32} (hs0 : h_sh h r0 = some (0, 12)) (k : wpm d 184 [.ref r0, .int 3] h (fun r h' => wpx d P_Md_readGroup 42 [.ref r0, .int x1] (r.toList ++ []) h' Q)) : wpx d P_Md_readGroup 37 [.ref r0, .int x1] [] h Q := by
  refine st_aload (pc' := 38) rfl rfl rfl ?_
  refine st_ipush (pc' := 39) (v := 3) rfl rfl (by decide) ?_
  exact st_call (pc' := 42) (as := [.ref r0, .int 3]) (rest := []) rfl rfl (Nat.le_of_ble_eq_true rfl) rfl rfl (Nat.le_of_ble_eq_true rfl) (kd := 1) (o := 12) rfl rfl (beq_iff_eq.mpr hs0) k
theorem B_Md_readGroup_42 {d : Nat} {h : PH} {Q : PQ} {r0 : Nat} {x1 : Int32}  (k : wpx d P_Md_readGroup 14 [.ref r0, .int (x1 + 1)] [] h Q) : wpx d P_Md_readGroup 42 [.ref r0, .int x1] [] h Q := by
  refine st_iinc (pc' := 45) (v := 1) (ls' := [.ref r0, .int (x1 + 1)]) rfl rfl rfl (by decide) rfl ?_
  exact st_goto rfl k
theorem B_Md_readGroup_48 {d : Nat} {h : PH} {Q : PQ} {r0 : Nat} {x1 : Int32} (hs0 : h_sh h r0 = some (0, 12)) (k : wpm d 183 [.ref r0] h (fun r h' => wpx d P_Md_readGroup 52 [.ref r0, .int x1] (r.toList ++ []) h' Q)) : wpx d P_Md_readGroup 48 [.ref r0, .int x1] [] h Q := by
  refine st_aload (pc' := 49) rfl rfl rfl ?_
  exact st_call (pc' := 52) (as := [.ref r0]) (rest := []) rfl rfl (Nat.le_of_ble_eq_true rfl) rfl rfl (Nat.le_of_ble_eq_true rfl) (kd := 1) (o := 12) rfl rfl (beq_iff_eq.mpr hs0) k
theorem B_Md_readGroup_52 {d : Nat} {h : PH} {Q : PQ} {r0 : Nat} {x1 : Int32} {s0 : Int32}  (kt : s0 = 0 → wpx d P_Md_readGroup 69 [.ref r0, .int x1] [] h Q) (kf : ¬ (s0 = 0) → wpx d P_Md_readGroup 55 [.ref r0, .int x1] [] h Q) : wpx d P_Md_readGroup 52 [.ref r0, .int x1] [.int s0] h Q := by
  exact st_if_eq (pc' := 55) rfl rfl kt kf
theorem B_Md_readGroup_55 {d : Nat} {h : PH} {Q : PQ} {r0 : Nat} {x1 : Int32} (hs0 : h_sh h r0 = some (0, 12)) (kt : ¬ ((h_i h r0 22) = (14 : Int32)) → wpx d P_Md_readGroup 69 [.ref r0, .int x1] [] h Q) (kf : (h_i h r0 22) = (14 : Int32) → wpx d P_Md_readGroup 64 [.ref r0, .int x1] [] h Q) : wpx d P_Md_readGroup 55 [.ref r0, .int x1] [] h Q := by
  refine st_aload (pc' := 56) rfl rfl rfl ?_
  refine st_getfi (Or.inl rfl) rfl hs0 rfl (pc' := 59) rfl ?_
  refine st_ipush (pc' := 61) (v := 14) rfl rfl (by decide) ?_
  exact st_icmp_ne (pc' := 64) rfl rfl kt kf
theorem B_Md_readGroup_64 {d : Nat} {h : PH} {Q : PQ} {r0 : Nat} {x1 : Int32} (hs0 : h_sh h r0 = some (0, 12)) (k : wpm d 184 [.ref r0, .int 4] h (fun r h' => wpx d P_Md_readGroup 69 [.ref r0, .int x1] (r.toList ++ []) h' Q)) : wpx d P_Md_readGroup 64 [.ref r0, .int x1] [] h Q := by
  refine st_aload (pc' := 65) rfl rfl rfl ?_
  refine st_ipush (pc' := 66) (v := 4) rfl rfl (by decide) ?_
  exact st_call (pc' := 69) (as := [.ref r0, .int 4]) (rest := []) rfl rfl (Nat.le_of_ble_eq_true rfl) rfl rfl (Nat.le_of_ble_eq_true rfl) (kd := 1) (o := 12) rfl rfl (beq_iff_eq.mpr hs0) k
theorem B_Md_readGroup_69 {d : Nat} {h : PH} {Q : PQ} {r0 : Nat} {x1 : Int32} (hs0 : h_sh h r0 = some (0, 12)) (k : wpm d 183 [.ref r0] h (fun r h' => wpx d P_Md_readGroup 73 [.ref r0, .int x1] (r.toList ++ []) h' Q)) : wpx d P_Md_readGroup 69 [.ref r0, .int x1] [] h Q := by
  refine st_aload (pc' := 70) rfl rfl rfl ?_
  exact st_call (pc' := 73) (as := [.ref r0]) (rest := []) rfl rfl (Nat.le_of_ble_eq_true rfl) rfl rfl (Nat.le_of_ble_eq_true rfl) (kd := 1) (o := 12) rfl rfl (beq_iff_eq.mpr hs0) k
theorem B_Md_readGroup_73 {d : Nat} {h : PH} {Q : PQ} {r0 : Nat} {x1 : Int32} {s0 : Int32}  (kt : s0 = 0 → wpx d P_Md_readGroup 162 [.ref r0, .int x1] [] h Q) (kf : ¬ (s0 = 0) → wpx d P_Md_readGroup 76 [.ref r0, .int x1] [] h Q) : wpx d P_Md_readGroup 73 [.ref r0, .int x1] [.int s0] h Q := by
  exact st_if_eq (pc' := 76) rfl rfl kt kf
theorem B_Md_readGroup_76 {d : Nat} {h : PH} {Q : PQ} {r0 : Nat} {x1 : Int32} {a0 : Nat} {n1 : Nat} {a2 : Nat} {n3 : Nat} (hs0 : h_sh h r0 = some (0, 12)) (hr1 : h_r h r0 10 = some a0) (hs2 : h_sh h a0 = some (1, n1)) (hb3 : vp_in (h_i h r0 22) n1) (hr4 : h_r h r0 11 = some a2) (hs5 : h_sh h a2 = some (1, n3)) (hb6 : vp_in (h_i (w_i h a0 ((h_i h r0 22).toNatClampNeg) ((h_i h r0 15) - (h_i h r0 14))) r0 22) n3) (k : wpx d P_Md_readGroup 109 [.ref r0, .int x1] [] (w_i (w_i h a0 ((h_i h r0 22).toNatClampNeg) ((h_i h r0 15) - (h_i h r0 14))) a2 ((h_i (w_i h a0 ((h_i h r0 22).toNatClampNeg) ((h_i h r0 15) - (h_i h r0 14))) r0 22).toNatClampNeg) ((h_i (w_i h a0 ((h_i h r0 22).toNatClampNeg) ((h_i h r0 15) - (h_i h r0 14))) r0 21) - (1 : Int32))) Q) : wpx d P_Md_readGroup 76 [.ref r0, .int x1] [] h Q := by
  refine st_aload (pc' := 77) rfl rfl rfl ?_
  refine st_getfr (x := some a0) (Or.inl rfl) rfl hs0 rfl hr1 (pc' := 80) rfl ?_
  refine st_aload (pc' := 81) rfl rfl rfl ?_
  refine st_getfi (Or.inl rfl) rfl hs0 rfl (pc' := 84) rfl ?_
  refine st_aload (pc' := 85) rfl rfl rfl ?_
  refine st_getfi (Or.inl rfl) rfl hs0 rfl (pc' := 88) rfl ?_
  refine st_aload (pc' := 89) rfl rfl rfl ?_
  refine st_getfi (Or.inl rfl) rfl hs0 rfl (pc' := 92) rfl ?_
  refine st_isub (pc' := 93) rfl rfl ?_
  refine st_iastore rfl hs2 hb3 (j := (h_i h r0 22).toNatClampNeg) rfl (pc' := 94) rfl ?_
  refine st_aload (pc' := 95) rfl rfl rfl ?_
  refine st_getfr (x := some a2) (Or.inl rfl) rfl hs0 rfl hr4 (pc' := 98) rfl ?_
  refine st_aload (pc' := 99) rfl rfl rfl ?_
  refine st_getfi (Or.inl rfl) rfl hs0 rfl (pc' := 102) rfl ?_
  refine st_aload (pc' := 103) rfl rfl rfl ?_
  refine st_getfi (Or.inl rfl) rfl hs0 rfl (pc' := 106) rfl ?_
  refine st_ipush (pc' := 107) (v := 1) rfl rfl (by decide) ?_
  refine st_isub (pc' := 108) rfl rfl ?_
  refine st_iastore rfl hs5 hb6 (j := (h_i (w_i h a0 ((h_i h r0 22).toNatClampNeg) ((h_i h r0 15) - (h_i h r0 14))) r0 22).toNatClampNeg) rfl (pc' := 109) rfl ?_
  exact k
theorem B_Md_readGroup_114 {d : Nat} {h : PH} {Q : PQ} {r0 : Nat} {x1 : Int32} (hs0 : h_sh h r0 = some (0, 12)) (kt : (h_i h r0 15) ≤ x1 → wpx d P_Md_readGroup 152 [.ref r0, .int x1] [] h Q) (kf : ¬ ((h_i h r0 15) ≤ x1) → wpx d P_Md_readGroup 122 [.ref r0, .int x1] [] h Q) : wpx d P_Md_readGroup 114 [.ref r0, .int x1] [] h Q := by
  refine st_iload (pc' := 115) rfl rfl rfl ?_
  refine st_aload (pc' := 116) rfl rfl rfl ?_
  refine st_getfi (Or.inl rfl) rfl hs0 rfl (pc' := 119) rfl ?_
  exact st_icmp_ge (pc' := 122) rfl rfl kt kf
theorem B_Md_readGroup_122 {d : Nat} {h : PH} {Q : PQ} {r0 : Nat} {x1 : Int32} {a0 : Nat} (hs0 : h_sh h r0 = some (0, 12)) (hr1 : h_r h r0 9 = some a0) (k : wpm d 180 [.ref r0, .int x1] h (fun r h' => wpx d P_Md_readGroup 145 [.ref r0, .int x1] (r.toList ++ [.int ((((8 : Int32) * (h_i h r0 22)) + x1) - (h_i h r0 14)), .ref a0]) h' Q)) : wpx d P_Md_readGroup 122 [.ref r0, .int x1] [] h Q := by
  refine st_aload (pc' := 123) rfl rfl rfl ?_
  refine st_getfr (x := some a0) (Or.inl rfl) rfl hs0 rfl hr1 (pc' := 126) rfl ?_
  refine st_ipush (pc' := 128) (v := 8) rfl rfl (by decide) ?_
  refine st_aload (pc' := 129) rfl rfl rfl ?_
  refine st_getfi (Or.inl rfl) rfl hs0 rfl (pc' := 132) rfl ?_
  refine st_imul (pc' := 133) rfl rfl ?_
  refine st_iload (pc' := 134) rfl rfl rfl ?_
  refine st_iadd (pc' := 135) rfl rfl ?_
  refine st_aload (pc' := 136) rfl rfl rfl ?_
  refine st_getfi (Or.inl rfl) rfl hs0 rfl (pc' := 139) rfl ?_
  refine st_isub (pc' := 140) rfl rfl ?_
  refine st_aload (pc' := 141) rfl rfl rfl ?_
  refine st_iload (pc' := 142) rfl rfl rfl ?_
  exact st_call (pc' := 145) (as := [.ref r0, .int x1]) (rest := [.int ((((8 : Int32) * (h_i h r0 22)) + x1) - (h_i h r0 14)), .ref a0]) rfl rfl (Nat.le_of_ble_eq_true rfl) rfl rfl (Nat.le_of_ble_eq_true rfl) (kd := 1) (o := 12) rfl rfl (beq_iff_eq.mpr hs0) k
theorem B_Md_readGroup_145 {d : Nat} {h : PH} {Q : PQ} {r0 : Nat} {x1 : Int32} {q0 : Nat} {s1 : Int32} {s2 : Int32} {n0 : Nat} (hs0 : h_sh h q0 = some (1, n0)) (hb1 : vp_in s1 n0) (k : wpx d P_Md_readGroup 114 [.ref r0, .int (x1 + 1)] [] (w_i h q0 s1.toNatClampNeg s2) Q) : wpx d P_Md_readGroup 145 [.ref r0, .int x1] [.int s2, .int s1, .ref q0] h Q := by
  refine st_iastore rfl hs0 hb1 (j := s1.toNatClampNeg) rfl (pc' := 146) rfl ?_
  refine st_iinc (pc' := 149) (v := 1) (ls' := [.ref r0, .int (x1 + 1)]) rfl rfl rfl (by decide) rfl ?_
  exact st_goto rfl k
theorem B_Md_readGroup_152 {d : Nat} {h : PH} {Q : PQ} {r0 : Nat} {x1 : Int32} (hs0 : h_sh h r0 = some (0, 12)) (k : wpx d P_Md_readGroup 162 [.ref r0, .int x1] [] (w_i h r0 22 ((h_i h r0 22) + (1 : Int32))) Q) : wpx d P_Md_readGroup 152 [.ref r0, .int x1] [] h Q := by
  refine st_aload (pc' := 153) rfl rfl rfl ?_
  refine st_dup (pc' := 154) rfl rfl rfl ?_
  refine st_getfi (Or.inl rfl) rfl hs0 rfl (pc' := 157) rfl ?_
  refine st_ipush (pc' := 158) (v := 1) rfl rfl (by decide) ?_
  refine st_iadd (pc' := 159) rfl rfl ?_
  refine st_putf (h' := w_i h r0 22 ((h_i h r0 22) + (1 : Int32))) (Or.inl rfl) rfl hs0 rfl rfl rfl (pc' := 162) rfl ?_
  exact k
theorem B_Md_readGroup_162 {d : Nat} {h : PH} {Q : PQ} {r0 : Nat} {x1 : Int32} (hs0 : h_sh h r0 = some (0, 12)) (k : wpm d 185 [.ref r0] h (fun r h' => wpx d P_Md_readGroup 166 [.ref r0, .int x1] (r.toList ++ []) h' Q)) : wpx d P_Md_readGroup 162 [.ref r0, .int x1] [] h Q := by
  refine st_aload (pc' := 163) rfl rfl rfl ?_
  exact st_call (pc' := 166) (as := [.ref r0]) (rest := []) rfl rfl (Nat.le_of_ble_eq_true rfl) rfl rfl (Nat.le_of_ble_eq_true rfl) (kd := 1) (o := 12) rfl rfl (beq_iff_eq.mpr hs0) k
theorem B_Md_readGroup_166 {d : Nat} {h : PH} {Q : PQ} {r0 : Nat} {x1 : Int32}  (k : Q none h) : wpx d P_Md_readGroup 166 [.ref r0, .int x1] [] h Q := by
  exact st_return rfl k
theorem B_Md_readGroup_109 {d : Nat} {h : PH} {Q : PQ} {r0 : Nat} {x1 : Int32} (hs0 : h_sh h r0 = some (0, 12)) (k : wpx d P_Md_readGroup 114 [.ref r0, .int (h_i h r0 14)] [] h Q) : wpx d P_Md_readGroup 109 [.ref r0, .int x1] [] h Q := by
  refine st_aload (pc' := 110) rfl rfl rfl ?_
  refine st_getfi (Or.inl rfl) rfl hs0 rfl (pc' := 113) rfl ?_
  refine st_istore (pc' := 114) (ls' := [.ref r0, .int (h_i h r0 14)]) rfl rfl (Nat.le_of_ble_eq_true rfl) rfl ?_
  exact k
theorem B_Md_mustBe_0 {d : Nat} {h : PH} {Q : PQ} {r0 : Nat} {x1 : Int32} (hs0 : h_sh h r0 = some (0, 12)) (k : wpm d 183 [.ref r0] h (fun r h' => wpx d P_Md_mustBe 4 [.ref r0, .int x1] (r.toList ++ []) h' Q)) : wpx d P_Md_mustBe 0 [.ref r0, .int x1] [] h Q := by
  refine st_aload (pc' := 1) rfl rfl rfl ?_
  exact st_call (pc' := 4) (as := [.ref r0]) (rest := []) rfl rfl (Nat.le_of_ble_eq_true rfl) rfl rfl (Nat.le_of_ble_eq_true rfl) (kd := 1) (o := 12) rfl rfl (beq_iff_eq.mpr hs0) k
theorem B_Md_mustBe_4 {d : Nat} {h : PH} {Q : PQ} {r0 : Nat} {x1 : Int32} {s0 : Int32}  (kt : s0 = 0 → wpx d P_Md_mustBe 20 [.ref r0, .int x1] [] h Q) (kf : ¬ (s0 = 0) → wpx d P_Md_mustBe 7 [.ref r0, .int x1] [] h Q) : wpx d P_Md_mustBe 4 [.ref r0, .int x1] [.int s0] h Q := by
  exact st_if_eq (pc' := 7) rfl rfl kt kf
theorem B_Md_mustBe_7 {d : Nat} {h : PH} {Q : PQ} {r0 : Nat} {x1 : Int32} (hs0 : h_sh h r0 = some (0, 12)) (k : wpm d 186 [.ref r0, .int x1] h (fun r h' => wpx d P_Md_mustBe 12 [.ref r0, .int x1] (r.toList ++ []) h' Q)) : wpx d P_Md_mustBe 7 [.ref r0, .int x1] [] h Q := by
  refine st_aload (pc' := 8) rfl rfl rfl ?_
  refine st_iload (pc' := 9) rfl rfl rfl ?_
  exact st_call (pc' := 12) (as := [.ref r0, .int x1]) (rest := []) rfl rfl (Nat.le_of_ble_eq_true rfl) rfl rfl (Nat.le_of_ble_eq_true rfl) (kd := 1) (o := 12) rfl rfl (beq_iff_eq.mpr hs0) k
theorem B_Md_mustBe_12 {d : Nat} {h : PH} {Q : PQ} {r0 : Nat} {x1 : Int32} {s0 : Int32}  (kt : ¬ (s0 = 0) → wpx d P_Md_mustBe 20 [.ref r0, .int x1] [] h Q) (kf : s0 = 0 → wpx d P_Md_mustBe 15 [.ref r0, .int x1] [] h Q) : wpx d P_Md_mustBe 12 [.ref r0, .int x1] [.int s0] h Q := by
  exact st_if_ne (pc' := 15) rfl rfl kt kf
theorem B_Md_mustBe_15 {d : Nat} {h : PH} {Q : PQ} {r0 : Nat} {x1 : Int32} (hs0 : h_sh h r0 = some (0, 12)) (k : wpm d 184 [.ref r0, .int 2] h (fun r h' => wpx d P_Md_mustBe 20 [.ref r0, .int x1] (r.toList ++ []) h' Q)) : wpx d P_Md_mustBe 15 [.ref r0, .int x1] [] h Q := by
  refine st_aload (pc' := 16) rfl rfl rfl ?_
  refine st_ipush (pc' := 17) (v := 2) rfl rfl (by decide) ?_
  exact st_call (pc' := 20) (as := [.ref r0, .int 2]) (rest := []) rfl rfl (Nat.le_of_ble_eq_true rfl) rfl rfl (Nat.le_of_ble_eq_true rfl) (kd := 1) (o := 12) rfl rfl (beq_iff_eq.mpr hs0) k
theorem B_Md_mustBe_20 {d : Nat} {h : PH} {Q : PQ} {r0 : Nat} {x1 : Int32} (hs0 : h_sh h r0 = some (0, 12)) (k : wpm d 185 [.ref r0] h (fun r h' => wpx d P_Md_mustBe 24 [.ref r0, .int x1] (r.toList ++ []) h' Q)) : wpx d P_Md_mustBe 20 [.ref r0, .int x1] [] h Q := by
  refine st_aload (pc' := 21) rfl rfl rfl ?_
  exact st_call (pc' := 24) (as := [.ref r0]) (rest := []) rfl rfl (Nat.le_of_ble_eq_true rfl) rfl rfl (Nat.le_of_ble_eq_true rfl) (kd := 1) (o := 12) rfl rfl (beq_iff_eq.mpr hs0) k
theorem B_Md_mustBe_24 {d : Nat} {h : PH} {Q : PQ} {r0 : Nat} {x1 : Int32}  (k : Q none h) : wpx d P_Md_mustBe 24 [.ref r0, .int x1] [] h Q := by
  exact st_return rfl k
theorem B_Md_readLine_0 {d : Nat} {h : PH} {Q : PQ} {r0 : Nat} (hs0 : h_sh h r0 = some (0, 12)) (k : wpm d 189 [.ref r0] h (fun r h' => wpx d P_Md_readLine 4 [.ref r0] (r.toList ++ []) h' Q)) : wpx d P_Md_readLine 0 [.ref r0] [] h Q := by
  refine st_aload (pc' := 1) rfl rfl rfl ?_
  exact st_call (pc' := 4) (as := [.ref r0]) (rest := []) rfl rfl (Nat.le_of_ble_eq_true rfl) rfl rfl (Nat.le_of_ble_eq_true rfl) (kd := 1) (o := 12) rfl rfl (beq_iff_eq.mpr hs0) k
theorem B_Md_readLine_4 {d : Nat} {h : PH} {Q : PQ} {r0 : Nat} {s0 : Int32}  (kt : ¬ (s0 = 0) → wpx d P_Md_readLine 15 [.ref r0] [] h Q) (kf : s0 = 0 → wpx d P_Md_readLine 7 [.ref r0] [] h Q) : wpx d P_Md_readLine 4 [.ref r0] [.int s0] h Q := by
  exact st_if_ne (pc' := 7) rfl rfl kt kf
theorem B_Md_readLine_7 {d : Nat} {h : PH} {Q : PQ} {r0 : Nat} (hs0 : h_sh h r0 = some (0, 12)) (k : wpm d 184 [.ref r0, .int 2] h (fun r h' => wpx d P_Md_readLine 12 [.ref r0] (r.toList ++ []) h' Q)) : wpx d P_Md_readLine 7 [.ref r0] [] h Q := by
  refine st_aload (pc' := 8) rfl rfl rfl ?_
  refine st_ipush (pc' := 9) (v := 2) rfl rfl (by decide) ?_
  exact st_call (pc' := 12) (as := [.ref r0, .int 2]) (rest := []) rfl rfl (Nat.le_of_ble_eq_true rfl) rfl rfl (Nat.le_of_ble_eq_true rfl) (kd := 1) (o := 12) rfl rfl (beq_iff_eq.mpr hs0) k
theorem B_Md_readLine_12 {d : Nat} {h : PH} {Q : PQ} {r0 : Nat}  (k : wpx d P_Md_readLine 29 [.ref r0] [] h Q) : wpx d P_Md_readLine 12 [.ref r0] [] h Q := by
  exact st_goto rfl k
theorem B_Md_readLine_15 {d : Nat} {h : PH} {Q : PQ} {r0 : Nat} (hs0 : h_sh h r0 = some (0, 12)) (kt : ¬ ((h_i h r0 21) = (10 : Int32)) → wpx d P_Md_readLine 29 [.ref r0] [] h Q) (kf : (h_i h r0 21) = (10 : Int32) → wpx d P_Md_readLine 24 [.ref r0] [] h Q) : wpx d P_Md_readLine 15 [.ref r0] [] h Q := by
  refine st_aload (pc' := 16) rfl rfl rfl ?_
  refine st_getfi (Or.inl rfl) rfl hs0 rfl (pc' := 19) rfl ?_
  refine st_ipush (pc' := 21) (v := 10) rfl rfl (by decide) ?_
  exact st_icmp_ne (pc' := 24) rfl rfl kt kf
theorem B_Md_readLine_24 {d : Nat} {h : PH} {Q : PQ} {r0 : Nat} (hs0 : h_sh h r0 = some (0, 12)) (k : wpm d 184 [.ref r0, .int 4] h (fun r h' => wpx d P_Md_readLine 29 [.ref r0] (r.toList ++ []) h' Q)) : wpx d P_Md_readLine 24 [.ref r0] [] h Q := by
  refine st_aload (pc' := 25) rfl rfl rfl ?_
  refine st_ipush (pc' := 26) (v := 4) rfl rfl (by decide) ?_
  exact st_call (pc' := 29) (as := [.ref r0, .int 4]) (rest := []) rfl rfl (Nat.le_of_ble_eq_true rfl) rfl rfl (Nat.le_of_ble_eq_true rfl) (kd := 1) (o := 12) rfl rfl (beq_iff_eq.mpr hs0) k
theorem B_Md_readLine_29 {d : Nat} {h : PH} {Q : PQ} {r0 : Nat} (hs0 : h_sh h r0 = some (0, 12)) (k : wpm d 185 [.ref r0] h (fun r h' => wpx d P_Md_readLine 33 [.ref r0] (r.toList ++ []) h' Q)) : wpx d P_Md_readLine 29 [.ref r0] [] h Q := by
  refine st_aload (pc' := 30) rfl rfl rfl ?_
  exact st_call (pc' := 33) (as := [.ref r0]) (rest := []) rfl rfl (Nat.le_of_ble_eq_true rfl) rfl rfl (Nat.le_of_ble_eq_true rfl) (kd := 1) (o := 12) rfl rfl (beq_iff_eq.mpr hs0) k
theorem B_Md_readLine_33 {d : Nat} {h : PH} {Q : PQ} {r0 : Nat} (hs0 : h_sh h r0 = some (0, 12)) (k : wpm d 183 [.ref r0] h (fun r h' => wpx d P_Md_readLine 37 [.ref r0] (r.toList ++ []) h' Q)) : wpx d P_Md_readLine 33 [.ref r0] [] h Q := by
  refine st_aload (pc' := 34) rfl rfl rfl ?_
  exact st_call (pc' := 37) (as := [.ref r0]) (rest := []) rfl rfl (Nat.le_of_ble_eq_true rfl) rfl rfl (Nat.le_of_ble_eq_true rfl) (kd := 1) (o := 12) rfl rfl (beq_iff_eq.mpr hs0) k
theorem B_Md_readLine_37 {d : Nat} {h : PH} {Q : PQ} {r0 : Nat} {s0 : Int32}  (kt : s0 = 0 → wpx d P_Md_readLine 44 [.ref r0] [] h Q) (kf : ¬ (s0 = 0) → wpx d P_Md_readLine 40 [.ref r0] [] h Q) : wpx d P_Md_readLine 37 [.ref r0] [.int s0] h Q := by
  exact st_if_eq (pc' := 40) rfl rfl kt kf
theorem B_Md_readLine_40 {d : Nat} {h : PH} {Q : PQ} {r0 : Nat} (hs0 : h_sh h r0 = some (0, 12)) (k : wpm d 190 [.ref r0] h (fun r h' => wpx d P_Md_readLine 44 [.ref r0] (r.toList ++ []) h' Q)) : wpx d P_Md_readLine 40 [.ref r0] [] h Q := by
  refine st_aload (pc' := 41) rfl rfl rfl ?_
  exact st_call (pc' := 44) (as := [.ref r0]) (rest := []) rfl rfl (Nat.le_of_ble_eq_true rfl) rfl rfl (Nat.le_of_ble_eq_true rfl) (kd := 1) (o := 12) rfl rfl (beq_iff_eq.mpr hs0) k
theorem B_Md_readLine_44 {d : Nat} {h : PH} {Q : PQ} {r0 : Nat} (hs0 : h_sh h r0 = some (0, 12)) (k : wpm d 193 [.ref r0, .int 61] h (fun r h' => wpx d P_Md_readLine 50 [.ref r0] (r.toList ++ []) h' Q)) : wpx d P_Md_readLine 44 [.ref r0] [] h Q := by
  refine st_aload (pc' := 45) rfl rfl rfl ?_
  refine st_ipush (pc' := 47) (v := 61) rfl rfl (by decide) ?_
  exact st_call (pc' := 50) (as := [.ref r0, .int 61]) (rest := []) rfl rfl (Nat.le_of_ble_eq_true rfl) rfl rfl (Nat.le_of_ble_eq_true rfl) (kd := 1) (o := 12) rfl rfl (beq_iff_eq.mpr hs0) k
theorem B_Md_readLine_50 {d : Nat} {h : PH} {Q : PQ} {r0 : Nat} (hs0 : h_sh h r0 = some (0, 12)) (k : wpm d 183 [.ref r0] h (fun r h' => wpx d P_Md_readLine 54 [.ref r0] (r.toList ++ []) h' Q)) : wpx d P_Md_readLine 50 [.ref r0] [] h Q := by
  refine st_aload (pc' := 51) rfl rfl rfl ?_
  exact st_call (pc' := 54) (as := [.ref r0]) (rest := []) rfl rfl (Nat.le_of_ble_eq_true rfl) rfl rfl (Nat.le_of_ble_eq_true rfl) (kd := 1) (o := 12) rfl rfl (beq_iff_eq.mpr hs0) k
theorem B_Md_readLine_54 {d : Nat} {h : PH} {Q : PQ} {r0 : Nat} {s0 : Int32}  (kt : s0 = 0 → wpx d P_Md_readLine 61 [.ref r0] [] h Q) (kf : ¬ (s0 = 0) → wpx d P_Md_readLine 57 [.ref r0] [] h Q) : wpx d P_Md_readLine 54 [.ref r0] [.int s0] h Q := by
  exact st_if_eq (pc' := 57) rfl rfl kt kf
theorem B_Md_readLine_57 {d : Nat} {h : PH} {Q : PQ} {r0 : Nat} (hs0 : h_sh h r0 = some (0, 12)) (k : wpm d 192 [.ref r0] h (fun r h' => wpx d P_Md_readLine 61 [.ref r0] (r.toList ++ []) h' Q)) : wpx d P_Md_readLine 57 [.ref r0] [] h Q := by
  refine st_aload (pc' := 58) rfl rfl rfl ?_
  exact st_call (pc' := 61) (as := [.ref r0]) (rest := []) rfl rfl (Nat.le_of_ble_eq_true rfl) rfl rfl (Nat.le_of_ble_eq_true rfl) (kd := 1) (o := 12) rfl rfl (beq_iff_eq.mpr hs0) k
theorem B_Md_readLine_61 {d : Nat} {h : PH} {Q : PQ} {r0 : Nat} (hs0 : h_sh h r0 = some (0, 12)) (k : wpm d 183 [.ref r0] h (fun r h' => wpx d P_Md_readLine 65 [.ref r0] (r.toList ++ []) h' Q)) : wpx d P_Md_readLine 61 [.ref r0] [] h Q := by
  refine st_aload (pc' := 62) rfl rfl rfl ?_
  exact st_call (pc' := 65) (as := [.ref r0]) (rest := []) rfl rfl (Nat.le_of_ble_eq_true rfl) rfl rfl (Nat.le_of_ble_eq_true rfl) (kd := 1) (o := 12) rfl rfl (beq_iff_eq.mpr hs0) k
theorem B_Md_readLine_65 {d : Nat} {h : PH} {Q : PQ} {r0 : Nat} {s0 : Int32}  (kt : s0 = 0 → wpx d P_Md_readLine 88 [.ref r0] [] h Q) (kf : ¬ (s0 = 0) → wpx d P_Md_readLine 68 [.ref r0] [] h Q) : wpx d P_Md_readLine 65 [.ref r0] [.int s0] h Q := by
  exact st_if_eq (pc' := 68) rfl rfl kt kf
theorem B_Md_readLine_68 {d : Nat} {h : PH} {Q : PQ} {r0 : Nat} (hs0 : h_sh h r0 = some (0, 12)) (k : wpm d 186 [.ref r0, .int 124] h (fun r h' => wpx d P_Md_readLine 74 [.ref r0] (r.toList ++ []) h' Q)) : wpx d P_Md_readLine 68 [.ref r0] [] h Q := by
  refine st_aload (pc' := 69) rfl rfl rfl ?_
  refine st_ipush (pc' := 71) (v := 124) rfl rfl (by decide) ?_
  exact st_call (pc' := 74) (as := [.ref r0, .int 124]) (rest := []) rfl rfl (Nat.le_of_ble_eq_true rfl) rfl rfl (Nat.le_of_ble_eq_true rfl) (kd := 1) (o := 12) rfl rfl (beq_iff_eq.mpr hs0) k
theorem B_Md_readLine_74 {d : Nat} {h : PH} {Q : PQ} {r0 : Nat} {s0 : Int32}  (kt : s0 = 0 → wpx d P_Md_readLine 88 [.ref r0] [] h Q) (kf : ¬ (s0 = 0) → wpx d P_Md_readLine 77 [.ref r0] [] h Q) : wpx d P_Md_readLine 74 [.ref r0] [.int s0] h Q := by
  exact st_if_eq (pc' := 77) rfl rfl kt kf
theorem B_Md_readLine_77 {d : Nat} {h : PH} {Q : PQ} {r0 : Nat} (hs0 : h_sh h r0 = some (0, 12)) (k : wpm d 182 [.ref r0] h (fun r h' => wpx d P_Md_readLine 81 [.ref r0] (r.toList ++ []) h' Q)) : wpx d P_Md_readLine 77 [.ref r0] [] h Q := by
  refine st_aload (pc' := 78) rfl rfl rfl ?_
  exact st_call (pc' := 81) (as := [.ref r0]) (rest := []) rfl rfl (Nat.le_of_ble_eq_true rfl) rfl rfl (Nat.le_of_ble_eq_true rfl) (kd := 1) (o := 12) rfl rfl (beq_iff_eq.mpr hs0) k
theorem B_Md_readLine_81 {d : Nat} {h : PH} {Q : PQ} {r0 : Nat} (hs0 : h_sh h r0 = some (0, 12)) (k : wpm d 192 [.ref r0] h (fun r h' => wpx d P_Md_readLine 85 [.ref r0] (r.toList ++ []) h' Q)) : wpx d P_Md_readLine 81 [.ref r0] [] h Q := by
  refine st_aload (pc' := 82) rfl rfl rfl ?_
  exact st_call (pc' := 85) (as := [.ref r0]) (rest := []) rfl rfl (Nat.le_of_ble_eq_true rfl) rfl rfl (Nat.le_of_ble_eq_true rfl) (kd := 1) (o := 12) rfl rfl (beq_iff_eq.mpr hs0) k
theorem B_Md_readLine_85 {d : Nat} {h : PH} {Q : PQ} {r0 : Nat}  (k : wpx d P_Md_readLine 61 [.ref r0] [] h Q) : wpx d P_Md_readLine 85 [.ref r0] [] h Q := by
  exact st_goto rfl k
theorem B_Md_readLine_88 {d : Nat} {h : PH} {Q : PQ} {r0 : Nat} (hs0 : h_sh h r0 = some (0, 12)) (k : wpm d 193 [.ref r0, .int 59] h (fun r h' => wpx d P_Md_readLine 94 [.ref r0] (r.toList ++ []) h' Q)) : wpx d P_Md_readLine 88 [.ref r0] [] h Q := by
  refine st_aload (pc' := 89) rfl rfl rfl ?_
  refine st_ipush (pc' := 91) (v := 59) rfl rfl (by decide) ?_
  exact st_call (pc' := 94) (as := [.ref r0, .int 59]) (rest := []) rfl rfl (Nat.le_of_ble_eq_true rfl) rfl rfl (Nat.le_of_ble_eq_true rfl) (kd := 1) (o := 12) rfl rfl (beq_iff_eq.mpr hs0) k
theorem B_Md_readLine_94 {d : Nat} {h : PH} {Q : PQ} {r0 : Nat}  (k : Q none h) : wpx d P_Md_readLine 94 [.ref r0] [] h Q := by
  exact st_return rfl k
theorem B_Md_table_0 {d : Nat} {h : PH} {Q : PQ} {r0 : Nat} {v1 : Value} {v2 : Value} (hs0 : h_sh h r0 = some (0, 12)) (k : wpm d 182 [.ref r0] (w_i (w_i (w_i (w_i (w_i (w_i (w_i h r0 0 0) r0 13 (h_i (w_i h r0 0 0) r0 12)) r0 12 0) r0 15 0) r0 19 0) r0 21 0) r0 22 0) (fun r h' => wpx d P_Md_table 42 [.ref r0, v1, v2] (r.toList ++ []) h' Q)) : wpx d P_Md_table 0 [.ref r0, v1, v2] [] h Q := by
  refine st_aload (pc' := 1) rfl rfl rfl ?_
  refine st_ipush (pc' := 2) (v := 0) rfl rfl (by decide) ?_
  refine st_putf (h' := w_i h r0 0 0) (Or.inl rfl) rfl hs0 rfl rfl rfl (pc' := 5) rfl ?_
  refine st_aload (pc' := 6) rfl rfl rfl ?_
  refine st_aload (pc' := 7) rfl rfl rfl ?_
  refine st_getfi (Or.inl rfl) rfl hs0 rfl (pc' := 10) rfl ?_
  refine st_putf (h' := w_i (w_i h r0 0 0) r0 13 (h_i (w_i h r0 0 0) r0 12)) (Or.inl rfl) rfl hs0 rfl rfl rfl (pc' := 13) rfl ?_
  refine st_aload (pc' := 14) rfl rfl rfl ?_
  refine st_ipush (pc' := 15) (v := 0) rfl rfl (by decide) ?_
  refine st_putf (h' := w_i (w_i (w_i h r0 0 0) r0 13 (h_i (w_i h r0 0 0) r0 12)) r0 12 0) (Or.inl rfl) rfl hs0 rfl rfl rfl (pc' := 18) rfl ?_
  refine st_aload (pc' := 19) rfl rfl rfl ?_
  refine st_ipush (pc' := 20) (v := 0) rfl rfl (by decide) ?_
  refine st_putf (h' := w_i (w_i (w_i (w_i h r0 0 0) r0 13 (h_i (w_i h r0 0 0) r0 12)) r0 12 0) r0 15 0) (Or.inl rfl) rfl hs0 rfl rfl rfl (pc' := 23) rfl ?_
  refine st_aload (pc' := 24) rfl rfl rfl ?_
  refine st_ipush (pc' := 25) (v := 0) rfl rfl (by decide) ?_
  refine st_putf (h' := w_i (w_i (w_i (w_i (w_i h r0 0 0) r0 13 (h_i (w_i h r0 0 0) r0 12)) r0 12 0) r0 15 0) r0 19 0) (Or.inl rfl) rfl hs0 rfl rfl rfl (pc' := 28) rfl ?_
  refine st_aload (pc' := 29) rfl rfl rfl ?_
  refine st_ipush (pc' := 30) (v := 0) rfl rfl (by decide) ?_
  refine st_putf (h' := w_i (w_i (w_i (w_i (w_i (w_i h r0 0 0) r0 13 (h_i (w_i h r0 0 0) r0 12)) r0 12 0) r0 15 0) r0 19 0) r0 21 0) (Or.inl rfl) rfl hs0 rfl rfl rfl (pc' := 33) rfl ?_
  refine st_aload (pc' := 34) rfl rfl rfl ?_
  refine st_ipush (pc' := 35) (v := 0) rfl rfl (by decide) ?_
  refine st_putf (h' := w_i (w_i (w_i (w_i (w_i (w_i (w_i h r0 0 0) r0 13 (h_i (w_i h r0 0 0) r0 12)) r0 12 0) r0 15 0) r0 19 0) r0 21 0) r0 22 0) (Or.inl rfl) rfl hs0 rfl rfl rfl (pc' := 38) rfl ?_
  refine st_aload (pc' := 39) rfl rfl rfl ?_
  exact st_call (pc' := 42) (as := [.ref r0]) (rest := []) rfl rfl (Nat.le_of_ble_eq_true rfl) rfl rfl (Nat.le_of_ble_eq_true rfl) (kd := 1) (o := 12) rfl rfl (beq_iff_eq.mpr hs0) k
theorem B_Md_table_42 {d : Nat} {h : PH} {Q : PQ} {r0 : Nat} {v1 : Value} {v2 : Value} (hs0 : h_sh h r0 = some (0, 12)) (k : wpm d 183 [.ref r0] h (fun r h' => wpx d P_Md_table 46 [.ref r0, v1, v2] (r.toList ++ []) h' Q)) : wpx d P_Md_table 42 [.ref r0, v1, v2] [] h Q := by
  refine st_aload (pc' := 43) rfl rfl rfl ?_
  exact st_call (pc' := 46) (as := [.ref r0]) (rest := []) rfl rfl (Nat.le_of_ble_eq_true rfl) rfl rfl (Nat.le_of_ble_eq_true rfl) (kd := 1) (o := 12) rfl rfl (beq_iff_eq.mpr hs0) k
theorem B_Md_table_46 {d : Nat} {h : PH} {Q : PQ} {r0 : Nat} {v1 : Value} {v2 : Value} {s0 : Int32}  (kt : s0 = 0 → wpx d P_Md_table 63 [.ref r0, v1, v2] [] h Q) (kf : ¬ (s0 = 0) → wpx d P_Md_table 49 [.ref r0, v1, v2] [] h Q) : wpx d P_Md_table 46 [.ref r0, v1, v2] [.int s0] h Q := by
  exact st_if_eq (pc' := 49) rfl rfl kt kf
theorem B_Md_table_49 {d : Nat} {h : PH} {Q : PQ} {r0 : Nat} {v1 : Value} {v2 : Value} (hs0 : h_sh h r0 = some (0, 12)) (kt : (h_i h r0 16) = 0 → wpx d P_Md_table 63 [.ref r0, v1, v2] [] h Q) (kf : ¬ ((h_i h r0 16) = 0) → wpx d P_Md_table 56 [.ref r0, v1, v2] [] h Q) : wpx d P_Md_table 49 [.ref r0, v1, v2] [] h Q := by
  refine st_aload (pc' := 50) rfl rfl rfl ?_
  refine st_getfi (Or.inl rfl) rfl hs0 rfl (pc' := 53) rfl ?_
  exact st_if_eq (pc' := 56) rfl rfl kt kf
theorem B_Md_table_56 {d : Nat} {h : PH} {Q : PQ} {r0 : Nat} {v1 : Value} {v2 : Value} (hs0 : h_sh h r0 = some (0, 12)) (k : wpm d 194 [.ref r0] h (fun r h' => wpx d P_Md_table 60 [.ref r0, v1, v2] (r.toList ++ []) h' Q)) : wpx d P_Md_table 56 [.ref r0, v1, v2] [] h Q := by
  refine st_aload (pc' := 57) rfl rfl rfl ?_
  exact st_call (pc' := 60) (as := [.ref r0]) (rest := []) rfl rfl (Nat.le_of_ble_eq_true rfl) rfl rfl (Nat.le_of_ble_eq_true rfl) (kd := 1) (o := 12) rfl rfl (beq_iff_eq.mpr hs0) k
theorem B_Md_table_60 {d : Nat} {h : PH} {Q : PQ} {r0 : Nat} {v1 : Value} {v2 : Value}  (k : wpx d P_Md_table 42 [.ref r0, v1, v2] [] h Q) : wpx d P_Md_table 60 [.ref r0, v1, v2] [] h Q := by
  exact st_goto rfl k
theorem B_Md_table_63 {d : Nat} {h : PH} {Q : PQ} {r0 : Nat} {v1 : Value} {v2 : Value} (hs0 : h_sh h r0 = some (0, 12)) (k : wpm d 183 [.ref r0] (w_i h r0 17 (h_i h r0 19)) (fun r h' => wpx d P_Md_table 76 [.ref r0, v1, v2] (r.toList ++ [.ref r0]) h' Q)) : wpx d P_Md_table 63 [.ref r0, v1, v2] [] h Q := by
  refine st_aload (pc' := 64) rfl rfl rfl ?_
  refine st_aload (pc' := 65) rfl rfl rfl ?_
  refine st_getfi (Or.inl rfl) rfl hs0 rfl (pc' := 68) rfl ?_
  refine st_putf (h' := w_i h r0 17 (h_i h r0 19)) (Or.inl rfl) rfl hs0 rfl rfl rfl (pc' := 71) rfl ?_
  refine st_aload (pc' := 72) rfl rfl rfl ?_
  refine st_aload (pc' := 73) rfl rfl rfl ?_
  exact st_call (pc' := 76) (as := [.ref r0]) (rest := [.ref r0]) rfl rfl (Nat.le_of_ble_eq_true rfl) rfl rfl (Nat.le_of_ble_eq_true rfl) (kd := 1) (o := 12) rfl rfl (beq_iff_eq.mpr hs0) k
theorem B_Md_table_76 {d : Nat} {h : PH} {Q : PQ} {r0 : Nat} {v1 : Value} {v2 : Value} {q0 : Nat} {s1 : Int32}  (kt : s1 = 0 → wpx d P_Md_table 83 [.ref r0, v1, v2] [.ref q0] h Q) (kf : ¬ (s1 = 0) → wpx d P_Md_table 79 [.ref r0, v1, v2] [.ref q0] h Q) : wpx d P_Md_table 76 [.ref r0, v1, v2] [.int s1, .ref q0] h Q := by
  exact st_if_eq (pc' := 79) rfl rfl kt kf
theorem B_Md_table_79 {d : Nat} {h : PH} {Q : PQ} {r0 : Nat} {v1 : Value} {v2 : Value} {q0 : Nat}  (k : wpx d P_Md_table 87 [.ref r0, v1, v2] [.int (-1), .ref q0] h Q) : wpx d P_Md_table 79 [.ref r0, v1, v2] [.ref q0] h Q := by
  refine st_ipush (pc' := 80) (v := (-1)) rfl rfl (by decide) ?_
  exact st_goto rfl k
theorem B_Md_table_83 {d : Nat} {h : PH} {Q : PQ} {r0 : Nat} {v1 : Value} {v2 : Value} {q0 : Nat} (hs0 : h_sh h r0 = some (0, 12)) (k : wpx d P_Md_table 87 [.ref r0, v1, v2] [.int (h_i h r0 20), .ref q0] h Q) : wpx d P_Md_table 83 [.ref r0, v1, v2] [.ref q0] h Q := by
  refine st_aload (pc' := 84) rfl rfl rfl ?_
  refine st_getfi (Or.inl rfl) rfl hs0 rfl (pc' := 87) rfl ?_
  exact k
theorem B_Md_table_87 {d : Nat} {h : PH} {Q : PQ} {r0 : Nat} {v1 : Value} {v2 : Value} {q0 : Nat} {s1 : Int32} (hs0 : h_sh h q0 = some (0, 12)) (hs1 : h_sh h r0 = some (0, 12)) (k : wpm d 183 [.ref r0] (w_i h q0 18 s1) (fun r h' => wpx d P_Md_table 94 [.ref r0, v1, v2] (r.toList ++ []) h' Q)) : wpx d P_Md_table 87 [.ref r0, v1, v2] [.int s1, .ref q0] h Q := by
  refine st_putf (h' := w_i h q0 18 s1) (Or.inl rfl) rfl hs0 rfl rfl rfl (pc' := 90) rfl ?_
  refine st_aload (pc' := 91) rfl rfl rfl ?_
  exact st_call (pc' := 94) (as := [.ref r0]) (rest := []) rfl rfl (Nat.le_of_ble_eq_true rfl) rfl rfl (Nat.le_of_ble_eq_true rfl) (kd := 1) (o := 12) rfl rfl (beq_iff_eq.mpr hs1) k
theorem B_Md_table_94 {d : Nat} {h : PH} {Q : PQ} {r0 : Nat} {v1 : Value} {v2 : Value} {s0 : Int32}  (kt : ¬ (s0 = 0) → wpx d P_Md_table 99 [.ref r0, v1, v2] [] h Q) (kf : s0 = 0 → wpx d P_Md_table 97 [.ref r0, v1, v2] [] h Q) : wpx d P_Md_table 94 [.ref r0, v1, v2] [.int s0] h Q := by
  exact st_if_ne (pc' := 97) rfl rfl kt kf
theorem B_Md_table_97 {d : Nat} {h : PH} {Q : PQ} {r0 : Nat} {v1 : Value} {v2 : Value}  (k : Q (some (.int (-1))) h) : wpx d P_Md_table 97 [.ref r0, v1, v2] [] h Q := by
  refine st_ipush (pc' := 98) (v := (-1)) rfl rfl (by decide) ?_
  exact st_ireturn (ty := .int) rfl rfl rfl k
theorem B_Md_table_99 {d : Nat} {h : PH} {Q : PQ} {r0 : Nat} {v1 : Value} {v2 : Value} (hs0 : h_sh h r0 = some (0, 12)) (k : wpx d P_Md_table 129 [.ref r0, .int 0, v2] [] (w_i (w_i (w_i h r0 4 (h_i h r0 22)) r0 5 (h_i (w_i h r0 4 (h_i h r0 22)) r0 21)) r0 6 (((1 : Int32) <<< ((h_i (w_i (w_i h r0 4 (h_i h r0 22)) r0 5 (h_i (w_i h r0 4 (h_i h r0 22)) r0 21)) r0 4) &&& 31)) - (1 : Int32))) Q) : wpx d P_Md_table 99 [.ref r0, v1, v2] [] h Q := by
  refine st_aload (pc' := 100) rfl rfl rfl ?_
  refine st_aload (pc' := 101) rfl rfl rfl ?_
  refine st_getfi (Or.inl rfl) rfl hs0 rfl (pc' := 104) rfl ?_
  refine st_putf (h' := w_i h r0 4 (h_i h r0 22)) (Or.inl rfl) rfl hs0 rfl rfl rfl (pc' := 107) rfl ?_
  refine st_aload (pc' := 108) rfl rfl rfl ?_
  refine st_aload (pc' := 109) rfl rfl rfl ?_
  refine st_getfi (Or.inl rfl) rfl hs0 rfl (pc' := 112) rfl ?_
  refine st_putf (h' := w_i (w_i h r0 4 (h_i h r0 22)) r0 5 (h_i (w_i h r0 4 (h_i h r0 22)) r0 21)) (Or.inl rfl) rfl hs0 rfl rfl rfl (pc' := 115) rfl ?_
  refine st_aload (pc' := 116) rfl rfl rfl ?_
  refine st_ipush (pc' := 117) (v := 1) rfl rfl (by decide) ?_
  refine st_aload (pc' := 118) rfl rfl rfl ?_
  refine st_getfi (Or.inl rfl) rfl hs0 rfl (pc' := 121) rfl ?_
  refine st_ishl (pc' := 122) rfl rfl ?_
  refine st_ipush (pc' := 123) (v := 1) rfl rfl (by decide) ?_
  refine st_isub (pc' := 124) rfl rfl ?_
  refine st_putf (h' := w_i (w_i (w_i h r0 4 (h_i h r0 22)) r0 5 (h_i (w_i h r0 4 (h_i h r0 22)) r0 21)) r0 6 (((1 : Int32) <<< ((h_i (w_i (w_i h r0 4 (h_i h r0 22)) r0 5 (h_i (w_i h r0 4 (h_i h r0 22)) r0 21)) r0 4) &&& 31)) - (1 : Int32))) (Or.inl rfl) rfl hs0 rfl rfl rfl (pc' := 127) rfl ?_
  refine st_ipush (pc' := 128) (v := 0) rfl rfl (by decide) ?_
  refine st_istore (pc' := 129) (ls' := [.ref r0, .int 0, v2]) rfl rfl (Nat.le_of_ble_eq_true rfl) rfl ?_
  exact k
theorem B_Md_table_129 {d : Nat} {h : PH} {Q : PQ} {r0 : Nat} {x1 : Int32} {v2 : Value} (hs0 : h_sh h r0 = some (0, 12)) (kt : (h_i h r0 4) ≤ x1 → wpx d P_Md_table 207 [.ref r0, .int x1, v2] [] h Q) (kf : ¬ ((h_i h r0 4) ≤ x1) → wpx d P_Md_table 137 [.ref r0, .int x1, v2] [] h Q) : wpx d P_Md_table 129 [.ref r0, .int x1, v2] [] h Q := by
  refine st_iload (pc' := 130) rfl rfl rfl ?_
  refine st_aload (pc' := 131) rfl rfl rfl ?_
  refine st_getfi (Or.inl rfl) rfl hs0 rfl (pc' := 134) rfl ?_
  exact st_icmp_ge (pc' := 137) rfl rfl kt kf
theorem B_Md_table_137 {d : Nat} {h : PH} {Q : PQ} {r0 : Nat} {x1 : Int32} {v2 : Value} {a0 : Nat} {a1 : Nat} {n2 : Nat} {n3 : Nat} {a4 : Nat} {a5 : Nat} {n6 : Nat} {n7 : Nat} (hs0 : h_sh h r0 = some (0, 12)) (hr1 : h_r h r0 2 = some a0) (hr2 : h_r h r0 10 = some a1) (hs3 : h_sh h a1 = some (1, n2)) (hb4 : vp_in x1 n2) (hs5 : h_sh h a0 = some (1, n3)) (hb6 : vp_in x1 n3) (hr7 : h_r h r0 3 = some a4) (hr8 : h_r h r0 11 = some a5) (hs9 : h_sh h a5 = some (1, n6)) (hb10 : vp_in x1 n6) (hs11 : h_sh h a4 = some (1, n7)) (hb12 : vp_in x1 n7) (k : wpx d P_Md_table 163 [.ref r0, .int x1, .int 0] [] (w_i (w_i h a0 x1.toNatClampNeg (h_i h a1 x1.toNatClampNeg)) a4 x1.toNatClampNeg (h_i (w_i h a0 x1.toNatClampNeg (h_i h a1 x1.toNatClampNeg)) a5 x1.toNatClampNeg)) Q) : wpx d P_Md_table 137 [.ref r0, .int x1, v2] [] h Q := by
  refine st_aload (pc' := 138) rfl rfl rfl ?_
  refine st_getfr (x := some a0) (Or.inl rfl) rfl hs0 rfl hr1 (pc' := 141) rfl ?_
  refine st_iload (pc' := 142) rfl rfl rfl ?_
  refine st_aload (pc' := 143) rfl rfl rfl ?_
  refine st_getfr (x := some a1) (Or.inl rfl) rfl hs0 rfl hr2 (pc' := 146) rfl ?_
  refine st_iload (pc' := 147) rfl rfl rfl ?_
  refine st_iaload rfl hs3 hb4 (j := x1.toNatClampNeg) rfl (pc' := 148) rfl ?_
  refine st_iastore rfl hs5 hb6 (j := x1.toNatClampNeg) rfl (pc' := 149) rfl ?_
  refine st_aload (pc' := 150) rfl rfl rfl ?_
  refine st_getfr (x := some a4) (Or.inl rfl) rfl hs0 rfl hr7 (pc' := 153) rfl ?_
  refine st_iload (pc' := 154) rfl rfl rfl ?_
  refine st_aload (pc' := 155) rfl rfl rfl ?_
  refine st_getfr (x := some a5) (Or.inl rfl) rfl hs0 rfl hr8 (pc' := 158) rfl ?_
  refine st_iload (pc' := 159) rfl rfl rfl ?_
  refine st_iaload rfl hs9 hb10 (j := x1.toNatClampNeg) rfl (pc' := 160) rfl ?_
  refine st_iastore rfl hs11 hb12 (j := x1.toNatClampNeg) rfl (pc' := 161) rfl ?_
  refine st_ipush (pc' := 162) (v := 0) rfl rfl (by decide) ?_
  refine st_istore (pc' := 163) (ls' := [.ref r0, .int x1, .int 0]) rfl rfl (Nat.le_of_ble_eq_true rfl) rfl ?_
  exact k
theorem B_Md_table_163 {d : Nat} {h : PH} {Q : PQ} {r0 : Nat} {x1 : Int32} {x2 : Int32} {a0 : Nat} {n1 : Nat} (hs0 : h_sh h r0 = some (0, 12)) (hr1 : h_r h r0 2 = some a0) (hs2 : h_sh h a0 = some (1, n1)) (hb3 : vp_in x1 n1) (kt : (h_i h a0 x1.toNatClampNeg) ≤ x2 → wpx d P_Md_table 201 [.ref r0, .int x1, .int x2] [] h Q) (kf : ¬ ((h_i h a0 x1.toNatClampNeg) ≤ x2) → wpx d P_Md_table 173 [.ref r0, .int x1, .int x2] [] h Q) : wpx d P_Md_table 163 [.ref r0, .int x1, .int x2] [] h Q := by
  refine st_iload (pc' := 164) rfl rfl rfl ?_
  refine st_aload (pc' := 165) rfl rfl rfl ?_
  refine st_getfr (x := some a0) (Or.inl rfl) rfl hs0 rfl hr1 (pc' := 168) rfl ?_
  refine st_iload (pc' := 169) rfl rfl rfl ?_
  refine st_iaload rfl hs2 hb3 (j := x1.toNatClampNeg) rfl (pc' := 170) rfl ?_
  exact st_icmp_ge (pc' := 173) rfl rfl kt kf
theorem B_Md_table_173 {d : Nat} {h : PH} {Q : PQ} {r0 : Nat} {x1 : Int32} {x2 : Int32} {a0 : Nat} {a1 : Nat} {n2 : Nat} {n3 : Nat} (hs0 : h_sh h r0 = some (0, 12)) (hr1 : h_r h r0 1 = some a0) (hr2 : h_r h r0 9 = some a1) (hs3 : h_sh h a1 = some (1, n2)) (hb4 : vp_in (((8 : Int32) * x1) + x2) n2) (hs5 : h_sh h a0 = some (1, n3)) (hb6 : vp_in (((8 : Int32) * x1) + x2) n3) (k : wpx d P_Md_table 163 [.ref r0, .int x1, .int (x2 + 1)] [] (w_i h a0 ((((8 : Int32) * x1) + x2).toNatClampNeg) (h_i h a1 (((8 : Int32) * x1) + x2).toNatClampNeg)) Q) : wpx d P_Md_table 173 [.ref r0, .int x1, .int x2] [] h Q := by
  refine st_aload (pc' := 174) rfl rfl rfl ?_
  refine st_getfr (x := some a0) (Or.inl rfl) rfl hs0 rfl hr1 (pc' := 177) rfl ?_
  refine st_ipush (pc' := 179) (v := 8) rfl rfl (by decide) ?_
  refine st_iload (pc' := 180) rfl rfl rfl ?_
  refine st_imul (pc' := 181) rfl rfl ?_
  refine st_iload (pc' := 182) rfl rfl rfl ?_
  refine st_iadd (pc' := 183) rfl rfl ?_
  refine st_aload (pc' := 184) rfl rfl rfl ?_
  refine st_getfr (x := some a1) (Or.inl rfl) rfl hs0 rfl hr2 (pc' := 187) rfl ?_
  refine st_ipush (pc' := 189) (v := 8) rfl rfl (by decide) ?_
  refine st_iload (pc' := 190) rfl rfl rfl ?_
  refine st_imul (pc' := 191) rfl rfl ?_
  refine st_iload (pc' := 192) rfl rfl rfl ?_
  refine st_iadd (pc' := 193) rfl rfl ?_
  refine st_iaload rfl hs3 hb4 (j := (((8 : Int32) * x1) + x2).toNatClampNeg) rfl (pc' := 194) rfl ?_
  refine st_iastore rfl hs5 hb6 (j := (((8 : Int32) * x1) + x2).toNatClampNeg) rfl (pc' := 195) rfl ?_
  refine st_iinc (pc' := 198) (v := 1) (ls' := [.ref r0, .int x1, .int (x2 + 1)]) rfl rfl rfl (by decide) rfl ?_
  exact st_goto rfl k
theorem B_Md_table_201 {d : Nat} {h : PH} {Q : PQ} {r0 : Nat} {x1 : Int32} {x2 : Int32}  (k : wpx d P_Md_table 129 [.ref r0, .int (x1 + 1), .int x2] [] h Q) : wpx d P_Md_table 201 [.ref r0, .int x1, .int x2] [] h Q := by
  refine st_iinc (pc' := 204) (v := 1) (ls' := [.ref r0, .int (x1 + 1), .int x2]) rfl rfl rfl (by decide) rfl ?_
  exact st_goto rfl k
theorem B_Md_table_207 {d : Nat} {h : PH} {Q : PQ} {r0 : Nat} {x1 : Int32} {v2 : Value} (hs0 : h_sh h r0 = some (0, 12)) (k : wpm d 197 [.ref r0] (w_i (w_i h r0 24 0) r0 76 0) (fun r h' => wpx d P_Md_table 221 [.ref r0, .int x1, v2] (r.toList ++ []) h' Q)) : wpx d P_Md_table 207 [.ref r0, .int x1, v2] [] h Q := by
  refine st_aload (pc' := 208) rfl rfl rfl ?_
  refine st_ipush (pc' := 209) (v := 0) rfl rfl (by decide) ?_
  refine st_putf (h' := w_i h r0 24 0) (Or.inl rfl) rfl hs0 rfl rfl rfl (pc' := 212) rfl ?_
  refine st_aload (pc' := 213) rfl rfl rfl ?_
  refine st_ipush (pc' := 214) (v := 0) rfl rfl (by decide) ?_
  refine st_putf (h' := w_i (w_i h r0 24 0) r0 76 0) (Or.inl rfl) rfl hs0 rfl rfl rfl (pc' := 217) rfl ?_
  refine st_aload (pc' := 218) rfl rfl rfl ?_
  exact st_call (pc' := 221) (as := [.ref r0]) (rest := []) rfl rfl (Nat.le_of_ble_eq_true rfl) rfl rfl (Nat.le_of_ble_eq_true rfl) (kd := 1) (o := 12) rfl rfl (beq_iff_eq.mpr hs0) k
theorem B_Md_table_221 {d : Nat} {h : PH} {Q : PQ} {r0 : Nat} {x1 : Int32} {v2 : Value} (hs0 : h_sh h r0 = some (0, 12)) (k : Q (some (.int (h_i h r0 4))) h) : wpx d P_Md_table 221 [.ref r0, .int x1, v2] [] h Q := by
  refine st_aload (pc' := 222) rfl rfl rfl ?_
  refine st_getfi (Or.inl rfl) rfl hs0 rfl (pc' := 225) rfl ?_
  exact st_ireturn (ty := .int) rfl rfl rfl k
theorem B_Md_fault_0 {d : Nat} {h : PH} {Q : PQ} {r0 : Nat} {x1 : Int32} (hs0 : h_sh h r0 = some (0, 12)) (kt : ¬ (x1 = 0) → wpx d P_Md_fault 16 [.ref r0, .int x1] [] (w_i h r0 0 0) Q) (kf : x1 = 0 → wpx d P_Md_fault 9 [.ref r0, .int x1] [] (w_i h r0 0 0) Q) : wpx d P_Md_fault 0 [.ref r0, .int x1] [] h Q := by
  refine st_aload (pc' := 1) rfl rfl rfl ?_
  refine st_ipush (pc' := 2) (v := 0) rfl rfl (by decide) ?_
  refine st_putf (h' := w_i h r0 0 0) (Or.inl rfl) rfl hs0 rfl rfl rfl (pc' := 5) rfl ?_
  refine st_iload (pc' := 6) rfl rfl rfl ?_
  exact st_if_ne (pc' := 9) rfl rfl kt kf
theorem B_Md_fault_9 {d : Nat} {h : PH} {Q : PQ} {r0 : Nat} {x1 : Int32} (hs0 : h_sh h r0 = some (0, 12)) (k : wpx d P_Md_fault 29 [.ref r0, .int x1] [.int (h_i h r0 17)] h Q) : wpx d P_Md_fault 9 [.ref r0, .int x1] [] h Q := by
  refine st_aload (pc' := 10) rfl rfl rfl ?_
  refine st_getfi (Or.inl rfl) rfl hs0 rfl (pc' := 13) rfl ?_
  exact st_goto rfl k
theorem B_Md_fault_16 {d : Nat} {h : PH} {Q : PQ} {r0 : Nat} {x1 : Int32}  (kt : ¬ (x1 = (1 : Int32)) → wpx d P_Md_fault 28 [.ref r0, .int x1] [] h Q) (kf : x1 = (1 : Int32) → wpx d P_Md_fault 21 [.ref r0, .int x1] [] h Q) : wpx d P_Md_fault 16 [.ref r0, .int x1] [] h Q := by
  refine st_iload (pc' := 17) rfl rfl rfl ?_
  refine st_ipush (pc' := 18) (v := 1) rfl rfl (by decide) ?_
  exact st_icmp_ne (pc' := 21) rfl rfl kt kf
theorem B_Md_fault_21 {d : Nat} {h : PH} {Q : PQ} {r0 : Nat} {x1 : Int32} (hs0 : h_sh h r0 = some (0, 12)) (k : wpx d P_Md_fault 29 [.ref r0, .int x1] [.int (h_i h r0 18)] h Q) : wpx d P_Md_fault 21 [.ref r0, .int x1] [] h Q := by
  refine st_aload (pc' := 22) rfl rfl rfl ?_
  refine st_getfi (Or.inl rfl) rfl hs0 rfl (pc' := 25) rfl ?_
  exact st_goto rfl k
theorem B_Md_fault_28 {d : Nat} {h : PH} {Q : PQ} {r0 : Nat} {x1 : Int32}  (k : wpx d P_Md_fault 29 [.ref r0, .int x1] [.int (-1)] h Q) : wpx d P_Md_fault 28 [.ref r0, .int x1] [] h Q := by
  refine st_ipush (pc' := 29) (v := (-1)) rfl rfl (by decide) ?_
  exact k
theorem B_Md_fault_29 {d : Nat} {h : PH} {Q : PQ} {r0 : Nat} {x1 : Int32} {s0 : Int32}  (k : Q (some (.int s0)) h) : wpx d P_Md_fault 29 [.ref r0, .int x1] [.int s0] h Q := by
  exact st_ireturn (ty := .int) rfl rfl rfl k
theorem B_Md_another_0 {d : Nat} {h : PH} {Q : PQ} {r0 : Nat} (hs0 : h_sh h r0 = some (0, 12)) (k : Q none (w_i (w_i (w_i h r0 25 0) r0 26 0) r0 70 0)) : wpx d P_Md_another 0 [.ref r0] [] h Q := by
  refine st_aload (pc' := 1) rfl rfl rfl ?_
  refine st_ipush (pc' := 2) (v := 0) rfl rfl (by decide) ?_
  refine st_putf (h' := w_i h r0 25 0) (Or.inl rfl) rfl hs0 (by decide) (by decide) rfl (pc' := 5) rfl ?_
  refine st_aload (pc' := 6) rfl rfl rfl ?_
  refine st_ipush (pc' := 7) (v := 0) rfl rfl (by decide) ?_
  refine st_putf (h' := w_i (w_i h r0 25 0) r0 26 0) (Or.inl rfl) rfl hs0 (by decide) (by decide) rfl (pc' := 10) rfl ?_
  refine st_aload (pc' := 11) rfl rfl rfl ?_
  refine st_ipush (pc' := 12) (v := 0) rfl rfl (by decide) ?_
  refine st_putf (h' := w_i (w_i (w_i h r0 25 0) r0 26 0) r0 70 0) (Or.inl rfl) rfl hs0 rfl rfl rfl (pc' := 15) rfl ?_
  exact st_return rfl k
theorem B_Md_lettersThere_0 {d : Nat} {h : PH} {Q : PQ} {r0 : Nat} {v1 : Value} {v2 : Value} {v3 : Value}  (k : wpx d P_Md_lettersThere 4 [.ref r0, .int 0, .int 0, v3] [] h Q) : wpx d P_Md_lettersThere 0 [.ref r0, v1, v2, v3] [] h Q := by
  refine st_ipush (pc' := 1) (v := 0) rfl rfl (by decide) ?_
  refine st_istore (pc' := 2) (ls' := [.ref r0, .int 0, v2, v3]) rfl rfl (Nat.le_of_ble_eq_true rfl) rfl ?_
  refine st_ipush (pc' := 3) (v := 0) rfl rfl (by decide) ?_
  refine st_istore (pc' := 4) (ls' := [.ref r0, .int 0, .int 0, v3]) rfl rfl (Nat.le_of_ble_eq_true rfl) rfl ?_
  exact k
theorem B_Md_lettersThere_4 {d : Nat} {h : PH} {Q : PQ} {r0 : Nat} {x1 : Int32} {x2 : Int32} {v3 : Value} (hs0 : h_sh h r0 = some (0, 12)) (kt : (h_i h r0 4) ≤ x2 → wpx d P_Md_lettersThere 61 [.ref r0, .int x1, .int x2, v3] [] h Q) (kf : ¬ ((h_i h r0 4) ≤ x2) → wpx d P_Md_lettersThere 12 [.ref r0, .int x1, .int x2, v3] [] h Q) : wpx d P_Md_lettersThere 4 [.ref r0, .int x1, .int x2, v3] [] h Q := by
  refine st_iload (pc' := 5) rfl rfl rfl ?_
  refine st_aload (pc' := 6) rfl rfl rfl ?_
  refine st_getfi (Or.inl rfl) rfl hs0 rfl (pc' := 9) rfl ?_
  exact st_icmp_ge (pc' := 12) rfl rfl kt kf
theorem B_Md_lettersThere_12 {d : Nat} {h : PH} {Q : PQ} {r0 : Nat} {x1 : Int32} {x2 : Int32} {v3 : Value}  (k : wpx d P_Md_lettersThere 14 [.ref r0, .int x1, .int x2, .int 0] [] h Q) : wpx d P_Md_lettersThere 12 [.ref r0, .int x1, .int x2, v3] [] h Q := by
  refine st_ipush (pc' := 13) (v := 0) rfl rfl (by decide) ?_
  refine st_istore (pc' := 14) (ls' := [.ref r0, .int x1, .int x2, .int 0]) rfl rfl (Nat.le_of_ble_eq_true rfl) rfl ?_
  exact k
theorem B_Md_lettersThere_14 {d : Nat} {h : PH} {Q : PQ} {r0 : Nat} {x1 : Int32} {x2 : Int32} {x3 : Int32} {a0 : Nat} {n1 : Nat} (hs0 : h_sh h r0 = some (0, 12)) (hr1 : h_r h r0 2 = some a0) (hs2 : h_sh h a0 = some (1, n1)) (hb3 : vp_in x2 n1) (kt : (h_i h a0 x2.toNatClampNeg) ≤ x3 → wpx d P_Md_lettersThere 55 [.ref r0, .int x1, .int x2, .int x3] [] h Q) (kf : ¬ ((h_i h a0 x2.toNatClampNeg) ≤ x3) → wpx d P_Md_lettersThere 24 [.ref r0, .int x1, .int x2, .int x3] [] h Q) : wpx d P_Md_lettersThere 14 [.ref r0, .int x1, .int x2, .int x3] [] h Q := by
  refine st_iload (pc' := 15) rfl rfl rfl ?_
  refine st_aload (pc' := 16) rfl rfl rfl ?_
  refine st_getfr (x := some a0) (Or.inl rfl) rfl hs0 rfl hr1 (pc' := 19) rfl ?_
  refine st_iload (pc' := 20) rfl rfl rfl ?_
  refine st_iaload rfl hs2 hb3 (j := x2.toNatClampNeg) rfl (pc' := 21) rfl ?_
  exact st_icmp_ge (pc' := 24) rfl rfl kt kf
theorem B_Md_lettersThere_24 {d : Nat} {h : PH} {Q : PQ} {r0 : Nat} {x1 : Int32} {x2 : Int32} {x3 : Int32} (hs0 : h_sh h r0 = some (0, 12)) (k : wpm d 171 [.int (h_i h r0 6), .int x2] h (fun r h' => wpx d P_Md_lettersThere 32 [.ref r0, .int x1, .int x2, .int x3] (r.toList ++ []) h' Q)) : wpx d P_Md_lettersThere 24 [.ref r0, .int x1, .int x2, .int x3] [] h Q := by
  refine st_aload (pc' := 25) rfl rfl rfl ?_
  refine st_getfi (Or.inl rfl) rfl hs0 rfl (pc' := 28) rfl ?_
  refine st_iload (pc' := 29) rfl rfl rfl ?_
  exact st_call (pc' := 32) (as := [.int (h_i h r0 6), .int x2]) (rest := []) rfl rfl (Nat.le_of_ble_eq_true rfl) rfl rfl (Nat.le_of_ble_eq_true rfl) (kd := 0) (o := 12) rfl rfl rfl k
theorem B_Md_lettersThere_32 {d : Nat} {h : PH} {Q : PQ} {r0 : Nat} {x1 : Int32} {x2 : Int32} {x3 : Int32} {s0 : Int32}  (kt : s0 = 0 → wpx d P_Md_lettersThere 55 [.ref r0, .int x1, .int x2, .int x3] [] h Q) (kf : ¬ (s0 = 0) → wpx d P_Md_lettersThere 35 [.ref r0, .int x1, .int x2, .int x3] [] h Q) : wpx d P_Md_lettersThere 32 [.ref r0, .int x1, .int x2, .int x3] [.int s0] h Q := by
  exact st_if_eq (pc' := 35) rfl rfl kt kf
theorem B_Md_lettersThere_35 {d : Nat} {h : PH} {Q : PQ} {r0 : Nat} {x1 : Int32} {x2 : Int32} {x3 : Int32} (hs0 : h_sh h r0 = some (0, 12)) (k : wpm d 175 [.ref r0, .int x2, .int x3] h (fun r h' => wpx d P_Md_lettersThere 43 [.ref r0, .int x1, .int x2, .int x3] (r.toList ++ [.int 1, .int x1]) h' Q)) : wpx d P_Md_lettersThere 35 [.ref r0, .int x1, .int x2, .int x3] [] h Q := by
  refine st_iload (pc' := 36) rfl rfl rfl ?_
  refine st_ipush (pc' := 37) (v := 1) rfl rfl (by decide) ?_
  refine st_aload (pc' := 38) rfl rfl rfl ?_
  refine st_iload (pc' := 39) rfl rfl rfl ?_
  refine st_iload (pc' := 40) rfl rfl rfl ?_
  exact st_call (pc' := 43) (as := [.ref r0, .int x2, .int x3]) (rest := [.int 1, .int x1]) rfl rfl (Nat.le_of_ble_eq_true rfl) rfl rfl (Nat.le_of_ble_eq_true rfl) (kd := 1) (o := 12) rfl rfl (beq_iff_eq.mpr hs0) k
theorem B_Md_lettersThere_43 {d : Nat} {h : PH} {Q : PQ} {r0 : Nat} {x1 : Int32} {x2 : Int32} {x3 : Int32} {s0 : Int32} {s1 : Int32} {s2 : Int32}  (k : wpx d P_Md_lettersThere 14 [.ref r0, .int (s0 ||| (s1 <<< ((s2 - (97 : Int32)) &&& 31))), .int x2, .int (x3 + 1)] [] h Q) : wpx d P_Md_lettersThere 43 [.ref r0, .int x1, .int x2, .int x3] [.int s2, .int s1, .int s0] h Q := by
  refine st_ipush (pc' := 45) (v := 97) rfl rfl (by decide) ?_
  refine st_isub (pc' := 46) rfl rfl ?_
  refine st_ishl (pc' := 47) rfl rfl ?_
  refine st_ior (pc' := 48) rfl rfl ?_
  refine st_istore (pc' := 49) (ls' := [.ref r0, .int (s0 ||| (s1 <<< ((s2 - (97 : Int32)) &&& 31))), .int x2, .int x3]) rfl rfl (Nat.le_of_ble_eq_true rfl) rfl ?_
  refine st_iinc (pc' := 52) (v := 1) (ls' := [.ref r0, .int (s0 ||| (s1 <<< ((s2 - (97 : Int32)) &&& 31))), .int x2, .int (x3 + 1)]) rfl rfl rfl (by decide) rfl ?_
  exact st_goto rfl k
theorem B_Md_lettersThere_55 {d : Nat} {h : PH} {Q : PQ} {r0 : Nat} {x1 : Int32} {x2 : Int32} {x3 : Int32}  (k : wpx d P_Md_lettersThere 4 [.ref r0, .int x1, .int (x2 + 1), .int x3] [] h Q) : wpx d P_Md_lettersThere 55 [.ref r0, .int x1, .int x2, .int x3] [] h Q := by
  refine st_iinc (pc' := 58) (v := 1) (ls' := [.ref r0, .int x1, .int (x2 + 1), .int x3]) rfl rfl rfl (by decide) rfl ?_
  exact st_goto rfl k
theorem B_Md_lettersThere_61 {d : Nat} {h : PH} {Q : PQ} {r0 : Nat} {x1 : Int32} {x2 : Int32} {v3 : Value}  (k : Q (some (.int x1)) h) : wpx d P_Md_lettersThere 61 [.ref r0, .int x1, .int x2, v3] [] h Q := by
  refine st_iload (pc' := 62) rfl rfl rfl ?_
  exact st_ireturn (ty := .int) rfl rfl rfl k
theorem B_Md_unlike_0 {d : Nat} {h : PH} {Q : PQ} {r0 : Nat} {v1 : Value} {v2 : Value}  (k : wpx d P_Md_unlike 4 [.ref r0, .int 0, .int 0] [] h Q) : wpx d P_Md_unlike 0 [.ref r0, v1, v2] [] h Q := by
  refine st_ipush (pc' := 1) (v := 0) rfl rfl (by decide) ?_
  refine st_istore (pc' := 2) (ls' := [.ref r0, .int 0, v2]) rfl rfl (Nat.le_of_ble_eq_true rfl) rfl ?_
  refine st_ipush (pc' := 3) (v := 0) rfl rfl (by decide) ?_
  refine st_istore (pc' := 4) (ls' := [.ref r0, .int 0, .int 0]) rfl rfl (Nat.le_of_ble_eq_true rfl) rfl ?_
  exact k
theorem B_Md_unlike_4 {d : Nat} {h : PH} {Q : PQ} {r0 : Nat} {x1 : Int32} {x2 : Int32}  (kt : (27 : Int32) ≤ x2 → wpx d P_Md_unlike 27 [.ref r0, .int x1, .int x2] [] h Q) (kf : ¬ ((27 : Int32) ≤ x2) → wpx d P_Md_unlike 10 [.ref r0, .int x1, .int x2] [] h Q) : wpx d P_Md_unlike 4 [.ref r0, .int x1, .int x2] [] h Q := by
  refine st_iload (pc' := 5) rfl rfl rfl ?_
  refine st_ipush (pc' := 7) (v := 27) rfl rfl (by decide) ?_
  exact st_icmp_ge (pc' := 10) rfl rfl kt kf
theorem B_Md_unlike_10 {d : Nat} {h : PH} {Q : PQ} {r0 : Nat} {x1 : Int32} {x2 : Int32} (hs0 : h_sh h r0 = some (0, 12)) (k : wpm d 198 [.ref r0] h (fun r h' => wpx d P_Md_unlike 15 [.ref r0, .int x1, .int x2] (r.toList ++ [.int x1]) h' Q)) : wpx d P_Md_unlike 10 [.ref r0, .int x1, .int x2] [] h Q := by
  refine st_iload (pc' := 11) rfl rfl rfl ?_
  refine st_aload (pc' := 12) rfl rfl rfl ?_
  exact st_call (pc' := 15) (as := [.ref r0]) (rest := [.int x1]) rfl rfl (Nat.le_of_ble_eq_true rfl) rfl rfl (Nat.le_of_ble_eq_true rfl) (kd := 1) (o := 12) rfl rfl (beq_iff_eq.mpr hs0) k
theorem B_Md_unlike_15 {d : Nat} {h : PH} {Q : PQ} {r0 : Nat} {x1 : Int32} {x2 : Int32} {s0 : Int32} {s1 : Int32}  (k : wpx d P_Md_unlike 4 [.ref r0, .int (s0 + ((s1 >>> (x2 &&& 31)) &&& (1 : Int32))), .int (x2 + 1)] [] h Q) : wpx d P_Md_unlike 15 [.ref r0, .int x1, .int x2] [.int s1, .int s0] h Q := by
  refine st_iload (pc' := 16) rfl rfl rfl ?_
  refine st_ishr (pc' := 17) rfl rfl ?_
  refine st_ipush (pc' := 18) (v := 1) rfl rfl (by decide) ?_
  refine st_iand (pc' := 19) rfl rfl ?_
  refine st_iadd (pc' := 20) rfl rfl ?_
  refine st_istore (pc' := 21) (ls' := [.ref r0, .int (s0 + ((s1 >>> (x2 &&& 31)) &&& (1 : Int32))), .int x2]) rfl rfl (Nat.le_of_ble_eq_true rfl) rfl ?_
  refine st_iinc (pc' := 24) (v := 1) (ls' := [.ref r0, .int (s0 + ((s1 >>> (x2 &&& 31)) &&& (1 : Int32))), .int (x2 + 1)]) rfl rfl rfl (by decide) rfl ?_
  exact st_goto rfl k
theorem B_Md_unlike_27 {d : Nat} {h : PH} {Q : PQ} {r0 : Nat} {x1 : Int32} {x2 : Int32}  (kt : (2 : Int32) ≤ x1 → wpx d P_Md_unlike 36 [.ref r0, .int x1, .int x2] [] h Q) (kf : ¬ ((2 : Int32) ≤ x1) → wpx d P_Md_unlike 32 [.ref r0, .int x1, .int x2] [] h Q) : wpx d P_Md_unlike 27 [.ref r0, .int x1, .int x2] [] h Q := by
  refine st_iload (pc' := 28) rfl rfl rfl ?_
  refine st_ipush (pc' := 29) (v := 2) rfl rfl (by decide) ?_
  exact st_icmp_ge (pc' := 32) rfl rfl kt kf
theorem B_Md_unlike_32 {d : Nat} {h : PH} {Q : PQ} {r0 : Nat} {x1 : Int32} {x2 : Int32}  (k : wpx d P_Md_unlike 37 [.ref r0, .int x1, .int x2] [.int 2] h Q) : wpx d P_Md_unlike 32 [.ref r0, .int x1, .int x2] [] h Q := by
  refine st_ipush (pc' := 33) (v := 2) rfl rfl (by decide) ?_
  exact st_goto rfl k
theorem B_Md_unlike_36 {d : Nat} {h : PH} {Q : PQ} {r0 : Nat} {x1 : Int32} {x2 : Int32}  (k : wpx d P_Md_unlike 37 [.ref r0, .int x1, .int x2] [.int x1] h Q) : wpx d P_Md_unlike 36 [.ref r0, .int x1, .int x2] [] h Q := by
  refine st_iload (pc' := 37) rfl rfl rfl ?_
  exact k
theorem B_Md_unlike_37 {d : Nat} {h : PH} {Q : PQ} {r0 : Nat} {x1 : Int32} {x2 : Int32} {s0 : Int32}  (k : Q (some (.int s0)) h) : wpx d P_Md_unlike 37 [.ref r0, .int x1, .int x2] [.int s0] h Q := by
  exact st_ireturn (ty := .int) rfl rfl rfl k
theorem B_Md_begins_0 {d : Nat} {h : PH} {Q : PQ} {r0 : Nat} {x1 : Int32} {x2 : Int32} {a0 : Nat} {n1 : Nat} (hs0 : h_sh h r0 = some (0, 12)) (hr1 : h_r h r0 2 = some a0) (hs2 : h_sh h a0 = some (1, n1)) (hb3 : vp_in x1 n1) (hb4 : vp_in x2 n1) (kt : (h_i h a0 x2.toNatClampNeg) < (h_i h a0 x1.toNatClampNeg) → wpx d P_Md_begins 36 [.ref r0, .int x1, .int x2] [] h Q) (kf : ¬ ((h_i h a0 x2.toNatClampNeg) < (h_i h a0 x1.toNatClampNeg)) → wpx d P_Md_begins 15 [.ref r0, .int x1, .int x2] [] h Q) : wpx d P_Md_begins 0 [.ref r0, .int x1, .int x2] [] h Q := by
  refine st_aload (pc' := 1) rfl rfl rfl ?_
  refine st_getfr (x := some a0) (Or.inl rfl) rfl hs0 rfl hr1 (pc' := 4) rfl ?_
  refine st_iload (pc' := 5) rfl rfl rfl ?_
  refine st_iaload rfl hs2 hb3 (j := x1.toNatClampNeg) rfl (pc' := 6) rfl ?_
  refine st_aload (pc' := 7) rfl rfl rfl ?_
  refine st_getfr (x := some a0) (Or.inl rfl) rfl hs0 rfl hr1 (pc' := 10) rfl ?_
  refine st_iload (pc' := 11) rfl rfl rfl ?_
  refine st_iaload rfl hs2 hb4 (j := x2.toNatClampNeg) rfl (pc' := 12) rfl ?_
  exact st_icmp_gt (pc' := 15) rfl rfl kt kf
theorem B_Md_begins_15 {d : Nat} {h : PH} {Q : PQ} {r0 : Nat} {x1 : Int32} {x2 : Int32} (hs0 : h_sh h r0 = some (0, 12)) (k : wpm d 176 [.ref r0, .int x1, .int 0, .int x2, .int 0] h (fun r h' => wpx d P_Md_begins 23 [.ref r0, .int x1, .int x2] (r.toList ++ []) h' Q)) : wpx d P_Md_begins 15 [.ref r0, .int x1, .int x2] [] h Q := by
  refine st_aload (pc' := 16) rfl rfl rfl ?_
  refine st_iload (pc' := 17) rfl rfl rfl ?_
  refine st_ipush (pc' := 18) (v := 0) rfl rfl (by decide) ?_
  refine st_iload (pc' := 19) rfl rfl rfl ?_
  refine st_ipush (pc' := 20) (v := 0) rfl rfl (by decide) ?_
  exact st_call (pc' := 23) (as := [.ref r0, .int x1, .int 0, .int x2, .int 0]) (rest := []) rfl rfl (Nat.le_of_ble_eq_true rfl) rfl rfl (Nat.le_of_ble_eq_true rfl) (kd := 1) (o := 12) rfl rfl (beq_iff_eq.mpr hs0) k
theorem B_Md_begins_23 {d : Nat} {h : PH} {Q : PQ} {r0 : Nat} {x1 : Int32} {x2 : Int32} {s0 : Int32} {a0 : Nat} {n1 : Nat} (hs0 : h_sh h r0 = some (0, 12)) (hr1 : h_r h r0 2 = some a0) (hs2 : h_sh h a0 = some (1, n1)) (hb3 : vp_in x1 n1) (kt : ¬ (s0 = (h_i h a0 x1.toNatClampNeg)) → wpx d P_Md_begins 36 [.ref r0, .int x1, .int x2] [] h Q) (kf : s0 = (h_i h a0 x1.toNatClampNeg) → wpx d P_Md_begins 32 [.ref r0, .int x1, .int x2] [] h Q) : wpx d P_Md_begins 23 [.ref r0, .int x1, .int x2] [.int s0] h Q := by
  refine st_aload (pc' := 24) rfl rfl rfl ?_
  refine st_getfr (x := some a0) (Or.inl rfl) rfl hs0 rfl hr1 (pc' := 27) rfl ?_
  refine st_iload (pc' := 28) rfl rfl rfl ?_
  refine st_iaload rfl hs2 hb3 (j := x1.toNatClampNeg) rfl (pc' := 29) rfl ?_
  exact st_icmp_ne (pc' := 32) rfl rfl kt kf
theorem B_Md_begins_32 {d : Nat} {h : PH} {Q : PQ} {r0 : Nat} {x1 : Int32} {x2 : Int32}  (k : wpx d P_Md_begins 37 [.ref r0, .int x1, .int x2] [.int 1] h Q) : wpx d P_Md_begins 32 [.ref r0, .int x1, .int x2] [] h Q := by
  refine st_ipush (pc' := 33) (v := 1) rfl rfl (by decide) ?_
  exact st_goto rfl k
theorem B_Md_begins_36 {d : Nat} {h : PH} {Q : PQ} {r0 : Nat} {x1 : Int32} {x2 : Int32}  (k : wpx d P_Md_begins 37 [.ref r0, .int x1, .int x2] [.int 0] h Q) : wpx d P_Md_begins 36 [.ref r0, .int x1, .int x2] [] h Q := by
  refine st_ipush (pc' := 37) (v := 0) rfl rfl (by decide) ?_
  exact k
theorem B_Md_begins_37 {d : Nat} {h : PH} {Q : PQ} {r0 : Nat} {x1 : Int32} {x2 : Int32} {s0 : Int32} (hz0 : narrow .boolean (.int s0) = .int s0) (k : Q (some (.int s0)) h) : wpx d P_Md_begins 37 [.ref r0, .int x1, .int x2] [.int s0] h Q := by
  exact st_ireturn (ty := .boolean) rfl rfl hz0 k
theorem B_Md_ends_0 {d : Nat} {h : PH} {Q : PQ} {r0 : Nat} {x1 : Int32} {x2 : Int32} {a0 : Nat} {n1 : Nat} (hs0 : h_sh h r0 = some (0, 12)) (hr1 : h_r h r0 2 = some a0) (hs2 : h_sh h a0 = some (1, n1)) (hb3 : vp_in x1 n1) (hb4 : vp_in x2 n1) (kt : (h_i h a0 x2.toNatClampNeg) < (h_i h a0 x1.toNatClampNeg) → wpx d P_Md_ends 48 [.ref r0, .int x1, .int x2] [] h Q) (kf : ¬ ((h_i h a0 x2.toNatClampNeg) < (h_i h a0 x1.toNatClampNeg)) → wpx d P_Md_ends 15 [.ref r0, .int x1, .int x2] [] h Q) : wpx d P_Md_ends 0 [.ref r0, .int x1, .int x2] [] h Q := by
  refine st_aload (pc' := 1) rfl rfl rfl ?_
  refine st_getfr (x := some a0) (Or.inl rfl) rfl hs0 rfl hr1 (pc' := 4) rfl ?_
  refine st_iload (pc' := 5) rfl rfl rfl ?_
  refine st_iaload rfl hs2 hb3 (j := x1.toNatClampNeg) rfl (pc' := 6) rfl ?_
  refine st_aload (pc' := 7) rfl rfl rfl ?_
  refine st_getfr (x := some a0) (Or.inl rfl) rfl hs0 rfl hr1 (pc' := 10) rfl ?_
  refine st_iload (pc' := 11) rfl rfl rfl ?_
  refine st_iaload rfl hs2 hb4 (j := x2.toNatClampNeg) rfl (pc' := 12) rfl ?_
  exact st_icmp_gt (pc' := 15) rfl rfl kt kf
theorem B_Md_ends_15 {d : Nat} {h : PH} {Q : PQ} {r0 : Nat} {x1 : Int32} {x2 : Int32} {a0 : Nat} {n1 : Nat} (hs0 : h_sh h r0 = some (0, 12)) (hr1 : h_r h r0 2 = some a0) (hs2 : h_sh h a0 = some (1, n1)) (hb3 : vp_in x2 n1) (hb4 : vp_in x1 n1) (k : wpm d 176 [.ref r0, .int x1, .int 0, .int x2, .int ((h_i h a0 x2.toNatClampNeg) - (h_i h a0 x1.toNatClampNeg))] h (fun r h' => wpx d P_Md_ends 35 [.ref r0, .int x1, .int x2] (r.toList ++ []) h' Q)) : wpx d P_Md_ends 15 [.ref r0, .int x1, .int x2] [] h Q := by
  refine st_aload (pc' := 16) rfl rfl rfl ?_
  refine st_iload (pc' := 17) rfl rfl rfl ?_
  refine st_ipush (pc' := 18) (v := 0) rfl rfl (by decide) ?_
  refine st_iload (pc' := 19) rfl rfl rfl ?_
  refine st_aload (pc' := 20) rfl rfl rfl ?_
  refine st_getfr (x := some a0) (Or.inl rfl) rfl hs0 rfl hr1 (pc' := 23) rfl ?_
  refine st_iload (pc' := 24) rfl rfl rfl ?_
  refine st_iaload rfl hs2 hb3 (j := x2.toNatClampNeg) rfl (pc' := 25) rfl ?_
  refine st_aload (pc' := 26) rfl rfl rfl ?_
  refine st_getfr (x := some a0) (Or.inl rfl) rfl hs0 rfl hr1 (pc' := 29) rfl ?_
  refine st_iload (pc' := 30) rfl rfl rfl ?_
  refine st_iaload rfl hs2 hb4 (j := x1.toNatClampNeg) rfl (pc' := 31) rfl ?_
  refine st_isub (pc' := 32) rfl rfl ?_
  exact st_call (pc' := 35) (as := [.ref r0, .int x1, .int 0, .int x2, .int ((h_i h a0 x2.toNatClampNeg) - (h_i h a0 x1.toNatClampNeg))]) (rest := []) rfl rfl (Nat.le_of_ble_eq_true rfl) rfl rfl (Nat.le_of_ble_eq_true rfl) (kd := 1) (o := 12) rfl rfl (beq_iff_eq.mpr hs0) k
theorem B_Md_ends_35 {d : Nat} {h : PH} {Q : PQ} {r0 : Nat} {x1 : Int32} {x2 : Int32} {s0 : Int32} {a0 : Nat} {n1 : Nat} (hs0 : h_sh h r0 = some (0, 12)) (hr1 : h_r h r0 2 = some a0) (hs2 : h_sh h a0 = some (1, n1)) (hb3 : vp_in x1 n1) (kt : ¬ (s0 = (h_i h a0 x1.toNatClampNeg)) → wpx d P_Md_ends 48 [.ref r0, .int x1, .int x2] [] h Q) (kf : s0 = (h_i h a0 x1.toNatClampNeg) → wpx d P_Md_ends 44 [.ref r0, .int x1, .int x2] [] h Q) : wpx d P_Md_ends 35 [.ref r0, .int x1, .int x2] [.int s0] h Q := by
  refine st_aload (pc' := 36) rfl rfl rfl ?_
  refine st_getfr (x := some a0) (Or.inl rfl) rfl hs0 rfl hr1 (pc' := 39) rfl ?_
  refine st_iload (pc' := 40) rfl rfl rfl ?_
  refine st_iaload rfl hs2 hb3 (j := x1.toNatClampNeg) rfl (pc' := 41) rfl ?_
  exact st_icmp_ne (pc' := 44) rfl rfl kt kf
theorem B_Md_ends_44 {d : Nat} {h : PH} {Q : PQ} {r0 : Nat} {x1 : Int32} {x2 : Int32}  (k : wpx d P_Md_ends 49 [.ref r0, .int x1, .int x2] [.int 1] h Q) : wpx d P_Md_ends 44 [.ref r0, .int x1, .int x2] [] h Q := by
  refine st_ipush (pc' := 45) (v := 1) rfl rfl (by decide) ?_
  exact st_goto rfl k
theorem B_Md_ends_48 {d : Nat} {h : PH} {Q : PQ} {r0 : Nat} {x1 : Int32} {x2 : Int32}  (k : wpx d P_Md_ends 49 [.ref r0, .int x1, .int x2] [.int 0] h Q) : wpx d P_Md_ends 48 [.ref r0, .int x1, .int x2] [] h Q := by
  refine st_ipush (pc' := 49) (v := 0) rfl rfl (by decide) ?_
  exact k
theorem B_Md_ends_49 {d : Nat} {h : PH} {Q : PQ} {r0 : Nat} {x1 : Int32} {x2 : Int32} {s0 : Int32} (hz0 : narrow .boolean (.int s0) = .int s0) (k : Q (some (.int s0)) h) : wpx d P_Md_ends 49 [.ref r0, .int x1, .int x2] [.int s0] h Q := by
  exact st_ireturn (ty := .boolean) rfl rfl hz0 k
theorem B_Md_isFree_0 {d : Nat} {h : PH} {Q : PQ} {r0 : Nat} {x1 : Int32} {v2 : Value} {v3 : Value} {v4 : Value}  (k : wpx d P_Md_isFree 2 [.ref r0, .int x1, .int 0, v3, v4] [] h Q) : wpx d P_Md_isFree 0 [.ref r0, .int x1, v2, v3, v4] [] h Q := by
  refine st_ipush (pc' := 1) (v := 0) rfl rfl (by decide) ?_
  refine st_istore (pc' := 2) (ls' := [.ref r0, .int x1, .int 0, v3, v4]) rfl rfl (Nat.le_of_ble_eq_true rfl) rfl ?_
  exact k
theorem B_Md_isFree_2 {d : Nat} {h : PH} {Q : PQ} {r0 : Nat} {x1 : Int32} {x2 : Int32} {v3 : Value} {v4 : Value} (hs0 : h_sh h r0 = some (0, 12)) (kt : (h_i h r0 4) ≤ x2 → wpx d P_Md_isFree 98 [.ref r0, .int x1, .int x2, v3, v4] [] h Q) (kf : ¬ ((h_i h r0 4) ≤ x2) → wpx d P_Md_isFree 10 [.ref r0, .int x1, .int x2, v3, v4] [] h Q) : wpx d P_Md_isFree 2 [.ref r0, .int x1, .int x2, v3, v4] [] h Q := by
  refine st_iload (pc' := 3) rfl rfl rfl ?_
  refine st_aload (pc' := 4) rfl rfl rfl ?_
  refine st_getfi (Or.inl rfl) rfl hs0 rfl (pc' := 7) rfl ?_
  exact st_icmp_ge (pc' := 10) rfl rfl kt kf
theorem B_Md_isFree_10 {d : Nat} {h : PH} {Q : PQ} {r0 : Nat} {x1 : Int32} {x2 : Int32} {v3 : Value} {v4 : Value}  (k : wpx d P_Md_isFree 12 [.ref r0, .int x1, .int x2, .int 0, v4] [] h Q) : wpx d P_Md_isFree 10 [.ref r0, .int x1, .int x2, v3, v4] [] h Q := by
  refine st_ipush (pc' := 11) (v := 0) rfl rfl (by decide) ?_
  refine st_istore (pc' := 12) (ls' := [.ref r0, .int x1, .int x2, .int 0, v4]) rfl rfl (Nat.le_of_ble_eq_true rfl) rfl ?_
  exact k
theorem B_Md_isFree_12 {d : Nat} {h : PH} {Q : PQ} {r0 : Nat} {x1 : Int32} {x2 : Int32} {x3 : Int32} {v4 : Value} (hs0 : h_sh h r0 = some (0, 12)) (kt : (h_i h r0 4) ≤ x3 → wpx d P_Md_isFree 92 [.ref r0, .int x1, .int x2, .int x3, v4] [] h Q) (kf : ¬ ((h_i h r0 4) ≤ x3) → wpx d P_Md_isFree 20 [.ref r0, .int x1, .int x2, .int x3, v4] [] h Q) : wpx d P_Md_isFree 12 [.ref r0, .int x1, .int x2, .int x3, v4] [] h Q := by
  refine st_iload (pc' := 13) rfl rfl rfl ?_
  refine st_aload (pc' := 14) rfl rfl rfl ?_
  refine st_getfi (Or.inl rfl) rfl hs0 rfl (pc' := 17) rfl ?_
  exact st_icmp_ge (pc' := 20) rfl rfl kt kf
theorem B_Md_isFree_20 {d : Nat} {h : PH} {Q : PQ} {r0 : Nat} {x1 : Int32} {x2 : Int32} {x3 : Int32} {v4 : Value}  (kt : x2 = x3 → wpx d P_Md_isFree 51 [.ref r0, .int x1, .int x2, .int x3, v4] [] h Q) (kf : ¬ (x2 = x3) → wpx d P_Md_isFree 25 [.ref r0, .int x1, .int x2, .int x3, v4] [] h Q) : wpx d P_Md_isFree 20 [.ref r0, .int x1, .int x2, .int x3, v4] [] h Q := by
  refine st_iload (pc' := 21) rfl rfl rfl ?_
  refine st_iload (pc' := 22) rfl rfl rfl ?_
  exact st_icmp_eq (pc' := 25) rfl rfl kt kf
theorem B_Md_isFree_25 {d : Nat} {h : PH} {Q : PQ} {r0 : Nat} {x1 : Int32} {x2 : Int32} {x3 : Int32} {v4 : Value} (hs0 : h_sh h r0 = some (0, 12)) (k : wpm d 171 [.int (h_i h r0 6), .int x2] h (fun r h' => wpx d P_Md_isFree 33 [.ref r0, .int x1, .int x2, .int x3, v4] (r.toList ++ []) h' Q)) : wpx d P_Md_isFree 25 [.ref r0, .int x1, .int x2, .int x3, v4] [] h Q := by
  refine st_aload (pc' := 26) rfl rfl rfl ?_
  refine st_getfi (Or.inl rfl) rfl hs0 rfl (pc' := 29) rfl ?_
  refine st_iload (pc' := 30) rfl rfl rfl ?_
  exact st_call (pc' := 33) (as := [.int (h_i h r0 6), .int x2]) (rest := []) rfl rfl (Nat.le_of_ble_eq_true rfl) rfl rfl (Nat.le_of_ble_eq_true rfl) (kd := 0) (o := 12) rfl rfl rfl k
theorem B_Md_isFree_33 {d : Nat} {h : PH} {Q : PQ} {r0 : Nat} {x1 : Int32} {x2 : Int32} {x3 : Int32} {v4 : Value} {s0 : Int32}  (kt : s0 = 0 → wpx d P_Md_isFree 51 [.ref r0, .int x1, .int x2, .int x3, v4] [] h Q) (kf : ¬ (s0 = 0) → wpx d P_Md_isFree 36 [.ref r0, .int x1, .int x2, .int x3, v4] [] h Q) : wpx d P_Md_isFree 33 [.ref r0, .int x1, .int x2, .int x3, v4] [.int s0] h Q := by
  exact st_if_eq (pc' := 36) rfl rfl kt kf
theorem B_Md_isFree_36 {d : Nat} {h : PH} {Q : PQ} {r0 : Nat} {x1 : Int32} {x2 : Int32} {x3 : Int32} {v4 : Value} (hs0 : h_sh h r0 = some (0, 12)) (k : wpm d 171 [.int (h_i h r0 6), .int x3] h (fun r h' => wpx d P_Md_isFree 44 [.ref r0, .int x1, .int x2, .int x3, v4] (r.toList ++ []) h' Q)) : wpx d P_Md_isFree 36 [.ref r0, .int x1, .int x2, .int x3, v4] [] h Q := by
  refine st_aload (pc' := 37) rfl rfl rfl ?_
  refine st_getfi (Or.inl rfl) rfl hs0 rfl (pc' := 40) rfl ?_
  refine st_iload (pc' := 41) rfl rfl rfl ?_
  exact st_call (pc' := 44) (as := [.int (h_i h r0 6), .int x3]) (rest := []) rfl rfl (Nat.le_of_ble_eq_true rfl) rfl rfl (Nat.le_of_ble_eq_true rfl) (kd := 0) (o := 12) rfl rfl rfl k
theorem B_Md_isFree_44 {d : Nat} {h : PH} {Q : PQ} {r0 : Nat} {x1 : Int32} {x2 : Int32} {x3 : Int32} {v4 : Value} {s0 : Int32}  (kt : s0 = 0 → wpx d P_Md_isFree 51 [.ref r0, .int x1, .int x2, .int x3, v4] [] h Q) (kf : ¬ (s0 = 0) → wpx d P_Md_isFree 47 [.ref r0, .int x1, .int x2, .int x3, v4] [] h Q) : wpx d P_Md_isFree 44 [.ref r0, .int x1, .int x2, .int x3, v4] [.int s0] h Q := by
  exact st_if_eq (pc' := 47) rfl rfl kt kf
theorem B_Md_isFree_47 {d : Nat} {h : PH} {Q : PQ} {r0 : Nat} {x1 : Int32} {x2 : Int32} {x3 : Int32} {v4 : Value}  (k : wpx d P_Md_isFree 52 [.ref r0, .int x1, .int x2, .int x3, v4] [.int 1] h Q) : wpx d P_Md_isFree 47 [.ref r0, .int x1, .int x2, .int x3, v4] [] h Q := by
  refine st_ipush (pc' := 48) (v := 1) rfl rfl (by decide) ?_
  exact st_goto rfl k
theorem B_Md_isFree_51 {d : Nat} {h : PH} {Q : PQ} {r0 : Nat} {x1 : Int32} {x2 : Int32} {x3 : Int32} {v4 : Value}  (k : wpx d P_Md_isFree 52 [.ref r0, .int x1, .int x2, .int x3, v4] [.int 0] h Q) : wpx d P_Md_isFree 51 [.ref r0, .int x1, .int x2, .int x3, v4] [] h Q := by
  refine st_ipush (pc' := 52) (v := 0) rfl rfl (by decide) ?_
  exact k
theorem B_Md_isFree_52 {d : Nat} {h : PH} {Q : PQ} {r0 : Nat} {x1 : Int32} {x2 : Int32} {x3 : Int32} {v4 : Value} {s0 : Int32}  (kt : s0 = 0 → wpx d P_Md_isFree 86 [.ref r0, .int x1, .int x2, .int x3, .int s0] [] h Q) (kf : ¬ (s0 = 0) → wpx d P_Md_isFree 59 [.ref r0, .int x1, .int x2, .int x3, .int s0] [] h Q) : wpx d P_Md_isFree 52 [.ref r0, .int x1, .int x2, .int x3, v4] [.int s0] h Q := by
  refine st_istore (pc' := 54) (ls' := [.ref r0, .int x1, .int x2, .int x3, .int s0]) rfl rfl (Nat.le_of_ble_eq_true rfl) rfl ?_
  refine st_iload (pc' := 56) rfl rfl rfl ?_
  exact st_if_eq (pc' := 59) rfl rfl kt kf
theorem B_Md_isFree_59 {d : Nat} {h : PH} {Q : PQ} {r0 : Nat} {x1 : Int32} {x2 : Int32} {x3 : Int32} {x4 : Int32}  (kt : x1 = 0 → wpx d P_Md_isFree 75 [.ref r0, .int x1, .int x2, .int x3, .int x4] [] h Q) (kf : ¬ (x1 = 0) → wpx d P_Md_isFree 63 [.ref r0, .int x1, .int x2, .int x3, .int x4] [] h Q) : wpx d P_Md_isFree 59 [.ref r0, .int x1, .int x2, .int x3, .int x4] [] h Q := by
  refine st_iload (pc' := 60) rfl rfl rfl ?_
  exact st_if_eq (pc' := 63) rfl rfl kt kf
theorem B_Md_isFree_63 {d : Nat} {h : PH} {Q : PQ} {r0 : Nat} {x1 : Int32} {x2 : Int32} {x3 : Int32} {x4 : Int32} (hs0 : h_sh h r0 = some (0, 12)) (k : wpm d 200 [.ref r0, .int x2, .int x3] h (fun r h' => wpx d P_Md_isFree 69 [.ref r0, .int x1, .int x2, .int x3, .int x4] (r.toList ++ []) h' Q)) : wpx d P_Md_isFree 63 [.ref r0, .int x1, .int x2, .int x3, .int x4] [] h Q := by
  refine st_aload (pc' := 64) rfl rfl rfl ?_
  refine st_iload (pc' := 65) rfl rfl rfl ?_
  refine st_iload (pc' := 66) rfl rfl rfl ?_
  exact st_call (pc' := 69) (as := [.ref r0, .int x2, .int x3]) (rest := []) rfl rfl (Nat.le_of_ble_eq_true rfl) rfl rfl (Nat.le_of_ble_eq_true rfl) (kd := 1) (o := 12) rfl rfl (beq_iff_eq.mpr hs0) k
theorem B_Md_isFree_69 {d : Nat} {h : PH} {Q : PQ} {r0 : Nat} {x1 : Int32} {x2 : Int32} {x3 : Int32} {x4 : Int32} {s0 : Int32}  (kt : s0 = 0 → wpx d P_Md_isFree 86 [.ref r0, .int x1, .int x2, .int x3, .int x4] [] h Q) (kf : ¬ (s0 = 0) → wpx d P_Md_isFree 72 [.ref r0, .int x1, .int x2, .int x3, .int x4] [] h Q) : wpx d P_Md_isFree 69 [.ref r0, .int x1, .int x2, .int x3, .int x4] [.int s0] h Q := by
  exact st_if_eq (pc' := 72) rfl rfl kt kf
theorem B_Md_isFree_72 {d : Nat} {h : PH} {Q : PQ} {r0 : Nat} {x1 : Int32} {x2 : Int32} {x3 : Int32} {x4 : Int32}  (k : wpx d P_Md_isFree 84 [.ref r0, .int x1, .int x2, .int x3, .int x4] [] h Q) : wpx d P_Md_isFree 72 [.ref r0, .int x1, .int x2, .int x3, .int x4] [] h Q := by
  exact st_goto rfl k
theorem B_Md_isFree_75 {d : Nat} {h : PH} {Q : PQ} {r0 : Nat} {x1 : Int32} {x2 : Int32} {x3 : Int32} {x4 : Int32} (hs0 : h_sh h r0 = some (0, 12)) (k : wpm d 201 [.ref r0, .int x2, .int x3] h (fun r h' => wpx d P_Md_isFree 81 [.ref r0, .int x1, .int x2, .int x3, .int x4] (r.toList ++ []) h' Q)) : wpx d P_Md_isFree 75 [.ref r0, .int x1, .int x2, .int x3, .int x4] [] h Q := by
  refine st_aload (pc' := 76) rfl rfl rfl ?_
  refine st_iload (pc' := 77) rfl rfl rfl ?_
  refine st_iload (pc' := 78) rfl rfl rfl ?_
  exact st_call (pc' := 81) (as := [.ref r0, .int x2, .int x3]) (rest := []) rfl rfl (Nat.le_of_ble_eq_true rfl) rfl rfl (Nat.le_of_ble_eq_true rfl) (kd := 1) (o := 12) rfl rfl (beq_iff_eq.mpr hs0) k
theorem B_Md_isFree_81 {d : Nat} {h : PH} {Q : PQ} {r0 : Nat} {x1 : Int32} {x2 : Int32} {x3 : Int32} {x4 : Int32} {s0 : Int32}  (kt : s0 = 0 → wpx d P_Md_isFree 86 [.ref r0, .int x1, .int x2, .int x3, .int x4] [] h Q) (kf : ¬ (s0 = 0) → wpx d P_Md_isFree 84 [.ref r0, .int x1, .int x2, .int x3, .int x4] [] h Q) : wpx d P_Md_isFree 81 [.ref r0, .int x1, .int x2, .int x3, .int x4] [.int s0] h Q := by
  exact st_if_eq (pc' := 84) rfl rfl kt kf
theorem B_Md_isFree_84 {d : Nat} {h : PH} {Q : PQ} {r0 : Nat} {x1 : Int32} {x2 : Int32} {x3 : Int32} {x4 : Int32}  (k : Q (some (.int 0)) h) : wpx d P_Md_isFree 84 [.ref r0, .int x1, .int x2, .int x3, .int x4] [] h Q := by
  refine st_ipush (pc' := 85) (v := 0) rfl rfl (by decide) ?_
  exact st_ireturn (ty := .boolean) rfl rfl (by decide) k
theorem B_Md_isFree_86 {d : Nat} {h : PH} {Q : PQ} {r0 : Nat} {x1 : Int32} {x2 : Int32} {x3 : Int32} {x4 : Int32}  (k : wpx d P_Md_isFree 12 [.ref r0, .int x1, .int x2, .int (x3 + 1), .int x4] [] h Q) : wpx d P_Md_isFree 86 [.ref r0, .int x1, .int x2, .int x3, .int x4] [] h Q := by
  refine st_iinc (pc' := 89) (v := 1) (ls' := [.ref r0, .int x1, .int x2, .int (x3 + 1), .int x4]) rfl rfl rfl (by decide) rfl ?_
  exact st_goto rfl k
theorem B_Md_isFree_92 {d : Nat} {h : PH} {Q : PQ} {r0 : Nat} {x1 : Int32} {x2 : Int32} {x3 : Int32} {v4 : Value}  (k : wpx d P_Md_isFree 2 [.ref r0, .int x1, .int (x2 + 1), .int x3, v4] [] h Q) : wpx d P_Md_isFree 92 [.ref r0, .int x1, .int x2, .int x3, v4] [] h Q := by
  refine st_iinc (pc' := 95) (v := 1) (ls' := [.ref r0, .int x1, .int (x2 + 1), .int x3, v4]) rfl rfl rfl (by decide) rfl ?_
  exact st_goto rfl k
theorem B_Md_isFree_98 {d : Nat} {h : PH} {Q : PQ} {r0 : Nat} {x1 : Int32} {x2 : Int32} {v3 : Value} {v4 : Value}  (k : Q (some (.int 1)) h) : wpx d P_Md_isFree 98 [.ref r0, .int x1, .int x2, v3, v4] [] h Q := by
  refine st_ipush (pc' := 99) (v := 1) rfl rfl (by decide) ?_
  exact st_ireturn (ty := .boolean) rfl rfl (by decide) k
theorem B_Md_group_0 {d : Nat} {h : PH} {Q : PQ} {r0 : Nat} {x1 : Int32} {x2 : Int32} (hs0 : h_sh h r0 = some (0, 12)) (k : wpm d 174 [.ref r0, .int x1] (w_i h r0 0 0) (fun r h' => wpx d P_Md_group 10 [.ref r0, .int x1, .int x2] (r.toList ++ []) h' Q)) : wpx d P_Md_group 0 [.ref r0, .int x1, .int x2] [] h Q := by
  refine st_aload (pc' := 1) rfl rfl rfl ?_
  refine st_ipush (pc' := 2) (v := 0) rfl rfl (by decide) ?_
  refine st_putf (h' := w_i h r0 0 0) (Or.inl rfl) rfl hs0 rfl rfl rfl (pc' := 5) rfl ?_
  refine st_aload (pc' := 6) rfl rfl rfl ?_
  refine st_iload (pc' := 7) rfl rfl rfl ?_
  exact st_call (pc' := 10) (as := [.ref r0, .int x1]) (rest := []) rfl rfl (Nat.le_of_ble_eq_true rfl) rfl rfl (Nat.le_of_ble_eq_true rfl) (kd := 1) (o := 12) rfl rfl (beq_iff_eq.mpr hs0) k
theorem B_Md_group_10 {d : Nat} {h : PH} {Q : PQ} {r0 : Nat} {x1 : Int32} {x2 : Int32} {s0 : Int32}  (kt : ¬ (s0 = 0) → wpx d P_Md_group 15 [.ref r0, .int x1, .int x2] [] h Q) (kf : s0 = 0 → wpx d P_Md_group 13 [.ref r0, .int x1, .int x2] [] h Q) : wpx d P_Md_group 10 [.ref r0, .int x1, .int x2] [.int s0] h Q := by
  exact st_if_ne (pc' := 13) rfl rfl kt kf
theorem B_Md_group_13 {d : Nat} {h : PH} {Q : PQ} {r0 : Nat} {x1 : Int32} {x2 : Int32}  (k : Q (some (.int (-1))) h) : wpx d P_Md_group 13 [.ref r0, .int x1, .int x2] [] h Q := by
  refine st_ipush (pc' := 14) (v := (-1)) rfl rfl (by decide) ?_
  exact st_ireturn (ty := .int) rfl rfl rfl k
theorem B_Md_group_15 {d : Nat} {h : PH} {Q : PQ} {r0 : Nat} {x1 : Int32} {x2 : Int32} {a0 : Nat} {n1 : Nat} (hs0 : h_sh h r0 = some (0, 12)) (hr1 : h_r h r0 2 = some a0) (hs2 : h_sh h a0 = some (1, n1)) (hb3 : vp_in x1 n1) (k : wpm d 170 [.int x2, .int 10, .int ((9 : Int32) + (h_i h a0 x1.toNatClampNeg))] h (fun r h' => wpx d P_Md_group 30 [.ref r0, .int x1, .int x2] (r.toList ++ []) h' Q)) : wpx d P_Md_group 15 [.ref r0, .int x1, .int x2] [] h Q := by
  refine st_iload (pc' := 16) rfl rfl rfl ?_
  refine st_ipush (pc' := 18) (v := 10) rfl rfl (by decide) ?_
  refine st_ipush (pc' := 20) (v := 9) rfl rfl (by decide) ?_
  refine st_aload (pc' := 21) rfl rfl rfl ?_
  refine st_getfr (x := some a0) (Or.inl rfl) rfl hs0 rfl hr1 (pc' := 24) rfl ?_
  refine st_iload (pc' := 25) rfl rfl rfl ?_
  refine st_iaload rfl hs2 hb3 (j := x1.toNatClampNeg) rfl (pc' := 26) rfl ?_
  refine st_iadd (pc' := 27) rfl rfl ?_
  exact st_call (pc' := 30) (as := [.int x2, .int 10, .int ((9 : Int32) + (h_i h a0 x1.toNatClampNeg))]) (rest := []) rfl rfl (Nat.le_of_ble_eq_true rfl) rfl rfl (Nat.le_of_ble_eq_true rfl) (kd := 0) (o := 12) rfl rfl rfl k
theorem B_Md_group_30 {d : Nat} {h : PH} {Q : PQ} {r0 : Nat} {x1 : Int32} {x2 : Int32} {s0 : Int32}  (kt : s0 = 0 → wpx d P_Md_group 43 [.ref r0, .int x1, .int x2] [] h Q) (kf : ¬ (s0 = 0) → wpx d P_Md_group 33 [.ref r0, .int x1, .int x2] [] h Q) : wpx d P_Md_group 30 [.ref r0, .int x1, .int x2] [.int s0] h Q := by
  exact st_if_eq (pc' := 33) rfl rfl kt kf
theorem B_Md_group_33 {d : Nat} {h : PH} {Q : PQ} {r0 : Nat} {x1 : Int32} {x2 : Int32} (hs0 : h_sh h r0 = some (0, 12)) (k : wpm d 175 [.ref r0, .int x1, .int (x2 - (10 : Int32))] h (fun r h' => wpx d P_Md_group 42 [.ref r0, .int x1, .int x2] (r.toList ++ []) h' Q)) : wpx d P_Md_group 33 [.ref r0, .int x1, .int x2] [] h Q := by
  refine st_aload (pc' := 34) rfl rfl rfl ?_
  refine st_iload (pc' := 35) rfl rfl rfl ?_
  refine st_iload (pc' := 36) rfl rfl rfl ?_
  refine st_ipush (pc' := 38) (v := 10) rfl rfl (by decide) ?_
  refine st_isub (pc' := 39) rfl rfl ?_
  exact st_call (pc' := 42) (as := [.ref r0, .int x1, .int (x2 - (10 : Int32))]) (rest := []) rfl rfl (Nat.le_of_ble_eq_true rfl) rfl rfl (Nat.le_of_ble_eq_true rfl) (kd := 1) (o := 12) rfl rfl (beq_iff_eq.mpr hs0) k
theorem B_Md_group_42 {d : Nat} {h : PH} {Q : PQ} {r0 : Nat} {x1 : Int32} {x2 : Int32} {s0 : Int32}  (k : Q (some (.int s0)) h) : wpx d P_Md_group 42 [.ref r0, .int x1, .int x2] [.int s0] h Q := by
  exact st_ireturn (ty := .int) rfl rfl rfl k
theorem B_Md_group_43 {d : Nat} {h : PH} {Q : PQ} {r0 : Nat} {x1 : Int32} {x2 : Int32}  (kt : ¬ (x2 = 0) → wpx d P_Md_group 56 [.ref r0, .int x1, .int x2] [] h Q) (kf : x2 = 0 → wpx d P_Md_group 47 [.ref r0, .int x1, .int x2] [] h Q) : wpx d P_Md_group 43 [.ref r0, .int x1, .int x2] [] h Q := by
  refine st_iload (pc' := 44) rfl rfl rfl ?_
  exact st_if_ne (pc' := 47) rfl rfl kt kf
theorem B_Md_group_47 {d : Nat} {h : PH} {Q : PQ} {r0 : Nat} {x1 : Int32} {x2 : Int32} {a0 : Nat} {n1 : Nat} (hs0 : h_sh h r0 = some (0, 12)) (hr1 : h_r h r0 3 = some a0) (hs2 : h_sh h a0 = some (1, n1)) (hb3 : vp_in x1 n1) (k : wpx d P_Md_group 95 [.ref r0, .int x1, .int x2] [.int (h_i h a0 x1.toNatClampNeg)] h Q) : wpx d P_Md_group 47 [.ref r0, .int x1, .int x2] [] h Q := by
  refine st_aload (pc' := 48) rfl rfl rfl ?_
  refine st_getfr (x := some a0) (Or.inl rfl) rfl hs0 rfl hr1 (pc' := 51) rfl ?_
  refine st_iload (pc' := 52) rfl rfl rfl ?_
  refine st_iaload rfl hs2 hb3 (j := x1.toNatClampNeg) rfl (pc' := 53) rfl ?_
  exact st_goto rfl k
theorem B_Md_group_56 {d : Nat} {h : PH} {Q : PQ} {r0 : Nat} {x1 : Int32} {x2 : Int32}  (kt : ¬ (x2 = (1 : Int32)) → wpx d P_Md_group 70 [.ref r0, .int x1, .int x2] [] h Q) (kf : x2 = (1 : Int32) → wpx d P_Md_group 61 [.ref r0, .int x1, .int x2] [] h Q) : wpx d P_Md_group 56 [.ref r0, .int x1, .int x2] [] h Q := by
  refine st_iload (pc' := 57) rfl rfl rfl ?_
  refine st_ipush (pc' := 58) (v := 1) rfl rfl (by decide) ?_
  exact st_icmp_ne (pc' := 61) rfl rfl kt kf
theorem B_Md_group_61 {d : Nat} {h : PH} {Q : PQ} {r0 : Nat} {x1 : Int32} {x2 : Int32} {a0 : Nat} {n1 : Nat} (hs0 : h_sh h r0 = some (0, 12)) (hr1 : h_r h r0 2 = some a0) (hs2 : h_sh h a0 = some (1, n1)) (hb3 : vp_in x1 n1) (k : wpx d P_Md_group 95 [.ref r0, .int x1, .int x2] [.int (h_i h a0 x1.toNatClampNeg)] h Q) : wpx d P_Md_group 61 [.ref r0, .int x1, .int x2] [] h Q := by
  refine st_aload (pc' := 62) rfl rfl rfl ?_
  refine st_getfr (x := some a0) (Or.inl rfl) rfl hs0 rfl hr1 (pc' := 65) rfl ?_
  refine st_iload (pc' := 66) rfl rfl rfl ?_
  refine st_iaload rfl hs2 hb3 (j := x1.toNatClampNeg) rfl (pc' := 67) rfl ?_
  exact st_goto rfl k
theorem B_Md_group_70 {d : Nat} {h : PH} {Q : PQ} {r0 : Nat} {x1 : Int32} {x2 : Int32}  (kt : ¬ (x2 = (2 : Int32)) → wpx d P_Md_group 94 [.ref r0, .int x1, .int x2] [] h Q) (kf : x2 = (2 : Int32) → wpx d P_Md_group 75 [.ref r0, .int x1, .int x2] [] h Q) : wpx d P_Md_group 70 [.ref r0, .int x1, .int x2] [] h Q := by
  refine st_iload (pc' := 71) rfl rfl rfl ?_
  refine st_ipush (pc' := 72) (v := 2) rfl rfl (by decide) ?_
  exact st_icmp_ne (pc' := 75) rfl rfl kt kf
theorem B_Md_group_75 {d : Nat} {h : PH} {Q : PQ} {r0 : Nat} {x1 : Int32} {x2 : Int32} (hs0 : h_sh h r0 = some (0, 12)) (k : wpm d 171 [.int (h_i h r0 6), .int x1] h (fun r h' => wpx d P_Md_group 83 [.ref r0, .int x1, .int x2] (r.toList ++ []) h' Q)) : wpx d P_Md_group 75 [.ref r0, .int x1, .int x2] [] h Q := by
  refine st_aload (pc' := 76) rfl rfl rfl ?_
  refine st_getfi (Or.inl rfl) rfl hs0 rfl (pc' := 79) rfl ?_
  refine st_iload (pc' := 80) rfl rfl rfl ?_
  exact st_call (pc' := 83) (as := [.int (h_i h r0 6), .int x1]) (rest := []) rfl rfl (Nat.le_of_ble_eq_true rfl) rfl rfl (Nat.le_of_ble_eq_true rfl) (kd := 0) (o := 12) rfl rfl rfl k
theorem B_Md_group_83 {d : Nat} {h : PH} {Q : PQ} {r0 : Nat} {x1 : Int32} {x2 : Int32} {s0 : Int32}  (kt : s0 = 0 → wpx d P_Md_group 90 [.ref r0, .int x1, .int x2] [] h Q) (kf : ¬ (s0 = 0) → wpx d P_Md_group 86 [.ref r0, .int x1, .int x2] [] h Q) : wpx d P_Md_group 83 [.ref r0, .int x1, .int x2] [.int s0] h Q := by
  exact st_if_eq (pc' := 86) rfl rfl kt kf
theorem B_Md_group_86 {d : Nat} {h : PH} {Q : PQ} {r0 : Nat} {x1 : Int32} {x2 : Int32}  (k : wpx d P_Md_group 95 [.ref r0, .int x1, .int x2] [.int 0] h Q) : wpx d P_Md_group 86 [.ref r0, .int x1, .int x2] [] h Q := by
  refine st_ipush (pc' := 87) (v := 0) rfl rfl (by decide) ?_
  exact st_goto rfl k
theorem B_Md_group_90 {d : Nat} {h : PH} {Q : PQ} {r0 : Nat} {x1 : Int32} {x2 : Int32}  (k : wpx d P_Md_group 95 [.ref r0, .int x1, .int x2] [.int 1] h Q) : wpx d P_Md_group 90 [.ref r0, .int x1, .int x2] [] h Q := by
  refine st_ipush (pc' := 91) (v := 1) rfl rfl (by decide) ?_
  exact st_goto rfl k
theorem B_Md_group_94 {d : Nat} {h : PH} {Q : PQ} {r0 : Nat} {x1 : Int32} {x2 : Int32}  (k : wpx d P_Md_group 95 [.ref r0, .int x1, .int x2] [.int (-1)] h Q) : wpx d P_Md_group 94 [.ref r0, .int x1, .int x2] [] h Q := by
  refine st_ipush (pc' := 95) (v := (-1)) rfl rfl (by decide) ?_
  exact k
theorem B_Md_group_95 {d : Nat} {h : PH} {Q : PQ} {r0 : Nat} {x1 : Int32} {x2 : Int32} {s0 : Int32}  (k : Q (some (.int s0)) h) : wpx d P_Md_group 95 [.ref r0, .int x1, .int x2] [.int s0] h Q := by
  exact st_ireturn (ty := .int) rfl rfl rfl k
theorem B_Md_about_0 {d : Nat} {h : PH} {Q : PQ} {r0 : Nat} {x1 : Int32} {lo : Int} {tg : List Nat} {df : Nat} (hs0 : h_sh h r0 = some (0, 12)) (hw : swT[2]? = some (lo, tg, df)) (kd : x1.toInt < lo ∨ lo + (tg.length : Int) ≤ x1.toInt → wpx d P_Md_about df [.ref r0, .int x1] [] (w_i h r0 0 0) Q) (k : ∀ t, ¬ (x1.toInt < lo ∨ lo + (tg.length : Int) ≤ x1.toInt) → tg[(x1.toInt - lo).toNat]? = some t → wpx d P_Md_about t [.ref r0, .int x1] [] (w_i h r0 0 0) Q) : wpx d P_Md_about 0 [.ref r0, .int x1] [] h Q := by
  refine st_aload (pc' := 1) rfl rfl rfl ?_
  refine st_ipush (pc' := 2) (v := 0) rfl rfl (by decide) ?_
  refine st_putf (h' := w_i h r0 0 0) (Or.inl rfl) rfl hs0 rfl rfl rfl (pc' := 5) rfl ?_
  refine st_iload (pc' := 6) rfl rfl rfl ?_
  exact st_switch rfl hw kd k
theorem B_Md_about_56 {d : Nat} {h : PH} {Q : PQ} {r0 : Nat} {x1 : Int32} (hs0 : h_sh h r0 = some (0, 12)) (k : Q (some (.int (h_i h r0 5))) h) : wpx d P_Md_about 56 [.ref r0, .int x1] [] h Q := by
  refine st_aload (pc' := 57) rfl rfl rfl ?_
  refine st_getfi (Or.inl rfl) rfl hs0 rfl (pc' := 60) rfl ?_
  exact st_ireturn (ty := .int) rfl rfl rfl k
theorem B_Md_about_61 {d : Nat} {h : PH} {Q : PQ} {r0 : Nat} {x1 : Int32} (hs0 : h_sh h r0 = some (0, 12)) (k : Q (some (.int (h_i h r0 4))) h) : wpx d P_Md_about 61 [.ref r0, .int x1] [] h Q := by
  refine st_aload (pc' := 62) rfl rfl rfl ?_
  refine st_getfi (Or.inl rfl) rfl hs0 rfl (pc' := 65) rfl ?_
  exact st_ireturn (ty := .int) rfl rfl rfl k
theorem B_Md_about_66 {d : Nat} {h : PH} {Q : PQ} {r0 : Nat} {x1 : Int32} (hs0 : h_sh h r0 = some (0, 12)) (k : Q (some (.int (h_i h r0 6))) h) : wpx d P_Md_about 66 [.ref r0, .int x1] [] h Q := by
  refine st_aload (pc' := 67) rfl rfl rfl ?_
  refine st_getfi (Or.inl rfl) rfl hs0 rfl (pc' := 70) rfl ?_
  exact st_ireturn (ty := .int) rfl rfl rfl k
theorem B_Md_about_71 {d : Nat} {h : PH} {Q : PQ} {r0 : Nat} {x1 : Int32} (hs0 : h_sh h r0 = some (0, 12)) (k : wpm d 199 [.ref r0] h (fun r h' => wpx d P_Md_about 75 [.ref r0, .int x1] (r.toList ++ []) h' Q)) : wpx d P_Md_about 71 [.ref r0, .int x1] [] h Q := by
  refine st_aload (pc' := 72) rfl rfl rfl ?_
  exact st_call (pc' := 75) (as := [.ref r0]) (rest := []) rfl rfl (Nat.le_of_ble_eq_true rfl) rfl rfl (Nat.le_of_ble_eq_true rfl) (kd := 1) (o := 12) rfl rfl (beq_iff_eq.mpr hs0) k
theorem B_Md_about_75 {d : Nat} {h : PH} {Q : PQ} {r0 : Nat} {x1 : Int32} {s0 : Int32}  (k : Q (some (.int s0)) h) : wpx d P_Md_about 75 [.ref r0, .int x1] [.int s0] h Q := by
  exact st_ireturn (ty := .int) rfl rfl rfl k
theorem B_Md_about_76 {d : Nat} {h : PH} {Q : PQ} {r0 : Nat} {x1 : Int32} (hs0 : h_sh h r0 = some (0, 12)) (k : Q (some (.int (h_i h r0 24))) h) : wpx d P_Md_about 76 [.ref r0, .int x1] [] h Q := by
  refine st_aload (pc' := 77) rfl rfl rfl ?_
  refine st_getfi (Or.inl rfl) rfl hs0 rfl (pc' := 80) rfl ?_
  exact st_ireturn (ty := .int) rfl rfl rfl k
theorem B_Md_about_81 {d : Nat} {h : PH} {Q : PQ} {r0 : Nat} {x1 : Int32} (hs0 : h_sh h r0 = some (0, 12)) (k : Q (some (.int (h_i h r0 76))) h) : wpx d P_Md_about 81 [.ref r0, .int x1] [] h Q := by
  refine st_aload (pc' := 82) rfl rfl rfl ?_
  refine st_getfi (Or.inl rfl) rfl hs0 rfl (pc' := 85) rfl ?_
  exact st_ireturn (ty := .int) rfl rfl rfl k
theorem B_Md_about_86 {d : Nat} {h : PH} {Q : PQ} {r0 : Nat} {x1 : Int32} (hs0 : h_sh h r0 = some (0, 12)) (k : Q (some (.int (h_i h r0 12))) h) : wpx d P_Md_about 86 [.ref r0, .int x1] [] h Q := by
  refine st_aload (pc' := 87) rfl rfl rfl ?_
  refine st_getfi (Or.inl rfl) rfl hs0 rfl (pc' := 90) rfl ?_
  exact st_ireturn (ty := .int) rfl rfl rfl k
theorem B_Md_about_91 {d : Nat} {h : PH} {Q : PQ} {r0 : Nat} {x1 : Int32} (hs0 : h_sh h r0 = some (0, 12)) (k : wpm d 202 [.ref r0, .int 1] h (fun r h' => wpx d P_Md_about 96 [.ref r0, .int x1] (r.toList ++ []) h' Q)) : wpx d P_Md_about 91 [.ref r0, .int x1] [] h Q := by
  refine st_aload (pc' := 92) rfl rfl rfl ?_
  refine st_ipush (pc' := 93) (v := 1) rfl rfl (by decide) ?_
  exact st_call (pc' := 96) (as := [.ref r0, .int 1]) (rest := []) rfl rfl (Nat.le_of_ble_eq_true rfl) rfl rfl (Nat.le_of_ble_eq_true rfl) (kd := 1) (o := 12) rfl rfl (beq_iff_eq.mpr hs0) k
theorem B_Md_about_96 {d : Nat} {h : PH} {Q : PQ} {r0 : Nat} {x1 : Int32} {s0 : Int32}  (kt : s0 = 0 → wpx d P_Md_about 103 [.ref r0, .int x1] [] h Q) (kf : ¬ (s0 = 0) → wpx d P_Md_about 99 [.ref r0, .int x1] [] h Q) : wpx d P_Md_about 96 [.ref r0, .int x1] [.int s0] h Q := by
  exact st_if_eq (pc' := 99) rfl rfl kt kf
theorem B_Md_about_99 {d : Nat} {h : PH} {Q : PQ} {r0 : Nat} {x1 : Int32}  (k : wpx d P_Md_about 104 [.ref r0, .int x1] [.int 1] h Q) : wpx d P_Md_about 99 [.ref r0, .int x1] [] h Q := by
  refine st_ipush (pc' := 100) (v := 1) rfl rfl (by decide) ?_
  exact st_goto rfl k
theorem B_Md_about_103 {d : Nat} {h : PH} {Q : PQ} {r0 : Nat} {x1 : Int32}  (k : wpx d P_Md_about 104 [.ref r0, .int x1] [.int 0] h Q) : wpx d P_Md_about 103 [.ref r0, .int x1] [] h Q := by
  refine st_ipush (pc' := 104) (v := 0) rfl rfl (by decide) ?_
  exact k
theorem B_Md_about_104 {d : Nat} {h : PH} {Q : PQ} {r0 : Nat} {x1 : Int32} {s0 : Int32}  (k : Q (some (.int s0)) h) : wpx d P_Md_about 104 [.ref r0, .int x1] [.int s0] h Q := by
  exact st_ireturn (ty := .int) rfl rfl rfl k
theorem B_Md_about_105 {d : Nat} {h : PH} {Q : PQ} {r0 : Nat} {x1 : Int32} (hs0 : h_sh h r0 = some (0, 12)) (k : wpm d 202 [.ref r0, .int 0] h (fun r h' => wpx d P_Md_about 110 [.ref r0, .int x1] (r.toList ++ []) h' Q)) : wpx d P_Md_about 105 [.ref r0, .int x1] [] h Q := by
  refine st_aload (pc' := 106) rfl rfl rfl ?_
  refine st_ipush (pc' := 107) (v := 0) rfl rfl (by decide) ?_
  exact st_call (pc' := 110) (as := [.ref r0, .int 0]) (rest := []) rfl rfl (Nat.le_of_ble_eq_true rfl) rfl rfl (Nat.le_of_ble_eq_true rfl) (kd := 1) (o := 12) rfl rfl (beq_iff_eq.mpr hs0) k
theorem B_Md_about_110 {d : Nat} {h : PH} {Q : PQ} {r0 : Nat} {x1 : Int32} {s0 : Int32}  (kt : s0 = 0 → wpx d P_Md_about 117 [.ref r0, .int x1] [] h Q) (kf : ¬ (s0 = 0) → wpx d P_Md_about 113 [.ref r0, .int x1] [] h Q) : wpx d P_Md_about 110 [.ref r0, .int x1] [.int s0] h Q := by
  exact st_if_eq (pc' := 113) rfl rfl kt kf
theorem B_Md_about_113 {d : Nat} {h : PH} {Q : PQ} {r0 : Nat} {x1 : Int32}  (k : wpx d P_Md_about 118 [.ref r0, .int x1] [.int 1] h Q) : wpx d P_Md_about 113 [.ref r0, .int x1] [] h Q := by
  refine st_ipush (pc' := 114) (v := 1) rfl rfl (by decide) ?_
  exact st_goto rfl k
theorem B_Md_about_117 {d : Nat} {h : PH} {Q : PQ} {r0 : Nat} {x1 : Int32}  (k : wpx d P_Md_about 118 [.ref r0, .int x1] [.int 0] h Q) : wpx d P_Md_about 117 [.ref r0, .int x1] [] h Q := by
  refine st_ipush (pc' := 118) (v := 0) rfl rfl (by decide) ?_
  exact k
theorem B_Md_about_118 {d : Nat} {h : PH} {Q : PQ} {r0 : Nat} {x1 : Int32} {s0 : Int32}  (k : Q (some (.int s0)) h) : wpx d P_Md_about 118 [.ref r0, .int x1] [.int s0] h Q := by
  exact st_ireturn (ty := .int) rfl rfl rfl k
theorem B_Md_about_119 {d : Nat} {h : PH} {Q : PQ} {r0 : Nat} {x1 : Int32}  (k : Q (some (.int (-1))) h) : wpx d P_Md_about 119 [.ref r0, .int x1] [] h Q := by
  refine st_ipush (pc' := 120) (v := (-1)) rfl rfl (by decide) ?_
  exact st_ireturn (ty := .int) rfl rfl rfl k
theorem B_Md_meets_0 {d : Nat} {h : PH} {Q : PQ} {r0 : Nat} {x1 : Int32} {x2 : Int32} {v3 : Value} (hs0 : h_sh h r0 = some (0, 12)) (k : wpm d 174 [.ref r0, .int x1] (w_i h r0 0 0) (fun r h' => wpx d P_Md_meets 10 [.ref r0, .int x1, .int x2, v3] (r.toList ++ []) h' Q)) : wpx d P_Md_meets 0 [.ref r0, .int x1, .int x2, v3] [] h Q := by
  refine st_aload (pc' := 1) rfl rfl rfl ?_
  refine st_ipush (pc' := 2) (v := 0) rfl rfl (by decide) ?_
  refine st_putf (h' := w_i h r0 0 0) (Or.inl rfl) rfl hs0 rfl rfl rfl (pc' := 5) rfl ?_
  refine st_aload (pc' := 6) rfl rfl rfl ?_
  refine st_iload (pc' := 7) rfl rfl rfl ?_
  exact st_call (pc' := 10) (as := [.ref r0, .int x1]) (rest := []) rfl rfl (Nat.le_of_ble_eq_true rfl) rfl rfl (Nat.le_of_ble_eq_true rfl) (kd := 1) (o := 12) rfl rfl (beq_iff_eq.mpr hs0) k
theorem B_Md_meets_10 {d : Nat} {h : PH} {Q : PQ} {r0 : Nat} {x1 : Int32} {x2 : Int32} {v3 : Value} {s0 : Int32}  (kt : s0 = 0 → wpx d P_Md_meets 21 [.ref r0, .int x1, .int x2, v3] [] h Q) (kf : ¬ (s0 = 0) → wpx d P_Md_meets 13 [.ref r0, .int x1, .int x2, v3] [] h Q) : wpx d P_Md_meets 10 [.ref r0, .int x1, .int x2, v3] [.int s0] h Q := by
  exact st_if_eq (pc' := 13) rfl rfl kt kf
theorem B_Md_meets_13 {d : Nat} {h : PH} {Q : PQ} {r0 : Nat} {x1 : Int32} {x2 : Int32} {v3 : Value} (hs0 : h_sh h r0 = some (0, 12)) (k : wpm d 174 [.ref r0, .int x2] h (fun r h' => wpx d P_Md_meets 18 [.ref r0, .int x1, .int x2, v3] (r.toList ++ []) h' Q)) : wpx d P_Md_meets 13 [.ref r0, .int x1, .int x2, v3] [] h Q := by
  refine st_aload (pc' := 14) rfl rfl rfl ?_
  refine st_iload (pc' := 15) rfl rfl rfl ?_
  exact st_call (pc' := 18) (as := [.ref r0, .int x2]) (rest := []) rfl rfl (Nat.le_of_ble_eq_true rfl) rfl rfl (Nat.le_of_ble_eq_true rfl) (kd := 1) (o := 12) rfl rfl (beq_iff_eq.mpr hs0) k
theorem B_Md_meets_18 {d : Nat} {h : PH} {Q : PQ} {r0 : Nat} {x1 : Int32} {x2 : Int32} {v3 : Value} {s0 : Int32}  (kt : ¬ (s0 = 0) → wpx d P_Md_meets 23 [.ref r0, .int x1, .int x2, v3] [] h Q) (kf : s0 = 0 → wpx d P_Md_meets 21 [.ref r0, .int x1, .int x2, v3] [] h Q) : wpx d P_Md_meets 18 [.ref r0, .int x1, .int x2, v3] [.int s0] h Q := by
  exact st_if_ne (pc' := 21) rfl rfl kt kf
theorem B_Md_meets_21 {d : Nat} {h : PH} {Q : PQ} {r0 : Nat} {x1 : Int32} {x2 : Int32} {v3 : Value}  (k : Q (some (.int (-1))) h) : wpx d P_Md_meets 21 [.ref r0, .int x1, .int x2, v3] [] h Q := by
  refine st_ipush (pc' := 22) (v := (-1)) rfl rfl (by decide) ?_
  exact st_ireturn (ty := .int) rfl rfl rfl k
theorem B_Md_meets_23 {d : Nat} {h : PH} {Q : PQ} {r0 : Nat} {x1 : Int32} {x2 : Int32} {v3 : Value} {a0 : Nat} {n1 : Nat} (hs0 : h_sh h r0 = some (0, 12)) (hr1 : h_r h r0 2 = some a0) (hs2 : h_sh h a0 = some (1, n1)) (hb3 : vp_in x1 n1) (hb4 : vp_in x2 n1) (k : wpm d 172 [.int (h_i h a0 x1.toNatClampNeg), .int (h_i h a0 x2.toNatClampNeg)] h (fun r h' => wpx d P_Md_meets 38 [.ref r0, .int x1, .int x2, v3] (r.toList ++ []) h' Q)) : wpx d P_Md_meets 23 [.ref r0, .int x1, .int x2, v3] [] h Q := by
  refine st_aload (pc' := 24) rfl rfl rfl ?_
  refine st_getfr (x := some a0) (Or.inl rfl) rfl hs0 rfl hr1 (pc' := 27) rfl ?_
  refine st_iload (pc' := 28) rfl rfl rfl ?_
  refine st_iaload rfl hs2 hb3 (j := x1.toNatClampNeg) rfl (pc' := 29) rfl ?_
  refine st_aload (pc' := 30) rfl rfl rfl ?_
  refine st_getfr (x := some a0) (Or.inl rfl) rfl hs0 rfl hr1 (pc' := 33) rfl ?_
  refine st_iload (pc' := 34) rfl rfl rfl ?_
  refine st_iaload rfl hs2 hb4 (j := x2.toNatClampNeg) rfl (pc' := 35) rfl ?_
  exact st_call (pc' := 38) (as := [.int (h_i h a0 x1.toNatClampNeg), .int (h_i h a0 x2.toNatClampNeg)]) (rest := []) rfl rfl (Nat.le_of_ble_eq_true rfl) rfl rfl (Nat.le_of_ble_eq_true rfl) (kd := 0) (o := 12) rfl rfl rfl k
theorem B_Md_meets_38 {d : Nat} {h : PH} {Q : PQ} {r0 : Nat} {x1 : Int32} {x2 : Int32} {v3 : Value} {s0 : Int32}  (k : wpx d P_Md_meets 41 [.ref r0, .int x1, .int x2, .int (s0 - (1 : Int32))] [] h Q) : wpx d P_Md_meets 38 [.ref r0, .int x1, .int x2, v3] [.int s0] h Q := by
  refine st_ipush (pc' := 39) (v := 1) rfl rfl (by decide) ?_
  refine st_isub (pc' := 40) rfl rfl ?_
  refine st_istore (pc' := 41) (ls' := [.ref r0, .int x1, .int x2, .int (s0 - (1 : Int32))]) rfl rfl (Nat.le_of_ble_eq_true rfl) rfl ?_
  exact k
theorem B_Md_meets_41 {d : Nat} {h : PH} {Q : PQ} {r0 : Nat} {x1 : Int32} {x2 : Int32} {x3 : Int32}  (kt : x3 ≤ 0 → wpx d P_Md_meets 72 [.ref r0, .int x1, .int x2, .int x3] [] h Q) (kf : ¬ (x3 ≤ 0) → wpx d P_Md_meets 45 [.ref r0, .int x1, .int x2, .int x3] [] h Q) : wpx d P_Md_meets 41 [.ref r0, .int x1, .int x2, .int x3] [] h Q := by
  refine st_iload (pc' := 42) rfl rfl rfl ?_
  exact st_if_le (pc' := 45) rfl rfl kt kf
theorem B_Md_meets_45 {d : Nat} {h : PH} {Q : PQ} {r0 : Nat} {x1 : Int32} {x2 : Int32} {x3 : Int32} {a0 : Nat} {n1 : Nat} (hs0 : h_sh h r0 = some (0, 12)) (hr1 : h_r h r0 2 = some a0) (hs2 : h_sh h a0 = some (1, n1)) (hb3 : vp_in x1 n1) (k : wpm d 176 [.ref r0, .int x1, .int ((h_i h a0 x1.toNatClampNeg) - x3), .int x2, .int 0] h (fun r h' => wpx d P_Md_meets 60 [.ref r0, .int x1, .int x2, .int x3] (r.toList ++ []) h' Q)) : wpx d P_Md_meets 45 [.ref r0, .int x1, .int x2, .int x3] [] h Q := by
  refine st_aload (pc' := 46) rfl rfl rfl ?_
  refine st_iload (pc' := 47) rfl rfl rfl ?_
  refine st_aload (pc' := 48) rfl rfl rfl ?_
  refine st_getfr (x := some a0) (Or.inl rfl) rfl hs0 rfl hr1 (pc' := 51) rfl ?_
  refine st_iload (pc' := 52) rfl rfl rfl ?_
  refine st_iaload rfl hs2 hb3 (j := x1.toNatClampNeg) rfl (pc' := 53) rfl ?_
  refine st_iload (pc' := 54) rfl rfl rfl ?_
  refine st_isub (pc' := 55) rfl rfl ?_
  refine st_iload (pc' := 56) rfl rfl rfl ?_
  refine st_ipush (pc' := 57) (v := 0) rfl rfl (by decide) ?_
  exact st_call (pc' := 60) (as := [.ref r0, .int x1, .int ((h_i h a0 x1.toNatClampNeg) - x3), .int x2, .int 0]) (rest := []) rfl rfl (Nat.le_of_ble_eq_true rfl) rfl rfl (Nat.le_of_ble_eq_true rfl) (kd := 1) (o := 12) rfl rfl (beq_iff_eq.mpr hs0) k
theorem B_Md_meets_60 {d : Nat} {h : PH} {Q : PQ} {r0 : Nat} {x1 : Int32} {x2 : Int32} {x3 : Int32} {s0 : Int32}  (kt : s0 < x3 → wpx d P_Md_meets 66 [.ref r0, .int x1, .int x2, .int x3] [] h Q) (kf : ¬ (s0 < x3) → wpx d P_Md_meets 64 [.ref r0, .int x1, .int x2, .int x3] [] h Q) : wpx d P_Md_meets 60 [.ref r0, .int x1, .int x2, .int x3] [.int s0] h Q := by
  refine st_iload (pc' := 61) rfl rfl rfl ?_
  exact st_icmp_lt (pc' := 64) rfl rfl kt kf
theorem B_Md_meets_64 {d : Nat} {h : PH} {Q : PQ} {r0 : Nat} {x1 : Int32} {x2 : Int32} {x3 : Int32}  (k : Q (some (.int x3)) h) : wpx d P_Md_meets 64 [.ref r0, .int x1, .int x2, .int x3] [] h Q := by
  refine st_iload (pc' := 65) rfl rfl rfl ?_
  exact st_ireturn (ty := .int) rfl rfl rfl k
theorem B_Md_meets_66 {d : Nat} {h : PH} {Q : PQ} {r0 : Nat} {x1 : Int32} {x2 : Int32} {x3 : Int32}  (k : wpx d P_Md_meets 41 [.ref r0, .int x1, .int x2, .int (x3 + (-1))] [] h Q) : wpx d P_Md_meets 66 [.ref r0, .int x1, .int x2, .int x3] [] h Q := by
  refine st_iinc (pc' := 69) (v := (-1)) (ls' := [.ref r0, .int x1, .int x2, .int (x3 + (-1))]) rfl rfl rfl (by decide) rfl ?_
  exact st_goto rfl k
theorem B_Md_meets_72 {d : Nat} {h : PH} {Q : PQ} {r0 : Nat} {x1 : Int32} {x2 : Int32} {x3 : Int32}  (k : Q (some (.int 0)) h) : wpx d P_Md_meets 72 [.ref r0, .int x1, .int x2, .int x3] [] h Q := by
  refine st_ipush (pc' := 73) (v := 0) rfl rfl (by decide) ?_
  exact st_ireturn (ty := .int) rfl rfl rfl k
theorem B_Md_tailSize_0 {d : Nat} {h : PH} {Q : PQ} {r0 : Nat} {x1 : Int32} {a0 : Nat} {a1 : Nat} {n2 : Nat} {n3 : Nat} {a4 : Nat} {n5 : Nat} (hs0 : h_sh h r0 = some (0, 12)) (hr1 : h_r h r0 2 = some a0) (hr2 : h_r h r0 27 = some a1) (hs3 : h_sh h a1 = some (1, n2)) (hb4 : vp_in x1 n2) (hs5 : h_sh h a0 = some (1, n3)) (hb6 : vp_in (h_i h a1 x1.toNatClampNeg) n3) (hr7 : h_r h r0 28 = some a4) (hs8 : h_sh h a4 = some (1, n5)) (hb9 : vp_in x1 n5) (k : Q (some (.int ((h_i h a0 (h_i h a1 x1.toNatClampNeg).toNatClampNeg) - (h_i h a4 x1.toNatClampNeg)))) h) : wpx d P_Md_tailSize 0 [.ref r0, .int x1] [] h Q := by
  refine st_aload (pc' := 1) rfl rfl rfl ?_
  refine st_getfr (x := some a0) (Or.inl rfl) rfl hs0 rfl hr1 (pc' := 4) rfl ?_
  refine st_aload (pc' := 5) rfl rfl rfl ?_
  refine st_getfr (x := some a1) (Or.inl rfl) rfl hs0 rfl hr2 (pc' := 8) rfl ?_
  refine st_iload (pc' := 9) rfl rfl rfl ?_
  refine st_iaload rfl hs3 hb4 (j := x1.toNatClampNeg) rfl (pc' := 10) rfl ?_
  refine st_iaload rfl hs5 hb6 (j := (h_i h a1 x1.toNatClampNeg).toNatClampNeg) rfl (pc' := 11) rfl ?_
  refine st_aload (pc' := 12) rfl rfl rfl ?_
  refine st_getfr (x := some a4) (Or.inl rfl) rfl hs0 rfl hr7 (pc' := 15) rfl ?_
  refine st_iload (pc' := 16) rfl rfl rfl ?_
  refine st_iaload rfl hs8 hb9 (j := x1.toNatClampNeg) rfl (pc' := 17) rfl ?_
  refine st_isub (pc' := 18) rfl rfl ?_
  exact st_ireturn (ty := .int) rfl rfl rfl k
theorem B_Md_tailLetter_0 {d : Nat} {h : PH} {Q : PQ} {r0 : Nat} {x1 : Int32} {x2 : Int32} {a0 : Nat} {n1 : Nat} {a2 : Nat} {n3 : Nat} (hs0 : h_sh h r0 = some (0, 12)) (hr1 : h_r h r0 27 = some a0) (hs2 : h_sh h a0 = some (1, n1)) (hb3 : vp_in x1 n1) (hr4 : h_r h r0 28 = some a2) (hs5 : h_sh h a2 = some (1, n3)) (hb6 : vp_in x1 n3) (k : wpm d 175 [.ref r0, .int (h_i h a0 x1.toNatClampNeg), .int ((h_i h a2 x1.toNatClampNeg) + x2)] h (fun r h' => wpx d P_Md_tailLetter 18 [.ref r0, .int x1, .int x2] (r.toList ++ []) h' Q)) : wpx d P_Md_tailLetter 0 [.ref r0, .int x1, .int x2] [] h Q := by
  refine st_aload (pc' := 1) rfl rfl rfl ?_
  refine st_aload (pc' := 2) rfl rfl rfl ?_
  refine st_getfr (x := some a0) (Or.inl rfl) rfl hs0 rfl hr1 (pc' := 5) rfl ?_
  refine st_iload (pc' := 6) rfl rfl rfl ?_
  refine st_iaload rfl hs2 hb3 (j := x1.toNatClampNeg) rfl (pc' := 7) rfl ?_
  refine st_aload (pc' := 8) rfl rfl rfl ?_
  refine st_getfr (x := some a2) (Or.inl rfl) rfl hs0 rfl hr4 (pc' := 11) rfl ?_
  refine st_iload (pc' := 12) rfl rfl rfl ?_
  refine st_iaload rfl hs5 hb6 (j := x1.toNatClampNeg) rfl (pc' := 13) rfl ?_
  refine st_iload (pc' := 14) rfl rfl rfl ?_
  refine st_iadd (pc' := 15) rfl rfl ?_
  exact st_call (pc' := 18) (as := [.ref r0, .int (h_i h a0 x1.toNatClampNeg), .int ((h_i h a2 x1.toNatClampNeg) + x2)]) (rest := []) rfl rfl (Nat.le_of_ble_eq_true rfl) rfl rfl (Nat.le_of_ble_eq_true rfl) (kd := 1) (o := 12) rfl rfl (beq_iff_eq.mpr hs0) k
theorem B_Md_tailLetter_18 {d : Nat} {h : PH} {Q : PQ} {r0 : Nat} {x1 : Int32} {x2 : Int32} {s0 : Int32}  (k : Q (some (.int s0)) h) : wpx d P_Md_tailLetter 18 [.ref r0, .int x1, .int x2] [.int s0] h Q := by
  exact st_ireturn (ty := .int) rfl rfl rfl k
theorem B_Md_against_0 {d : Nat} {h : PH} {Q : PQ} {r0 : Nat} {x1 : Int32} {x2 : Int32} {x3 : Int32} {v4 : Value} {v5 : Value} {v6 : Value} {a0 : Nat} {n1 : Nat} {a2 : Nat} {n3 : Nat} (hs0 : h_sh h r0 = some (0, 12)) (hr1 : h_r h r0 27 = some a0) (hs2 : h_sh h a0 = some (1, n1)) (hb3 : vp_in x3 n1) (hr4 : h_r h r0 28 = some a2) (hs5 : h_sh h a2 = some (1, n3)) (hb6 : vp_in x3 n3) (k : wpm d 176 [.ref r0, .int x1, .int x2, .int (h_i h a0 x3.toNatClampNeg), .int (h_i h a2 x3.toNatClampNeg)] h (fun r h' => wpx d P_Md_against 18 [.ref r0, .int x1, .int x2, .int x3, v4, v5, v6] (r.toList ++ []) h' Q)) : wpx d P_Md_against 0 [.ref r0, .int x1, .int x2, .int x3, v4, v5, v6] [] h Q := by
  refine st_aload (pc' := 1) rfl rfl rfl ?_
  refine st_iload (pc' := 2) rfl rfl rfl ?_
  refine st_iload (pc' := 3) rfl rfl rfl ?_
  refine st_aload (pc' := 4) rfl rfl rfl ?_
  refine st_getfr (x := some a0) (Or.inl rfl) rfl hs0 rfl hr1 (pc' := 7) rfl ?_
  refine st_iload (pc' := 8) rfl rfl rfl ?_
  refine st_iaload rfl hs2 hb3 (j := x3.toNatClampNeg) rfl (pc' := 9) rfl ?_
  refine st_aload (pc' := 10) rfl rfl rfl ?_
  refine st_getfr (x := some a2) (Or.inl rfl) rfl hs0 rfl hr4 (pc' := 13) rfl ?_
  refine st_iload (pc' := 14) rfl rfl rfl ?_
  refine st_iaload rfl hs5 hb6 (j := x3.toNatClampNeg) rfl (pc' := 15) rfl ?_
  exact st_call (pc' := 18) (as := [.ref r0, .int x1, .int x2, .int (h_i h a0 x3.toNatClampNeg), .int (h_i h a2 x3.toNatClampNeg)]) (rest := []) rfl rfl (Nat.le_of_ble_eq_true rfl) rfl rfl (Nat.le_of_ble_eq_true rfl) (kd := 1) (o := 12) rfl rfl (beq_iff_eq.mpr hs0) k
theorem B_Md_against_18 {d : Nat} {h : PH} {Q : PQ} {r0 : Nat} {x1 : Int32} {x2 : Int32} {x3 : Int32} {v4 : Value} {v5 : Value} {v6 : Value} {s0 : Int32} {a0 : Nat} {n1 : Nat} (hs0 : h_sh h r0 = some (0, 12)) (hr1 : h_r h r0 2 = some a0) (hs2 : h_sh h a0 = some (1, n1)) (hb3 : vp_in x1 n1) (kt : (h_i h a0 x1.toNatClampNeg) ≤ (x2 + s0) → wpx d P_Md_against 45 [.ref r0, .int x1, .int x2, .int x3, .int s0, v5, v6] [] h Q) (kf : ¬ ((h_i h a0 x1.toNatClampNeg) ≤ (x2 + s0)) → wpx d P_Md_against 33 [.ref r0, .int x1, .int x2, .int x3, .int s0, v5, v6] [] h Q) : wpx d P_Md_against 18 [.ref r0, .int x1, .int x2, .int x3, v4, v5, v6] [.int s0] h Q := by
  refine st_istore (pc' := 20) (ls' := [.ref r0, .int x1, .int x2, .int x3, .int s0, v5, v6]) rfl rfl (Nat.le_of_ble_eq_true rfl) rfl ?_
  refine st_iload (pc' := 21) rfl rfl rfl ?_
  refine st_iload (pc' := 23) rfl rfl rfl ?_
  refine st_iadd (pc' := 24) rfl rfl ?_
  refine st_aload (pc' := 25) rfl rfl rfl ?_
  refine st_getfr (x := some a0) (Or.inl rfl) rfl hs0 rfl hr1 (pc' := 28) rfl ?_
  refine st_iload (pc' := 29) rfl rfl rfl ?_
  refine st_iaload rfl hs2 hb3 (j := x1.toNatClampNeg) rfl (pc' := 30) rfl ?_
  exact st_icmp_ge (pc' := 33) rfl rfl kt kf
theorem B_Md_against_33 {d : Nat} {h : PH} {Q : PQ} {r0 : Nat} {x1 : Int32} {x2 : Int32} {x3 : Int32} {x4 : Int32} {v5 : Value} {v6 : Value} (hs0 : h_sh h r0 = some (0, 12)) (k : wpm d 175 [.ref r0, .int x1, .int (x2 + x4)] h (fun r h' => wpx d P_Md_against 42 [.ref r0, .int x1, .int x2, .int x3, .int x4, v5, v6] (r.toList ++ []) h' Q)) : wpx d P_Md_against 33 [.ref r0, .int x1, .int x2, .int x3, .int x4, v5, v6] [] h Q := by
  refine st_aload (pc' := 34) rfl rfl rfl ?_
  refine st_iload (pc' := 35) rfl rfl rfl ?_
  refine st_iload (pc' := 36) rfl rfl rfl ?_
  refine st_iload (pc' := 38) rfl rfl rfl ?_
  refine st_iadd (pc' := 39) rfl rfl ?_
  exact st_call (pc' := 42) (as := [.ref r0, .int x1, .int (x2 + x4)]) (rest := []) rfl rfl (Nat.le_of_ble_eq_true rfl) rfl rfl (Nat.le_of_ble_eq_true rfl) (kd := 1) (o := 12) rfl rfl (beq_iff_eq.mpr hs0) k
theorem B_Md_against_42 {d : Nat} {h : PH} {Q : PQ} {r0 : Nat} {x1 : Int32} {x2 : Int32} {x3 : Int32} {x4 : Int32} {v5 : Value} {v6 : Value} {s0 : Int32}  (k : wpx d P_Md_against 46 [.ref r0, .int x1, .int x2, .int x3, .int x4, v5, v6] [.int s0] h Q) : wpx d P_Md_against 42 [.ref r0, .int x1, .int x2, .int x3, .int x4, v5, v6] [.int s0] h Q := by
  exact st_goto rfl k
theorem B_Md_against_45 {d : Nat} {h : PH} {Q : PQ} {r0 : Nat} {x1 : Int32} {x2 : Int32} {x3 : Int32} {x4 : Int32} {v5 : Value} {v6 : Value}  (k : wpx d P_Md_against 46 [.ref r0, .int x1, .int x2, .int x3, .int x4, v5, v6] [.int 0] h Q) : wpx d P_Md_against 45 [.ref r0, .int x1, .int x2, .int x3, .int x4, v5, v6] [] h Q := by
  refine st_ipush (pc' := 46) (v := 0) rfl rfl (by decide) ?_
  exact k
theorem B_Md_against_46 {d : Nat} {h : PH} {Q : PQ} {r0 : Nat} {x1 : Int32} {x2 : Int32} {x3 : Int32} {x4 : Int32} {v5 : Value} {v6 : Value} {s0 : Int32} (hs0 : h_sh h r0 = some (0, 12)) (k : wpm d 206 [.ref r0, .int x3] h (fun r h' => wpx d P_Md_against 55 [.ref r0, .int x1, .int x2, .int x3, .int x4, .int s0, v6] (r.toList ++ [.int x4]) h' Q)) : wpx d P_Md_against 46 [.ref r0, .int x1, .int x2, .int x3, .int x4, v5, v6] [.int s0] h Q := by
  refine st_istore (pc' := 48) (ls' := [.ref r0, .int x1, .int x2, .int x3, .int x4, .int s0, v6]) rfl rfl (Nat.le_of_ble_eq_true rfl) rfl ?_
  refine st_iload (pc' := 50) rfl rfl rfl ?_
  refine st_aload (pc' := 51) rfl rfl rfl ?_
  refine st_iload (pc' := 52) rfl rfl rfl ?_
  exact st_call (pc' := 55) (as := [.ref r0, .int x3]) (rest := [.int x4]) rfl rfl (Nat.le_of_ble_eq_true rfl) rfl rfl (Nat.le_of_ble_eq_true rfl) (kd := 1) (o := 12) rfl rfl (beq_iff_eq.mpr hs0) k
theorem B_Md_against_55 {d : Nat} {h : PH} {Q : PQ} {r0 : Nat} {x1 : Int32} {x2 : Int32} {x3 : Int32} {x4 : Int32} {x5 : Int32} {v6 : Value} {s0 : Int32} {s1 : Int32}  (kt : s1 ≤ s0 → wpx d P_Md_against 68 [.ref r0, .int x1, .int x2, .int x3, .int x4, .int x5, v6] [] h Q) (kf : ¬ (s1 ≤ s0) → wpx d P_Md_against 58 [.ref r0, .int x1, .int x2, .int x3, .int x4, .int x5, v6] [] h Q) : wpx d P_Md_against 55 [.ref r0, .int x1, .int x2, .int x3, .int x4, .int x5, v6] [.int s1, .int s0] h Q := by
  exact st_icmp_ge (pc' := 58) rfl rfl kt kf
theorem B_Md_against_58 {d : Nat} {h : PH} {Q : PQ} {r0 : Nat} {x1 : Int32} {x2 : Int32} {x3 : Int32} {x4 : Int32} {x5 : Int32} {v6 : Value} (hs0 : h_sh h r0 = some (0, 12)) (k : wpm d 207 [.ref r0, .int x3, .int x4] h (fun r h' => wpx d P_Md_against 65 [.ref r0, .int x1, .int x2, .int x3, .int x4, .int x5, v6] (r.toList ++ []) h' Q)) : wpx d P_Md_against 58 [.ref r0, .int x1, .int x2, .int x3, .int x4, .int x5, v6] [] h Q := by
  refine st_aload (pc' := 59) rfl rfl rfl ?_
  refine st_iload (pc' := 60) rfl rfl rfl ?_
  refine st_iload (pc' := 62) rfl rfl rfl ?_
  exact st_call (pc' := 65) (as := [.ref r0, .int x3, .int x4]) (rest := []) rfl rfl (Nat.le_of_ble_eq_true rfl) rfl rfl (Nat.le_of_ble_eq_true rfl) (kd := 1) (o := 12) rfl rfl (beq_iff_eq.mpr hs0) k
theorem B_Md_against_65 {d : Nat} {h : PH} {Q : PQ} {r0 : Nat} {x1 : Int32} {x2 : Int32} {x3 : Int32} {x4 : Int32} {x5 : Int32} {v6 : Value} {s0 : Int32}  (k : wpx d P_Md_against 69 [.ref r0, .int x1, .int x2, .int x3, .int x4, .int x5, v6] [.int s0] h Q) : wpx d P_Md_against 65 [.ref r0, .int x1, .int x2, .int x3, .int x4, .int x5, v6] [.int s0] h Q := by
  exact st_goto rfl k
theorem B_Md_against_68 {d : Nat} {h : PH} {Q : PQ} {r0 : Nat} {x1 : Int32} {x2 : Int32} {x3 : Int32} {x4 : Int32} {x5 : Int32} {v6 : Value}  (k : wpx d P_Md_against 69 [.ref r0, .int x1, .int x2, .int x3, .int x4, .int x5, v6] [.int 0] h Q) : wpx d P_Md_against 68 [.ref r0, .int x1, .int x2, .int x3, .int x4, .int x5, v6] [] h Q := by
  refine st_ipush (pc' := 69) (v := 0) rfl rfl (by decide) ?_
  exact k
theorem B_Md_against_69 {d : Nat} {h : PH} {Q : PQ} {r0 : Nat} {x1 : Int32} {x2 : Int32} {x3 : Int32} {x4 : Int32} {x5 : Int32} {v6 : Value} {s0 : Int32}  (k : Q (some (.int (x5 - s0))) h) : wpx d P_Md_against 69 [.ref r0, .int x1, .int x2, .int x3, .int x4, .int x5, v6] [.int s0] h Q := by
  refine st_istore (pc' := 71) (ls' := [.ref r0, .int x1, .int x2, .int x3, .int x4, .int x5, .int s0]) rfl rfl (Nat.le_of_ble_eq_true rfl) rfl ?_
  refine st_iload (pc' := 73) rfl rfl rfl ?_
  refine st_iload (pc' := 75) rfl rfl rfl ?_
  refine st_isub (pc' := 76) rfl rfl ?_
  exact st_ireturn (ty := .int) rfl rfl rfl k
theorem B_Md_layEnds_0 {d : Nat} {h : PH} {Q : PQ} {r0 : Nat} {v1 : Value} {v2 : Value} {v3 : Value} {v4 : Value} (hs0 : h_sh h r0 = some (0, 12)) (k : wpx d P_Md_layEnds 7 [.ref r0, .int 0, v2, v3, v4] [] (w_i h r0 32 0) Q) : wpx d P_Md_layEnds 0 [.ref r0, v1, v2, v3, v4] [] h Q := by
  refine st_aload (pc' := 1) rfl rfl rfl ?_
  refine st_ipush (pc' := 2) (v := 0) rfl rfl (by decide) ?_
  refine st_putf (h' := w_i h r0 32 0) (Or.inl rfl) rfl hs0 rfl rfl rfl (pc' := 5) rfl ?_
  refine st_ipush (pc' := 6) (v := 0) rfl rfl (by decide) ?_
  refine st_istore (pc' := 7) (ls' := [.ref r0, .int 0, v2, v3, v4]) rfl rfl (Nat.le_of_ble_eq_true rfl) rfl ?_
  exact k
theorem B_Md_layEnds_7 {d : Nat} {h : PH} {Q : PQ} {r0 : Nat} {x1 : Int32} {v2 : Value} {v3 : Value} {v4 : Value} (hs0 : h_sh h r0 = some (0, 12)) (kt : (h_i h r0 4) ≤ x1 → wpx d P_Md_layEnds 171 [.ref r0, .int x1, v2, v3, v4] [] h Q) (kf : ¬ ((h_i h r0 4) ≤ x1) → wpx d P_Md_layEnds 15 [.ref r0, .int x1, v2, v3, v4] [] h Q) : wpx d P_Md_layEnds 7 [.ref r0, .int x1, v2, v3, v4] [] h Q := by
  refine st_iload (pc' := 8) rfl rfl rfl ?_
  refine st_aload (pc' := 9) rfl rfl rfl ?_
  refine st_getfi (Or.inl rfl) rfl hs0 rfl (pc' := 12) rfl ?_
  exact st_icmp_ge (pc' := 15) rfl rfl kt kf
theorem B_Md_layEnds_15 {d : Nat} {h : PH} {Q : PQ} {r0 : Nat} {x1 : Int32} {v2 : Value} {v3 : Value} {v4 : Value}  (k : wpx d P_Md_layEnds 17 [.ref r0, .int x1, .int 1, v3, v4] [] h Q) : wpx d P_Md_layEnds 15 [.ref r0, .int x1, v2, v3, v4] [] h Q := by
  refine st_ipush (pc' := 16) (v := 1) rfl rfl (by decide) ?_
  refine st_istore (pc' := 17) (ls' := [.ref r0, .int x1, .int 1, v3, v4]) rfl rfl (Nat.le_of_ble_eq_true rfl) rfl ?_
  exact k
theorem B_Md_layEnds_17 {d : Nat} {h : PH} {Q : PQ} {r0 : Nat} {x1 : Int32} {x2 : Int32} {v3 : Value} {v4 : Value} {a0 : Nat} {n1 : Nat} (hs0 : h_sh h r0 = some (0, 12)) (hr1 : h_r h r0 2 = some a0) (hs2 : h_sh h a0 = some (1, n1)) (hb3 : vp_in x1 n1) (kt : (h_i h a0 x1.toNatClampNeg) ≤ x2 → wpx d P_Md_layEnds 165 [.ref r0, .int x1, .int x2, v3, v4] [] h Q) (kf : ¬ ((h_i h a0 x1.toNatClampNeg) ≤ x2) → wpx d P_Md_layEnds 27 [.ref r0, .int x1, .int x2, v3, v4] [] h Q) : wpx d P_Md_layEnds 17 [.ref r0, .int x1, .int x2, v3, v4] [] h Q := by
  refine st_iload (pc' := 18) rfl rfl rfl ?_
  refine st_aload (pc' := 19) rfl rfl rfl ?_
  refine st_getfr (x := some a0) (Or.inl rfl) rfl hs0 rfl hr1 (pc' := 22) rfl ?_
  refine st_iload (pc' := 23) rfl rfl rfl ?_
  refine st_iaload rfl hs2 hb3 (j := x1.toNatClampNeg) rfl (pc' := 24) rfl ?_
  exact st_icmp_ge (pc' := 27) rfl rfl kt kf
theorem B_Md_layEnds_27 {d : Nat} {h : PH} {Q : PQ} {r0 : Nat} {x1 : Int32} {x2 : Int32} {v3 : Value} {v4 : Value} (hs0 : h_sh h r0 = some (0, 12)) (k : wpm d 171 [.int (h_i h r0 6), .int x1] h (fun r h' => wpx d P_Md_layEnds 35 [.ref r0, .int x1, .int x2, v3, v4] (r.toList ++ []) h' Q)) : wpx d P_Md_layEnds 27 [.ref r0, .int x1, .int x2, v3, v4] [] h Q := by
  refine st_aload (pc' := 28) rfl rfl rfl ?_
  refine st_getfi (Or.inl rfl) rfl hs0 rfl (pc' := 31) rfl ?_
  refine st_iload (pc' := 32) rfl rfl rfl ?_
  exact st_call (pc' := 35) (as := [.int (h_i h r0 6), .int x1]) (rest := []) rfl rfl (Nat.le_of_ble_eq_true rfl) rfl rfl (Nat.le_of_ble_eq_true rfl) (kd := 0) (o := 12) rfl rfl rfl k
theorem B_Md_layEnds_35 {d : Nat} {h : PH} {Q : PQ} {r0 : Nat} {x1 : Int32} {x2 : Int32} {v3 : Value} {v4 : Value} {s0 : Int32}  (kt : s0 = 0 → wpx d P_Md_layEnds 165 [.ref r0, .int x1, .int x2, v3, v4] [] h Q) (kf : ¬ (s0 = 0) → wpx d P_Md_layEnds 38 [.ref r0, .int x1, .int x2, v3, v4] [] h Q) : wpx d P_Md_layEnds 35 [.ref r0, .int x1, .int x2, v3, v4] [.int s0] h Q := by
  exact st_if_eq (pc' := 38) rfl rfl kt kf
theorem B_Md_layEnds_38 {d : Nat} {h : PH} {Q : PQ} {r0 : Nat} {x1 : Int32} {x2 : Int32} {v3 : Value} {v4 : Value}  (k : wpx d P_Md_layEnds 40 [.ref r0, .int x1, .int x2, .int 0, v4] [] h Q) : wpx d P_Md_layEnds 38 [.ref r0, .int x1, .int x2, v3, v4] [] h Q := by
  refine st_ipush (pc' := 39) (v := 0) rfl rfl (by decide) ?_
  refine st_istore (pc' := 40) (ls' := [.ref r0, .int x1, .int x2, .int 0, v4]) rfl rfl (Nat.le_of_ble_eq_true rfl) rfl ?_
  exact k
theorem B_Md_layEnds_40 {d : Nat} {h : PH} {Q : PQ} {r0 : Nat} {x1 : Int32} {x2 : Int32} {x3 : Int32} {v4 : Value} (hs0 : h_sh h r0 = some (0, 12)) (kt : (h_i h r0 32) ≤ x3 → wpx d P_Md_layEnds 64 [.ref r0, .int x1, .int x2, .int x3, v4] [] h Q) (kf : ¬ ((h_i h r0 32) ≤ x3) → wpx d P_Md_layEnds 48 [.ref r0, .int x1, .int x2, .int x3, v4] [] h Q) : wpx d P_Md_layEnds 40 [.ref r0, .int x1, .int x2, .int x3, v4] [] h Q := by
  refine st_iload (pc' := 41) rfl rfl rfl ?_
  refine st_aload (pc' := 42) rfl rfl rfl ?_
  refine st_getfi (Or.inl rfl) rfl hs0 rfl (pc' := 45) rfl ?_
  exact st_icmp_ge (pc' := 48) rfl rfl kt kf
theorem B_Md_layEnds_48 {d : Nat} {h : PH} {Q : PQ} {r0 : Nat} {x1 : Int32} {x2 : Int32} {x3 : Int32} {v4 : Value} (hs0 : h_sh h r0 = some (0, 12)) (k : wpm d 208 [.ref r0, .int x1, .int x2, .int x3] h (fun r h' => wpx d P_Md_layEnds 55 [.ref r0, .int x1, .int x2, .int x3, v4] (r.toList ++ []) h' Q)) : wpx d P_Md_layEnds 48 [.ref r0, .int x1, .int x2, .int x3, v4] [] h Q := by
  refine st_aload (pc' := 49) rfl rfl rfl ?_
  refine st_iload (pc' := 50) rfl rfl rfl ?_
  refine st_iload (pc' := 51) rfl rfl rfl ?_
  refine st_iload (pc' := 52) rfl rfl rfl ?_
  exact st_call (pc' := 55) (as := [.ref r0, .int x1, .int x2, .int x3]) (rest := []) rfl rfl (Nat.le_of_ble_eq_true rfl) rfl rfl (Nat.le_of_ble_eq_true rfl) (kd := 1) (o := 12) rfl rfl (beq_iff_eq.mpr hs0) k
theorem B_Md_layEnds_55 {d : Nat} {h : PH} {Q : PQ} {r0 : Nat} {x1 : Int32} {x2 : Int32} {x3 : Int32} {v4 : Value} {s0 : Int32}  (kt : s0 ≤ 0 → wpx d P_Md_layEnds 64 [.ref r0, .int x1, .int x2, .int x3, v4] [] h Q) (kf : ¬ (s0 ≤ 0) → wpx d P_Md_layEnds 58 [.ref r0, .int x1, .int x2, .int x3, v4] [] h Q) : wpx d P_Md_layEnds 55 [.ref r0, .int x1, .int x2, .int x3, v4] [.int s0] h Q := by
  exact st_if_le (pc' := 58) rfl rfl kt kf
theorem B_Md_layEnds_58 {d : Nat} {h : PH} {Q : PQ} {r0 : Nat} {x1 : Int32} {x2 : Int32} {x3 : Int32} {v4 : Value}  (k : wpx d P_Md_layEnds 40 [.ref r0, .int x1, .int x2, .int (x3 + 1), v4] [] h Q) : wpx d P_Md_layEnds 58 [.ref r0, .int x1, .int x2, .int x3, v4] [] h Q := by
  refine st_iinc (pc' := 61) (v := 1) (ls' := [.ref r0, .int x1, .int x2, .int (x3 + 1), v4]) rfl rfl rfl (by decide) rfl ?_
  exact st_goto rfl k
theorem B_Md_layEnds_64 {d : Nat} {h : PH} {Q : PQ} {r0 : Nat} {x1 : Int32} {x2 : Int32} {x3 : Int32} {v4 : Value} (hs0 : h_sh h r0 = some (0, 12)) (kt : (h_i h r0 32) ≤ x3 → wpx d P_Md_layEnds 85 [.ref r0, .int x1, .int x2, .int x3, v4] [] h Q) (kf : ¬ ((h_i h r0 32) ≤ x3) → wpx d P_Md_layEnds 72 [.ref r0, .int x1, .int x2, .int x3, v4] [] h Q) : wpx d P_Md_layEnds 64 [.ref r0, .int x1, .int x2, .int x3, v4] [] h Q := by
  refine st_iload (pc' := 65) rfl rfl rfl ?_
  refine st_aload (pc' := 66) rfl rfl rfl ?_
  refine st_getfi (Or.inl rfl) rfl hs0 rfl (pc' := 69) rfl ?_
  exact st_icmp_ge (pc' := 72) rfl rfl kt kf
theorem B_Md_layEnds_72 {d : Nat} {h : PH} {Q : PQ} {r0 : Nat} {x1 : Int32} {x2 : Int32} {x3 : Int32} {v4 : Value} (hs0 : h_sh h r0 = some (0, 12)) (k : wpm d 208 [.ref r0, .int x1, .int x2, .int x3] h (fun r h' => wpx d P_Md_layEnds 79 [.ref r0, .int x1, .int x2, .int x3, v4] (r.toList ++ []) h' Q)) : wpx d P_Md_layEnds 72 [.ref r0, .int x1, .int x2, .int x3, v4] [] h Q := by
  refine st_aload (pc' := 73) rfl rfl rfl ?_
  refine st_iload (pc' := 74) rfl rfl rfl ?_
  refine st_iload (pc' := 75) rfl rfl rfl ?_
  refine st_iload (pc' := 76) rfl rfl rfl ?_
  exact st_call (pc' := 79) (as := [.ref r0, .int x1, .int x2, .int x3]) (rest := []) rfl rfl (Nat.le_of_ble_eq_true rfl) rfl rfl (Nat.le_of_ble_eq_true rfl) (kd := 1) (o := 12) rfl rfl (beq_iff_eq.mpr hs0) k
theorem B_Md_layEnds_79 {d : Nat} {h : PH} {Q : PQ} {r0 : Nat} {x1 : Int32} {x2 : Int32} {x3 : Int32} {v4 : Value} {s0 : Int32}  (kt : ¬ (s0 = 0) → wpx d P_Md_layEnds 85 [.ref r0, .int x1, .int x2, .int x3, v4] [] h Q) (kf : s0 = 0 → wpx d P_Md_layEnds 82 [.ref r0, .int x1, .int x2, .int x3, v4] [] h Q) : wpx d P_Md_layEnds 79 [.ref r0, .int x1, .int x2, .int x3, v4] [.int s0] h Q := by
  exact st_if_ne (pc' := 82) rfl rfl kt kf
theorem B_Md_layEnds_82 {d : Nat} {h : PH} {Q : PQ} {r0 : Nat} {x1 : Int32} {x2 : Int32} {x3 : Int32} {v4 : Value}  (k : wpx d P_Md_layEnds 159 [.ref r0, .int x1, .int x2, .int x3, v4] [] h Q) : wpx d P_Md_layEnds 82 [.ref r0, .int x1, .int x2, .int x3, v4] [] h Q := by
  exact st_goto rfl k
theorem B_Md_layEnds_85 {d : Nat} {h : PH} {Q : PQ} {r0 : Nat} {x1 : Int32} {x2 : Int32} {x3 : Int32} {v4 : Value} (hs0 : h_sh h r0 = some (0, 12)) (k : wpx d P_Md_layEnds 91 [.ref r0, .int x1, .int x2, .int x3, .int (h_i h r0 32)] [] h Q) : wpx d P_Md_layEnds 85 [.ref r0, .int x1, .int x2, .int x3, v4] [] h Q := by
  refine st_aload (pc' := 86) rfl rfl rfl ?_
  refine st_getfi (Or.inl rfl) rfl hs0 rfl (pc' := 89) rfl ?_
  refine st_istore (pc' := 91) (ls' := [.ref r0, .int x1, .int x2, .int x3, .int (h_i h r0 32)]) rfl rfl (Nat.le_of_ble_eq_true rfl) rfl ?_
  exact k
theorem B_Md_layEnds_91 {d : Nat} {h : PH} {Q : PQ} {r0 : Nat} {x1 : Int32} {x2 : Int32} {x3 : Int32} {x4 : Int32}  (kt : x4 ≤ x3 → wpx d P_Md_layEnds 135 [.ref r0, .int x1, .int x2, .int x3, .int x4] [] h Q) (kf : ¬ (x4 ≤ x3) → wpx d P_Md_layEnds 97 [.ref r0, .int x1, .int x2, .int x3, .int x4] [] h Q) : wpx d P_Md_layEnds 91 [.ref r0, .int x1, .int x2, .int x3, .int x4] [] h Q := by
  refine st_iload (pc' := 93) rfl rfl rfl ?_
  refine st_iload (pc' := 94) rfl rfl rfl ?_
  exact st_icmp_le (pc' := 97) rfl rfl kt kf
theorem B_Md_layEnds_97 {d : Nat} {h : PH} {Q : PQ} {r0 : Nat} {x1 : Int32} {x2 : Int32} {x3 : Int32} {x4 : Int32} {a0 : Nat} {n1 : Nat} {a2 : Nat} {n3 : Nat} (hs0 : h_sh h r0 = some (0, 12)) (hr1 : h_r h r0 27 = some a0) (hs2 : h_sh h a0 = some (1, n1)) (hb3 : vp_in (x4 - (1 : Int32)) n1) (hb4 : vp_in x4 n1) (hr5 : h_r h r0 28 = some a2) (hs6 : h_sh h a2 = some (1, n3)) (hb7 : vp_in (x4 - (1 : Int32)) n3) (hb8 : vp_in x4 n3) (k : wpx d P_Md_layEnds 91 [.ref r0, .int x1, .int x2, .int x3, .int (x4 + (-1))] [] (w_i (w_i h a0 x4.toNatClampNeg (h_i h a0 (x4 - (1 : Int32)).toNatClampNeg)) a2 x4.toNatClampNeg (h_i (w_i h a0 x4.toNatClampNeg (h_i h a0 (x4 - (1 : Int32)).toNatClampNeg)) a2 (x4 - (1 : Int32)).toNatClampNeg)) Q) : wpx d P_Md_layEnds 97 [.ref r0, .int x1, .int x2, .int x3, .int x4] [] h Q := by
  refine st_aload (pc' := 98) rfl rfl rfl ?_
  refine st_getfr (x := some a0) (Or.inl rfl) rfl hs0 rfl hr1 (pc' := 101) rfl ?_
  refine st_iload (pc' := 103) rfl rfl rfl ?_
  refine st_aload (pc' := 104) rfl rfl rfl ?_
  refine st_getfr (x := some a0) (Or.inl rfl) rfl hs0 rfl hr1 (pc' := 107) rfl ?_
  refine st_iload (pc' := 109) rfl rfl rfl ?_
  refine st_ipush (pc' := 110) (v := 1) rfl rfl (by decide) ?_
  refine st_isub (pc' := 111) rfl rfl ?_
  refine st_iaload rfl hs2 hb3 (j := (x4 - (1 : Int32)).toNatClampNeg) rfl (pc' := 112) rfl ?_
  refine st_iastore rfl hs2 hb4 (j := x4.toNatClampNeg) rfl (pc' := 113) rfl ?_
  refine st_aload (pc' := 114) rfl rfl rfl ?_
  refine st_getfr (x := some a2) (Or.inl rfl) rfl hs0 rfl hr5 (pc' := 117) rfl ?_
  refine st_iload (pc' := 119) rfl rfl rfl ?_
  refine st_aload (pc' := 120) rfl rfl rfl ?_
  refine st_getfr (x := some a2) (Or.inl rfl) rfl hs0 rfl hr5 (pc' := 123) rfl ?_
  refine st_iload (pc' := 125) rfl rfl rfl ?_
  refine st_ipush (pc' := 126) (v := 1) rfl rfl (by decide) ?_
  refine st_isub (pc' := 127) rfl rfl ?_
  refine st_iaload rfl hs6 hb7 (j := (x4 - (1 : Int32)).toNatClampNeg) rfl (pc' := 128) rfl ?_
  refine st_iastore rfl hs6 hb8 (j := x4.toNatClampNeg) rfl (pc' := 129) rfl ?_
  refine st_iinc (pc' := 132) (v := (-1)) (ls' := [.ref r0, .int x1, .int x2, .int x3, .int (x4 + (-1))]) rfl rfl rfl (by decide) rfl ?_
  exact st_goto rfl k
theorem B_Md_layEnds_135 {d : Nat} {h : PH} {Q : PQ} {r0 : Nat} {x1 : Int32} {x2 : Int32} {x3 : Int32} {x4 : Int32} {a0 : Nat} {n1 : Nat} {a2 : Nat} {n3 : Nat} (hs0 : h_sh h r0 = some (0, 12)) (hr1 : h_r h r0 27 = some a0) (hs2 : h_sh h a0 = some (1, n1)) (hb3 : vp_in x3 n1) (hr4 : h_r h r0 28 = some a2) (hs5 : h_sh h a2 = some (1, n3)) (hb6 : vp_in x3 n3) (k : wpx d P_Md_layEnds 159 [.ref r0, .int x1, .int x2, .int x3, .int x4] [] (w_i (w_i (w_i h a0 x3.toNatClampNeg x1) a2 x3.toNatClampNeg x2) r0 32 ((h_i (w_i (w_i h a0 x3.toNatClampNeg x1) a2 x3.toNatClampNeg x2) r0 32) + (1 : Int32))) Q) : wpx d P_Md_layEnds 135 [.ref r0, .int x1, .int x2, .int x3, .int x4] [] h Q := by
  refine st_aload (pc' := 136) rfl rfl rfl ?_
  refine st_getfr (x := some a0) (Or.inl rfl) rfl hs0 rfl hr1 (pc' := 139) rfl ?_
  refine st_iload (pc' := 140) rfl rfl rfl ?_
  refine st_iload (pc' := 141) rfl rfl rfl ?_
  refine st_iastore rfl hs2 hb3 (j := x3.toNatClampNeg) rfl (pc' := 142) rfl ?_
  refine st_aload (pc' := 143) rfl rfl rfl ?_
  refine st_getfr (x := some a2) (Or.inl rfl) rfl hs0 rfl hr4 (pc' := 146) rfl ?_
  refine st_iload (pc' := 147) rfl rfl rfl ?_
  refine st_iload (pc' := 148) rfl rfl rfl ?_
  refine st_iastore rfl hs5 hb6 (j := x3.toNatClampNeg) rfl (pc' := 149) rfl ?_
  refine st_aload (pc' := 150) rfl rfl rfl ?_
  refine st_dup (pc' := 151) rfl rfl rfl ?_
  refine st_getfi (Or.inl rfl) rfl hs0 rfl (pc' := 154) rfl ?_
  refine st_ipush (pc' := 155) (v := 1) rfl rfl (by decide) ?_
  refine st_iadd (pc' := 156) rfl rfl ?_
  refine st_putf (h' := w_i (w_i (w_i h a0 x3.toNatClampNeg x1) a2 x3.toNatClampNeg x2) r0 32 ((h_i (w_i (w_i h a0 x3.toNatClampNeg x1) a2 x3.toNatClampNeg x2) r0 32) + (1 : Int32))) (Or.inl rfl) rfl hs0 rfl rfl rfl (pc' := 159) rfl ?_
  exact k
theorem B_Md_layEnds_159 {d : Nat} {h : PH} {Q : PQ} {r0 : Nat} {x1 : Int32} {x2 : Int32} {x3 : Int32} {v4 : Value}  (k : wpx d P_Md_layEnds 17 [.ref r0, .int x1, .int (x2 + 1), .int x3, v4] [] h Q) : wpx d P_Md_layEnds 159 [.ref r0, .int x1, .int x2, .int x3, v4] [] h Q := by
  refine st_iinc (pc' := 162) (v := 1) (ls' := [.ref r0, .int x1, .int (x2 + 1), .int x3, v4]) rfl rfl rfl (by decide) rfl ?_
  exact st_goto rfl k
theorem B_Md_layEnds_165 {d : Nat} {h : PH} {Q : PQ} {r0 : Nat} {x1 : Int32} {x2 : Int32} {v3 : Value} {v4 : Value}  (k : wpx d P_Md_layEnds 7 [.ref r0, .int (x1 + 1), .int x2, v3, v4] [] h Q) : wpx d P_Md_layEnds 165 [.ref r0, .int x1, .int x2, v3, v4] [] h Q := by
  refine st_iinc (pc' := 168) (v := 1) (ls' := [.ref r0, .int (x1 + 1), .int x2, v3, v4]) rfl rfl rfl (by decide) rfl ?_
  exact st_goto rfl k
theorem B_Md_layEnds_171 {d : Nat} {h : PH} {Q : PQ} {r0 : Nat} {x1 : Int32} {v2 : Value} {v3 : Value} {v4 : Value}  (k : wpx d P_Md_layEnds 173 [.ref r0, .int 0, v2, v3, v4] [] h Q) : wpx d P_Md_layEnds 171 [.ref r0, .int x1, v2, v3, v4] [] h Q := by
  refine st_ipush (pc' := 172) (v := 0) rfl rfl (by decide) ?_
  refine st_istore (pc' := 173) (ls' := [.ref r0, .int 0, v2, v3, v4]) rfl rfl (Nat.le_of_ble_eq_true rfl) rfl ?_
  exact k
theorem B_Md_layEnds_173 {d : Nat} {h : PH} {Q : PQ} {r0 : Nat} {x1 : Int32} {v2 : Value} {v3 : Value} {v4 : Value} (hs0 : h_sh h r0 = some (0, 12)) (kt : (h_i h r0 4) ≤ x1 → wpx d P_Md_layEnds 246 [.ref r0, .int x1, v2, v3, v4] [] h Q) (kf : ¬ ((h_i h r0 4) ≤ x1) → wpx d P_Md_layEnds 181 [.ref r0, .int x1, v2, v3, v4] [] h Q) : wpx d P_Md_layEnds 173 [.ref r0, .int x1, v2, v3, v4] [] h Q := by
  refine st_iload (pc' := 174) rfl rfl rfl ?_
  refine st_aload (pc' := 175) rfl rfl rfl ?_
  refine st_getfi (Or.inl rfl) rfl hs0 rfl (pc' := 178) rfl ?_
  exact st_icmp_ge (pc' := 181) rfl rfl kt kf
theorem B_Md_layEnds_181 {d : Nat} {h : PH} {Q : PQ} {r0 : Nat} {x1 : Int32} {v2 : Value} {v3 : Value} {v4 : Value}  (k : wpx d P_Md_layEnds 183 [.ref r0, .int x1, .int 1, v3, v4] [] h Q) : wpx d P_Md_layEnds 181 [.ref r0, .int x1, v2, v3, v4] [] h Q := by
  refine st_ipush (pc' := 182) (v := 1) rfl rfl (by decide) ?_
  refine st_istore (pc' := 183) (ls' := [.ref r0, .int x1, .int 1, v3, v4]) rfl rfl (Nat.le_of_ble_eq_true rfl) rfl ?_
  exact k
theorem B_Md_layEnds_183 {d : Nat} {h : PH} {Q : PQ} {r0 : Nat} {x1 : Int32} {x2 : Int32} {v3 : Value} {v4 : Value} {a0 : Nat} {n1 : Nat} (hs0 : h_sh h r0 = some (0, 12)) (hr1 : h_r h r0 2 = some a0) (hs2 : h_sh h a0 = some (1, n1)) (hb3 : vp_in x1 n1) (kt : (h_i h a0 x1.toNatClampNeg) ≤ x2 → wpx d P_Md_layEnds 240 [.ref r0, .int x1, .int x2, v3, v4] [] h Q) (kf : ¬ ((h_i h a0 x1.toNatClampNeg) ≤ x2) → wpx d P_Md_layEnds 193 [.ref r0, .int x1, .int x2, v3, v4] [] h Q) : wpx d P_Md_layEnds 183 [.ref r0, .int x1, .int x2, v3, v4] [] h Q := by
  refine st_iload (pc' := 184) rfl rfl rfl ?_
  refine st_aload (pc' := 185) rfl rfl rfl ?_
  refine st_getfr (x := some a0) (Or.inl rfl) rfl hs0 rfl hr1 (pc' := 188) rfl ?_
  refine st_iload (pc' := 189) rfl rfl rfl ?_
  refine st_iaload rfl hs2 hb3 (j := x1.toNatClampNeg) rfl (pc' := 190) rfl ?_
  exact st_icmp_ge (pc' := 193) rfl rfl kt kf
theorem B_Md_layEnds_193 {d : Nat} {h : PH} {Q : PQ} {r0 : Nat} {x1 : Int32} {x2 : Int32} {v3 : Value} {v4 : Value} (hs0 : h_sh h r0 = some (0, 12)) (k : wpm d 171 [.int (h_i h r0 6), .int x1] h (fun r h' => wpx d P_Md_layEnds 201 [.ref r0, .int x1, .int x2, v3, v4] (r.toList ++ []) h' Q)) : wpx d P_Md_layEnds 193 [.ref r0, .int x1, .int x2, v3, v4] [] h Q := by
  refine st_aload (pc' := 194) rfl rfl rfl ?_
  refine st_getfi (Or.inl rfl) rfl hs0 rfl (pc' := 197) rfl ?_
  refine st_iload (pc' := 198) rfl rfl rfl ?_
  exact st_call (pc' := 201) (as := [.int (h_i h r0 6), .int x1]) (rest := []) rfl rfl (Nat.le_of_ble_eq_true rfl) rfl rfl (Nat.le_of_ble_eq_true rfl) (kd := 0) (o := 12) rfl rfl rfl k
theorem B_Md_layEnds_201 {d : Nat} {h : PH} {Q : PQ} {r0 : Nat} {x1 : Int32} {x2 : Int32} {v3 : Value} {v4 : Value} {s0 : Int32}  (kt : s0 = 0 → wpx d P_Md_layEnds 240 [.ref r0, .int x1, .int x2, v3, v4] [] h Q) (kf : ¬ (s0 = 0) → wpx d P_Md_layEnds 204 [.ref r0, .int x1, .int x2, v3, v4] [] h Q) : wpx d P_Md_layEnds 201 [.ref r0, .int x1, .int x2, v3, v4] [.int s0] h Q := by
  exact st_if_eq (pc' := 204) rfl rfl kt kf
theorem B_Md_layEnds_204 {d : Nat} {h : PH} {Q : PQ} {r0 : Nat} {x1 : Int32} {x2 : Int32} {v3 : Value} {v4 : Value}  (k : wpx d P_Md_layEnds 206 [.ref r0, .int x1, .int x2, .int 0, v4] [] h Q) : wpx d P_Md_layEnds 204 [.ref r0, .int x1, .int x2, v3, v4] [] h Q := by
  refine st_ipush (pc' := 205) (v := 0) rfl rfl (by decide) ?_
  refine st_istore (pc' := 206) (ls' := [.ref r0, .int x1, .int x2, .int 0, v4]) rfl rfl (Nat.le_of_ble_eq_true rfl) rfl ?_
  exact k
theorem B_Md_layEnds_206 {d : Nat} {h : PH} {Q : PQ} {r0 : Nat} {x1 : Int32} {x2 : Int32} {x3 : Int32} {v4 : Value} (hs0 : h_sh h r0 = some (0, 12)) (k : wpm d 208 [.ref r0, .int x1, .int x2, .int x3] h (fun r h' => wpx d P_Md_layEnds 213 [.ref r0, .int x1, .int x2, .int x3, v4] (r.toList ++ []) h' Q)) : wpx d P_Md_layEnds 206 [.ref r0, .int x1, .int x2, .int x3, v4] [] h Q := by
  refine st_aload (pc' := 207) rfl rfl rfl ?_
  refine st_iload (pc' := 208) rfl rfl rfl ?_
  refine st_iload (pc' := 209) rfl rfl rfl ?_
  refine st_iload (pc' := 210) rfl rfl rfl ?_
  exact st_call (pc' := 213) (as := [.ref r0, .int x1, .int x2, .int x3]) (rest := []) rfl rfl (Nat.le_of_ble_eq_true rfl) rfl rfl (Nat.le_of_ble_eq_true rfl) (kd := 1) (o := 12) rfl rfl (beq_iff_eq.mpr hs0) k
theorem B_Md_layEnds_213 {d : Nat} {h : PH} {Q : PQ} {r0 : Nat} {x1 : Int32} {x2 : Int32} {x3 : Int32} {v4 : Value} {s0 : Int32}  (kt : s0 = 0 → wpx d P_Md_layEnds 222 [.ref r0, .int x1, .int x2, .int x3, v4] [] h Q) (kf : ¬ (s0 = 0) → wpx d P_Md_layEnds 216 [.ref r0, .int x1, .int x2, .int x3, v4] [] h Q) : wpx d P_Md_layEnds 213 [.ref r0, .int x1, .int x2, .int x3, v4] [.int s0] h Q := by
  exact st_if_eq (pc' := 216) rfl rfl kt kf
theorem B_Md_layEnds_216 {d : Nat} {h : PH} {Q : PQ} {r0 : Nat} {x1 : Int32} {x2 : Int32} {x3 : Int32} {v4 : Value}  (k : wpx d P_Md_layEnds 206 [.ref r0, .int x1, .int x2, .int (x3 + 1), v4] [] h Q) : wpx d P_Md_layEnds 216 [.ref r0, .int x1, .int x2, .int x3, v4] [] h Q := by
  refine st_iinc (pc' := 219) (v := 1) (ls' := [.ref r0, .int x1, .int x2, .int (x3 + 1), v4]) rfl rfl rfl (by decide) rfl ?_
  exact st_goto rfl k
theorem B_Md_layEnds_222 {d : Nat} {h : PH} {Q : PQ} {r0 : Nat} {x1 : Int32} {x2 : Int32} {x3 : Int32} {v4 : Value} {a0 : Nat} {n1 : Nat} (hs0 : h_sh h r0 = some (0, 12)) (hr1 : h_r h r0 30 = some a0) (hs2 : h_sh h a0 = some (1, n1)) (hb3 : vp_in (((8 : Int32) * x1) + x2) n1) (k : wpx d P_Md_layEnds 183 [.ref r0, .int x1, .int (x2 + 1), .int x3, v4] [] (w_i h a0 ((((8 : Int32) * x1) + x2).toNatClampNeg) x3) Q) : wpx d P_Md_layEnds 222 [.ref r0, .int x1, .int x2, .int x3, v4] [] h Q := by
  refine st_aload (pc' := 223) rfl rfl rfl ?_
  refine st_getfr (x := some a0) (Or.inl rfl) rfl hs0 rfl hr1 (pc' := 226) rfl ?_
  refine st_ipush (pc' := 228) (v := 8) rfl rfl (by decide) ?_
  refine st_iload (pc' := 229) rfl rfl rfl ?_
  refine st_imul (pc' := 230) rfl rfl ?_
  refine st_iload (pc' := 231) rfl rfl rfl ?_
  refine st_iadd (pc' := 232) rfl rfl ?_
  refine st_iload (pc' := 233) rfl rfl rfl ?_
  refine st_iastore rfl hs2 hb3 (j := (((8 : Int32) * x1) + x2).toNatClampNeg) rfl (pc' := 234) rfl ?_
  refine st_iinc (pc' := 237) (v := 1) (ls' := [.ref r0, .int x1, .int (x2 + 1), .int x3, v4]) rfl rfl rfl (by decide) rfl ?_
  exact st_goto rfl k
theorem B_Md_layEnds_240 {d : Nat} {h : PH} {Q : PQ} {r0 : Nat} {x1 : Int32} {x2 : Int32} {v3 : Value} {v4 : Value}  (k : wpx d P_Md_layEnds 173 [.ref r0, .int (x1 + 1), .int x2, v3, v4] [] h Q) : wpx d P_Md_layEnds 240 [.ref r0, .int x1, .int x2, v3, v4] [] h Q := by
  refine st_iinc (pc' := 243) (v := 1) (ls' := [.ref r0, .int (x1 + 1), .int x2, v3, v4]) rfl rfl rfl (by decide) rfl ?_
  exact st_goto rfl k
theorem B_Md_layEnds_246 {d : Nat} {h : PH} {Q : PQ} {r0 : Nat} {x1 : Int32} {v2 : Value} {v3 : Value} {v4 : Value}  (k : Q none h) : wpx d P_Md_layEnds 246 [.ref r0, .int x1, v2, v3, v4] [] h Q := by
  exact st_return rfl k
theorem B_Md_leftOf_0 {d : Nat} {h : PH} {Q : PQ} {r0 : Nat} {x1 : Int32} {x2 : Int32} {v3 : Value} {a0 : Nat} {n1 : Nat} {a2 : Nat} {n3 : Nat} (hs0 : h_sh h r0 = some (0, 12)) (hr1 : h_r h r0 27 = some a0) (hs2 : h_sh h a0 = some (1, n1)) (hb3 : vp_in x1 n1) (hr4 : h_r h r0 28 = some a2) (hs5 : h_sh h a2 = some (1, n3)) (hb6 : vp_in x1 n3) (k : wpm d 176 [.ref r0, .int x2, .int 0, .int (h_i h a0 x1.toNatClampNeg), .int (h_i h a2 x1.toNatClampNeg)] h (fun r h' => wpx d P_Md_leftOf 18 [.ref r0, .int x1, .int x2, v3] (r.toList ++ []) h' Q)) : wpx d P_Md_leftOf 0 [.ref r0, .int x1, .int x2, v3] [] h Q := by
  refine st_aload (pc' := 1) rfl rfl rfl ?_
  refine st_iload (pc' := 2) rfl rfl rfl ?_
  refine st_ipush (pc' := 3) (v := 0) rfl rfl (by decide) ?_
  refine st_aload (pc' := 4) rfl rfl rfl ?_
  refine st_getfr (x := some a0) (Or.inl rfl) rfl hs0 rfl hr1 (pc' := 7) rfl ?_
  refine st_iload (pc' := 8) rfl rfl rfl ?_
  refine st_iaload rfl hs2 hb3 (j := x1.toNatClampNeg) rfl (pc' := 9) rfl ?_
  refine st_aload (pc' := 10) rfl rfl rfl ?_
  refine st_getfr (x := some a2) (Or.inl rfl) rfl hs0 rfl hr4 (pc' := 13) rfl ?_
  refine st_iload (pc' := 14) rfl rfl rfl ?_
  refine st_iaload rfl hs5 hb6 (j := x1.toNatClampNeg) rfl (pc' := 15) rfl ?_
  exact st_call (pc' := 18) (as := [.ref r0, .int x2, .int 0, .int (h_i h a0 x1.toNatClampNeg), .int (h_i h a2 x1.toNatClampNeg)]) (rest := []) rfl rfl (Nat.le_of_ble_eq_true rfl) rfl rfl (Nat.le_of_ble_eq_true rfl) (kd := 1) (o := 12) rfl rfl (beq_iff_eq.mpr hs0) k
theorem B_Md_leftOf_18 {d : Nat} {h : PH} {Q : PQ} {r0 : Nat} {x1 : Int32} {x2 : Int32} {v3 : Value} {s0 : Int32} {a0 : Nat} {n1 : Nat} (hs0 : h_sh h r0 = some (0, 12)) (hr1 : h_r h r0 2 = some a0) (hs2 : h_sh h a0 = some (1, n1)) (hb3 : vp_in x2 n1) (kt : ¬ (s0 = (h_i h a0 x2.toNatClampNeg)) → wpx d P_Md_leftOf 41 [.ref r0, .int x1, .int x2, .int s0] [] h Q) (kf : s0 = (h_i h a0 x2.toNatClampNeg) → wpx d P_Md_leftOf 29 [.ref r0, .int x1, .int x2, .int s0] [] h Q) : wpx d P_Md_leftOf 18 [.ref r0, .int x1, .int x2, v3] [.int s0] h Q := by
  refine st_istore (pc' := 19) (ls' := [.ref r0, .int x1, .int x2, .int s0]) rfl rfl (Nat.le_of_ble_eq_true rfl) rfl ?_
  refine st_iload (pc' := 20) rfl rfl rfl ?_
  refine st_aload (pc' := 21) rfl rfl rfl ?_
  refine st_getfr (x := some a0) (Or.inl rfl) rfl hs0 rfl hr1 (pc' := 24) rfl ?_
  refine st_iload (pc' := 25) rfl rfl rfl ?_
  refine st_iaload rfl hs2 hb3 (j := x2.toNatClampNeg) rfl (pc' := 26) rfl ?_
  exact st_icmp_ne (pc' := 29) rfl rfl kt kf
theorem B_Md_leftOf_29 {d : Nat} {h : PH} {Q : PQ} {r0 : Nat} {x1 : Int32} {x2 : Int32} {x3 : Int32} (hs0 : h_sh h r0 = some (0, 12)) (k : wpm d 206 [.ref r0, .int x1] h (fun r h' => wpx d P_Md_leftOf 35 [.ref r0, .int x1, .int x2, .int x3] (r.toList ++ [.int x3]) h' Q)) : wpx d P_Md_leftOf 29 [.ref r0, .int x1, .int x2, .int x3] [] h Q := by
  refine st_iload (pc' := 30) rfl rfl rfl ?_
  refine st_aload (pc' := 31) rfl rfl rfl ?_
  refine st_iload (pc' := 32) rfl rfl rfl ?_
  exact st_call (pc' := 35) (as := [.ref r0, .int x1]) (rest := [.int x3]) rfl rfl (Nat.le_of_ble_eq_true rfl) rfl rfl (Nat.le_of_ble_eq_true rfl) (kd := 1) (o := 12) rfl rfl (beq_iff_eq.mpr hs0) k
theorem B_Md_leftOf_35 {d : Nat} {h : PH} {Q : PQ} {r0 : Nat} {x1 : Int32} {x2 : Int32} {x3 : Int32} {s0 : Int32} {s1 : Int32}  (kt : ¬ (s0 = s1) → wpx d P_Md_leftOf 41 [.ref r0, .int x1, .int x2, .int x3] [] h Q) (kf : s0 = s1 → wpx d P_Md_leftOf 38 [.ref r0, .int x1, .int x2, .int x3] [] h Q) : wpx d P_Md_leftOf 35 [.ref r0, .int x1, .int x2, .int x3] [.int s1, .int s0] h Q := by
  exact st_icmp_ne (pc' := 38) rfl rfl kt kf
theorem B_Md_leftOf_38 {d : Nat} {h : PH} {Q : PQ} {r0 : Nat} {x1 : Int32} {x2 : Int32} {x3 : Int32}  (k : Q (some (.int (-2))) h) : wpx d P_Md_leftOf 38 [.ref r0, .int x1, .int x2, .int x3] [] h Q := by
  refine st_ipush (pc' := 40) (v := (-2)) rfl rfl (by decide) ?_
  exact st_ireturn (ty := .int) rfl rfl rfl k
theorem B_Md_leftOf_41 {d : Nat} {h : PH} {Q : PQ} {r0 : Nat} {x1 : Int32} {x2 : Int32} {x3 : Int32} {a0 : Nat} {n1 : Nat} (hs0 : h_sh h r0 = some (0, 12)) (hr1 : h_r h r0 2 = some a0) (hs2 : h_sh h a0 = some (1, n1)) (hb3 : vp_in x2 n1) (kt : ¬ (x3 = (h_i h a0 x2.toNatClampNeg)) → wpx d P_Md_leftOf 75 [.ref r0, .int x1, .int x2, .int x3] [] h Q) (kf : x3 = (h_i h a0 x2.toNatClampNeg) → wpx d P_Md_leftOf 51 [.ref r0, .int x1, .int x2, .int x3] [] h Q) : wpx d P_Md_leftOf 41 [.ref r0, .int x1, .int x2, .int x3] [] h Q := by
  refine st_iload (pc' := 42) rfl rfl rfl ?_
  refine st_aload (pc' := 43) rfl rfl rfl ?_
  refine st_getfr (x := some a0) (Or.inl rfl) rfl hs0 rfl hr1 (pc' := 46) rfl ?_
  refine st_iload (pc' := 47) rfl rfl rfl ?_
  refine st_iaload rfl hs2 hb3 (j := x2.toNatClampNeg) rfl (pc' := 48) rfl ?_
  exact st_icmp_ne (pc' := 51) rfl rfl kt kf
theorem B_Md_leftOf_51 {d : Nat} {h : PH} {Q : PQ} {r0 : Nat} {x1 : Int32} {x2 : Int32} {x3 : Int32} {a0 : Nat} {a1 : Nat} {n2 : Nat} {a3 : Nat} {n4 : Nat} {n5 : Nat} (hs0 : h_sh h r0 = some (0, 12)) (hr1 : h_r h r0 30 = some a0) (hr2 : h_r h r0 27 = some a1) (hs3 : h_sh h a1 = some (1, n2)) (hb4 : vp_in x1 n2) (hr5 : h_r h r0 28 = some a3) (hs6 : h_sh h a3 = some (1, n4)) (hb7 : vp_in x1 n4) (hs8 : h_sh h a0 = some (1, n5)) (hb9 : vp_in ((((8 : Int32) * (h_i h a1 x1.toNatClampNeg)) + (h_i h a3 x1.toNatClampNeg)) + x3) n5) (k : Q (some (.int (h_i h a0 ((((8 : Int32) * (h_i h a1 x1.toNatClampNeg)) + (h_i h a3 x1.toNatClampNeg)) + x3).toNatClampNeg))) h) : wpx d P_Md_leftOf 51 [.ref r0, .int x1, .int x2, .int x3] [] h Q := by
  refine st_aload (pc' := 52) rfl rfl rfl ?_
  refine st_getfr (x := some a0) (Or.inl rfl) rfl hs0 rfl hr1 (pc' := 55) rfl ?_
  refine st_ipush (pc' := 57) (v := 8) rfl rfl (by decide) ?_
  refine st_aload (pc' := 58) rfl rfl rfl ?_
  refine st_getfr (x := some a1) (Or.inl rfl) rfl hs0 rfl hr2 (pc' := 61) rfl ?_
  refine st_iload (pc' := 62) rfl rfl rfl ?_
  refine st_iaload rfl hs3 hb4 (j := x1.toNatClampNeg) rfl (pc' := 63) rfl ?_
  refine st_imul (pc' := 64) rfl rfl ?_
  refine st_aload (pc' := 65) rfl rfl rfl ?_
  refine st_getfr (x := some a3) (Or.inl rfl) rfl hs0 rfl hr5 (pc' := 68) rfl ?_
  refine st_iload (pc' := 69) rfl rfl rfl ?_
  refine st_iaload rfl hs6 hb7 (j := x1.toNatClampNeg) rfl (pc' := 70) rfl ?_
  refine st_iadd (pc' := 71) rfl rfl ?_
  refine st_iload (pc' := 72) rfl rfl rfl ?_
  refine st_iadd (pc' := 73) rfl rfl ?_
  refine st_iaload rfl hs8 hb9 (j := ((((8 : Int32) * (h_i h a1 x1.toNatClampNeg)) + (h_i h a3 x1.toNatClampNeg)) + x3).toNatClampNeg) rfl (pc' := 74) rfl ?_
  exact st_ireturn (ty := .int) rfl rfl rfl k
theorem B_Md_leftOf_75 {d : Nat} {h : PH} {Q : PQ} {r0 : Nat} {x1 : Int32} {x2 : Int32} {x3 : Int32} (hs0 : h_sh h r0 = some (0, 12)) (k : wpm d 206 [.ref r0, .int x1] h (fun r h' => wpx d P_Md_leftOf 81 [.ref r0, .int x1, .int x2, .int x3] (r.toList ++ [.int x3]) h' Q)) : wpx d P_Md_leftOf 75 [.ref r0, .int x1, .int x2, .int x3] [] h Q := by
  refine st_iload (pc' := 76) rfl rfl rfl ?_
  refine st_aload (pc' := 77) rfl rfl rfl ?_
  refine st_iload (pc' := 78) rfl rfl rfl ?_
  exact st_call (pc' := 81) (as := [.ref r0, .int x1]) (rest := [.int x3]) rfl rfl (Nat.le_of_ble_eq_true rfl) rfl rfl (Nat.le_of_ble_eq_true rfl) (kd := 1) (o := 12) rfl rfl (beq_iff_eq.mpr hs0) k
theorem B_Md_leftOf_81 {d : Nat} {h : PH} {Q : PQ} {r0 : Nat} {x1 : Int32} {x2 : Int32} {x3 : Int32} {s0 : Int32} {s1 : Int32}  (kt : ¬ (s0 = s1) → wpx d P_Md_leftOf 98 [.ref r0, .int x1, .int x2, .int x3] [] h Q) (kf : s0 = s1 → wpx d P_Md_leftOf 84 [.ref r0, .int x1, .int x2, .int x3] [] h Q) : wpx d P_Md_leftOf 81 [.ref r0, .int x1, .int x2, .int x3] [.int s1, .int s0] h Q := by
  exact st_icmp_ne (pc' := 84) rfl rfl kt kf
theorem B_Md_leftOf_84 {d : Nat} {h : PH} {Q : PQ} {r0 : Nat} {x1 : Int32} {x2 : Int32} {x3 : Int32} {a0 : Nat} {n1 : Nat} (hs0 : h_sh h r0 = some (0, 12)) (hr1 : h_r h r0 30 = some a0) (hs2 : h_sh h a0 = some (1, n1)) (hb3 : vp_in (((8 : Int32) * x2) + x3) n1) (k : wpx d P_Md_leftOf 99 [.ref r0, .int x1, .int x2, .int x3] [.int (h_i h a0 (((8 : Int32) * x2) + x3).toNatClampNeg)] h Q) : wpx d P_Md_leftOf 84 [.ref r0, .int x1, .int x2, .int x3] [] h Q := by
  refine st_aload (pc' := 85) rfl rfl rfl ?_
  refine st_getfr (x := some a0) (Or.inl rfl) rfl hs0 rfl hr1 (pc' := 88) rfl ?_
  refine st_ipush (pc' := 90) (v := 8) rfl rfl (by decide) ?_
  refine st_iload (pc' := 91) rfl rfl rfl ?_
  refine st_imul (pc' := 92) rfl rfl ?_
  refine st_iload (pc' := 93) rfl rfl rfl ?_
  refine st_iadd (pc' := 94) rfl rfl ?_
  refine st_iaload rfl hs2 hb3 (j := (((8 : Int32) * x2) + x3).toNatClampNeg) rfl (pc' := 95) rfl ?_
  exact st_goto rfl k
theorem B_Md_leftOf_98 {d : Nat} {h : PH} {Q : PQ} {r0 : Nat} {x1 : Int32} {x2 : Int32} {x3 : Int32}  (k : wpx d P_Md_leftOf 99 [.ref r0, .int x1, .int x2, .int x3] [.int (-1)] h Q) : wpx d P_Md_leftOf 98 [.ref r0, .int x1, .int x2, .int x3] [] h Q := by
  refine st_ipush (pc' := 99) (v := (-1)) rfl rfl (by decide) ?_
  exact k
theorem B_Md_leftOf_99 {d : Nat} {h : PH} {Q : PQ} {r0 : Nat} {x1 : Int32} {x2 : Int32} {x3 : Int32} {s0 : Int32}  (k : Q (some (.int s0)) h) : wpx d P_Md_leftOf 99 [.ref r0, .int x1, .int x2, .int x3] [.int s0] h Q := by
  exact st_ireturn (ty := .int) rfl rfl rfl k
theorem B_Md_layTails_0 {d : Nat} {h : PH} {Q : PQ} {r0 : Nat} {v1 : Value} {v2 : Value} (hs0 : h_sh h r0 = some (0, 12)) (kt : (h_i h r0 25) = 0 → wpx d P_Md_layTails 8 [.ref r0, v1, v2] [] h Q) (kf : ¬ ((h_i h r0 25) = 0) → wpx d P_Md_layTails 7 [.ref r0, v1, v2] [] h Q) : wpx d P_Md_layTails 0 [.ref r0, v1, v2] [] h Q := by
  refine st_aload (pc' := 1) rfl rfl rfl ?_
  refine st_getfi (Or.inl rfl) rfl hs0 rfl (pc' := 4) rfl ?_
  exact st_if_eq (pc' := 7) rfl rfl kt kf
theorem B_Md_layTails_7 {d : Nat} {h : PH} {Q : PQ} {r0 : Nat} {v1 : Value} {v2 : Value}  (k : Q none h) : wpx d P_Md_layTails 7 [.ref r0, v1, v2] [] h Q := by
  exact st_return rfl k
theorem B_Md_layTails_8 {d : Nat} {h : PH} {Q : PQ} {r0 : Nat} {v1 : Value} {v2 : Value} (hs0 : h_sh h r0 = some (0, 12)) (k : wpm d 209 [.ref r0] (w_i h r0 25 1) (fun r h' => wpx d P_Md_layTails 17 [.ref r0, v1, v2] (r.toList ++ []) h' Q)) : wpx d P_Md_layTails 8 [.ref r0, v1, v2] [] h Q := by
  refine st_aload (pc' := 9) rfl rfl rfl ?_
  refine st_ipush (pc' := 10) (v := 1) rfl rfl (by decide) ?_
  refine st_putf (h' := w_i h r0 25 1) (Or.inl rfl) rfl hs0 (by decide) (by decide) rfl (pc' := 13) rfl ?_
  refine st_aload (pc' := 14) rfl rfl rfl ?_
  exact st_call (pc' := 17) (as := [.ref r0]) (rest := []) rfl rfl (Nat.le_of_ble_eq_true rfl) rfl rfl (Nat.le_of_ble_eq_true rfl) (kd := 1) (o := 12) rfl rfl (beq_iff_eq.mpr hs0) k
theorem B_Md_layTails_17 {d : Nat} {h : PH} {Q : PQ} {r0 : Nat} {v1 : Value} {v2 : Value}  (k : wpx d P_Md_layTails 19 [.ref r0, .int 0, v2] [] h Q) : wpx d P_Md_layTails 17 [.ref r0, v1, v2] [] h Q := by
  refine st_ipush (pc' := 18) (v := 0) rfl rfl (by decide) ?_
  refine st_istore (pc' := 19) (ls' := [.ref r0, .int 0, v2]) rfl rfl (Nat.le_of_ble_eq_true rfl) rfl ?_
  exact k
theorem B_Md_layTails_19 {d : Nat} {h : PH} {Q : PQ} {r0 : Nat} {x1 : Int32} {v2 : Value} (hs0 : h_sh h r0 = some (0, 12)) (kt : (h_i h r0 32) ≤ x1 → wpx d P_Md_layTails 88 [.ref r0, .int x1, v2] [] h Q) (kf : ¬ ((h_i h r0 32) ≤ x1) → wpx d P_Md_layTails 27 [.ref r0, .int x1, v2] [] h Q) : wpx d P_Md_layTails 19 [.ref r0, .int x1, v2] [] h Q := by
  refine st_iload (pc' := 20) rfl rfl rfl ?_
  refine st_aload (pc' := 21) rfl rfl rfl ?_
  refine st_getfi (Or.inl rfl) rfl hs0 rfl (pc' := 24) rfl ?_
  exact st_icmp_ge (pc' := 27) rfl rfl kt kf
theorem B_Md_layTails_27 {d : Nat} {h : PH} {Q : PQ} {r0 : Nat} {x1 : Int32} {v2 : Value} {a0 : Nat} {n1 : Nat} (hs0 : h_sh h r0 = some (0, 12)) (hr1 : h_r h r0 29 = some a0) (hs2 : h_sh h a0 = some (1, n1)) (hb3 : vp_in x1 n1) (k : wpx d P_Md_layTails 36 [.ref r0, .int x1, .int 0] [] (w_i h a0 x1.toNatClampNeg 0) Q) : wpx d P_Md_layTails 27 [.ref r0, .int x1, v2] [] h Q := by
  refine st_aload (pc' := 28) rfl rfl rfl ?_
  refine st_getfr (x := some a0) (Or.inl rfl) rfl hs0 rfl hr1 (pc' := 31) rfl ?_
  refine st_iload (pc' := 32) rfl rfl rfl ?_
  refine st_ipush (pc' := 33) (v := 0) rfl rfl (by decide) ?_
  refine st_iastore rfl hs2 hb3 (j := x1.toNatClampNeg) rfl (pc' := 34) rfl ?_
  refine st_ipush (pc' := 35) (v := 0) rfl rfl (by decide) ?_
  refine st_istore (pc' := 36) (ls' := [.ref r0, .int x1, .int 0]) rfl rfl (Nat.le_of_ble_eq_true rfl) rfl ?_
  exact k
theorem B_Md_layTails_36 {d : Nat} {h : PH} {Q : PQ} {r0 : Nat} {x1 : Int32} {x2 : Int32} (hs0 : h_sh h r0 = some (0, 12)) (kt : (h_i h r0 4) ≤ x2 → wpx d P_Md_layTails 82 [.ref r0, .int x1, .int x2] [] h Q) (kf : ¬ ((h_i h r0 4) ≤ x2) → wpx d P_Md_layTails 44 [.ref r0, .int x1, .int x2] [] h Q) : wpx d P_Md_layTails 36 [.ref r0, .int x1, .int x2] [] h Q := by
  refine st_iload (pc' := 37) rfl rfl rfl ?_
  refine st_aload (pc' := 38) rfl rfl rfl ?_
  refine st_getfi (Or.inl rfl) rfl hs0 rfl (pc' := 41) rfl ?_
  exact st_icmp_ge (pc' := 44) rfl rfl kt kf
theorem B_Md_layTails_44 {d : Nat} {h : PH} {Q : PQ} {r0 : Nat} {x1 : Int32} {x2 : Int32} {a0 : Nat} (hs0 : h_sh h r0 = some (0, 12)) (hr1 : h_r h r0 31 = some a0) (k : wpm d 171 [.int (h_i h r0 6), .int x2] h (fun r h' => wpx d P_Md_layTails 62 [.ref r0, .int x1, .int x2] (r.toList ++ [.int (((14 : Int32) * x1) + x2), .ref a0]) h' Q)) : wpx d P_Md_layTails 44 [.ref r0, .int x1, .int x2] [] h Q := by
  refine st_aload (pc' := 45) rfl rfl rfl ?_
  refine st_getfr (x := some a0) (Or.inl rfl) rfl hs0 rfl hr1 (pc' := 48) rfl ?_
  refine st_ipush (pc' := 50) (v := 14) rfl rfl (by decide) ?_
  refine st_iload (pc' := 51) rfl rfl rfl ?_
  refine st_imul (pc' := 52) rfl rfl ?_
  refine st_iload (pc' := 53) rfl rfl rfl ?_
  refine st_iadd (pc' := 54) rfl rfl ?_
  refine st_aload (pc' := 55) rfl rfl rfl ?_
  refine st_getfi (Or.inl rfl) rfl hs0 rfl (pc' := 58) rfl ?_
  refine st_iload (pc' := 59) rfl rfl rfl ?_
  exact st_call (pc' := 62) (as := [.int (h_i h r0 6), .int x2]) (rest := [.int (((14 : Int32) * x1) + x2), .ref a0]) rfl rfl (Nat.le_of_ble_eq_true rfl) rfl rfl (Nat.le_of_ble_eq_true rfl) (kd := 0) (o := 12) rfl rfl rfl k
theorem B_Md_layTails_62 {d : Nat} {h : PH} {Q : PQ} {r0 : Nat} {x1 : Int32} {x2 : Int32} {q0 : Nat} {s1 : Int32} {s2 : Int32}  (kt : s2 = 0 → wpx d P_Md_layTails 74 [.ref r0, .int x1, .int x2] [.int s1, .ref q0] h Q) (kf : ¬ (s2 = 0) → wpx d P_Md_layTails 65 [.ref r0, .int x1, .int x2] [.int s1, .ref q0] h Q) : wpx d P_Md_layTails 62 [.ref r0, .int x1, .int x2] [.int s2, .int s1, .ref q0] h Q := by
  exact st_if_eq (pc' := 65) rfl rfl kt kf
theorem B_Md_layTails_65 {d : Nat} {h : PH} {Q : PQ} {r0 : Nat} {x1 : Int32} {x2 : Int32} {q0 : Nat} {s1 : Int32} (hs0 : h_sh h r0 = some (0, 12)) (k : wpm d 210 [.ref r0, .int x1, .int x2] h (fun r h' => wpx d P_Md_layTails 71 [.ref r0, .int x1, .int x2] (r.toList ++ [.int s1, .ref q0]) h' Q)) : wpx d P_Md_layTails 65 [.ref r0, .int x1, .int x2] [.int s1, .ref q0] h Q := by
  refine st_aload (pc' := 66) rfl rfl rfl ?_
  refine st_iload (pc' := 67) rfl rfl rfl ?_
  refine st_iload (pc' := 68) rfl rfl rfl ?_
  exact st_call (pc' := 71) (as := [.ref r0, .int x1, .int x2]) (rest := [.int s1, .ref q0]) rfl rfl (Nat.le_of_ble_eq_true rfl) rfl rfl (Nat.le_of_ble_eq_true rfl) (kd := 1) (o := 12) rfl rfl (beq_iff_eq.mpr hs0) k
theorem B_Md_layTails_71 {d : Nat} {h : PH} {Q : PQ} {r0 : Nat} {x1 : Int32} {x2 : Int32} {q0 : Nat} {s1 : Int32} {s2 : Int32}  (k : wpx d P_Md_layTails 75 [.ref r0, .int x1, .int x2] [.int s2, .int s1, .ref q0] h Q) : wpx d P_Md_layTails 71 [.ref r0, .int x1, .int x2] [.int s2, .int s1, .ref q0] h Q := by
  exact st_goto rfl k
theorem B_Md_layTails_74 {d : Nat} {h : PH} {Q : PQ} {r0 : Nat} {x1 : Int32} {x2 : Int32} {q0 : Nat} {s1 : Int32}  (k : wpx d P_Md_layTails 75 [.ref r0, .int x1, .int x2] [.int (-1), .int s1, .ref q0] h Q) : wpx d P_Md_layTails 74 [.ref r0, .int x1, .int x2] [.int s1, .ref q0] h Q := by
  refine st_ipush (pc' := 75) (v := (-1)) rfl rfl (by decide) ?_
  exact k
theorem B_Md_layTails_75 {d : Nat} {h : PH} {Q : PQ} {r0 : Nat} {x1 : Int32} {x2 : Int32} {q0 : Nat} {s1 : Int32} {s2 : Int32} {n0 : Nat} (hs0 : h_sh h q0 = some (1, n0)) (hb1 : vp_in s1 n0) (k : wpx d P_Md_layTails 36 [.ref r0, .int x1, .int (x2 + 1)] [] (w_i h q0 s1.toNatClampNeg s2) Q) : wpx d P_Md_layTails 75 [.ref r0, .int x1, .int x2] [.int s2, .int s1, .ref q0] h Q := by
  refine st_iastore rfl hs0 hb1 (j := s1.toNatClampNeg) rfl (pc' := 76) rfl ?_
  refine st_iinc (pc' := 79) (v := 1) (ls' := [.ref r0, .int x1, .int (x2 + 1)]) rfl rfl rfl (by decide) rfl ?_
  exact st_goto rfl k
theorem B_Md_layTails_82 {d : Nat} {h : PH} {Q : PQ} {r0 : Nat} {x1 : Int32} {x2 : Int32}  (k : wpx d P_Md_layTails 19 [.ref r0, .int (x1 + 1), .int x2] [] h Q) : wpx d P_Md_layTails 82 [.ref r0, .int x1, .int x2] [] h Q := by
  refine st_iinc (pc' := 85) (v := 1) (ls' := [.ref r0, .int (x1 + 1), .int x2]) rfl rfl rfl (by decide) rfl ?_
  exact st_goto rfl k
theorem B_Md_layTails_88 {d : Nat} {h : PH} {Q : PQ} {r0 : Nat} {x1 : Int32} {v2 : Value}  (k : wpx d P_Md_layTails 90 [.ref r0, .int 0, v2] [] h Q) : wpx d P_Md_layTails 88 [.ref r0, .int x1, v2] [] h Q := by
  refine st_ipush (pc' := 89) (v := 0) rfl rfl (by decide) ?_
  refine st_istore (pc' := 90) (ls' := [.ref r0, .int 0, v2]) rfl rfl (Nat.le_of_ble_eq_true rfl) rfl ?_
  exact k
theorem B_Md_layTails_90 {d : Nat} {h : PH} {Q : PQ} {r0 : Nat} {x1 : Int32} {v2 : Value} (hs0 : h_sh h r0 = some (0, 12)) (kt : (h_i h r0 4) ≤ x1 → wpx d P_Md_layTails 178 [.ref r0, .int x1, v2] [] h Q) (kf : ¬ ((h_i h r0 4) ≤ x1) → wpx d P_Md_layTails 98 [.ref r0, .int x1, v2] [] h Q) : wpx d P_Md_layTails 90 [.ref r0, .int x1, v2] [] h Q := by
  refine st_iload (pc' := 91) rfl rfl rfl ?_
  refine st_aload (pc' := 92) rfl rfl rfl ?_
  refine st_getfi (Or.inl rfl) rfl hs0 rfl (pc' := 95) rfl ?_
  exact st_icmp_ge (pc' := 98) rfl rfl kt kf
theorem B_Md_layTails_98 {d : Nat} {h : PH} {Q : PQ} {r0 : Nat} {x1 : Int32} {v2 : Value}  (k : wpx d P_Md_layTails 100 [.ref r0, .int x1, .int 0] [] h Q) : wpx d P_Md_layTails 98 [.ref r0, .int x1, v2] [] h Q := by
  refine st_ipush (pc' := 99) (v := 0) rfl rfl (by decide) ?_
  refine st_istore (pc' := 100) (ls' := [.ref r0, .int x1, .int 0]) rfl rfl (Nat.le_of_ble_eq_true rfl) rfl ?_
  exact k
theorem B_Md_layTails_100 {d : Nat} {h : PH} {Q : PQ} {r0 : Nat} {x1 : Int32} {x2 : Int32} (hs0 : h_sh h r0 = some (0, 12)) (kt : (h_i h r0 4) ≤ x2 → wpx d P_Md_layTails 172 [.ref r0, .int x1, .int x2] [] h Q) (kf : ¬ ((h_i h r0 4) ≤ x2) → wpx d P_Md_layTails 108 [.ref r0, .int x1, .int x2] [] h Q) : wpx d P_Md_layTails 100 [.ref r0, .int x1, .int x2] [] h Q := by
  refine st_iload (pc' := 101) rfl rfl rfl ?_
  refine st_aload (pc' := 102) rfl rfl rfl ?_
  refine st_getfi (Or.inl rfl) rfl hs0 rfl (pc' := 105) rfl ?_
  exact st_icmp_ge (pc' := 108) rfl rfl kt kf
theorem B_Md_layTails_108 {d : Nat} {h : PH} {Q : PQ} {r0 : Nat} {x1 : Int32} {x2 : Int32}  (kt : x1 = x2 → wpx d P_Md_layTails 166 [.ref r0, .int x1, .int x2] [] h Q) (kf : ¬ (x1 = x2) → wpx d P_Md_layTails 113 [.ref r0, .int x1, .int x2] [] h Q) : wpx d P_Md_layTails 108 [.ref r0, .int x1, .int x2] [] h Q := by
  refine st_iload (pc' := 109) rfl rfl rfl ?_
  refine st_iload (pc' := 110) rfl rfl rfl ?_
  exact st_icmp_eq (pc' := 113) rfl rfl kt kf
theorem B_Md_layTails_113 {d : Nat} {h : PH} {Q : PQ} {r0 : Nat} {x1 : Int32} {x2 : Int32} (hs0 : h_sh h r0 = some (0, 12)) (k : wpm d 171 [.int (h_i h r0 6), .int x1] h (fun r h' => wpx d P_Md_layTails 121 [.ref r0, .int x1, .int x2] (r.toList ++ []) h' Q)) : wpx d P_Md_layTails 113 [.ref r0, .int x1, .int x2] [] h Q := by
  refine st_aload (pc' := 114) rfl rfl rfl ?_
  refine st_getfi (Or.inl rfl) rfl hs0 rfl (pc' := 117) rfl ?_
  refine st_iload (pc' := 118) rfl rfl rfl ?_
  exact st_call (pc' := 121) (as := [.int (h_i h r0 6), .int x1]) (rest := []) rfl rfl (Nat.le_of_ble_eq_true rfl) rfl rfl (Nat.le_of_ble_eq_true rfl) (kd := 0) (o := 12) rfl rfl rfl k
theorem B_Md_layTails_121 {d : Nat} {h : PH} {Q : PQ} {r0 : Nat} {x1 : Int32} {x2 : Int32} {s0 : Int32}  (kt : s0 = 0 → wpx d P_Md_layTails 166 [.ref r0, .int x1, .int x2] [] h Q) (kf : ¬ (s0 = 0) → wpx d P_Md_layTails 124 [.ref r0, .int x1, .int x2] [] h Q) : wpx d P_Md_layTails 121 [.ref r0, .int x1, .int x2] [.int s0] h Q := by
  exact st_if_eq (pc' := 124) rfl rfl kt kf
theorem B_Md_layTails_124 {d : Nat} {h : PH} {Q : PQ} {r0 : Nat} {x1 : Int32} {x2 : Int32} (hs0 : h_sh h r0 = some (0, 12)) (k : wpm d 171 [.int (h_i h r0 6), .int x2] h (fun r h' => wpx d P_Md_layTails 132 [.ref r0, .int x1, .int x2] (r.toList ++ []) h' Q)) : wpx d P_Md_layTails 124 [.ref r0, .int x1, .int x2] [] h Q := by
  refine st_aload (pc' := 125) rfl rfl rfl ?_
  refine st_getfi (Or.inl rfl) rfl hs0 rfl (pc' := 128) rfl ?_
  refine st_iload (pc' := 129) rfl rfl rfl ?_
  exact st_call (pc' := 132) (as := [.int (h_i h r0 6), .int x2]) (rest := []) rfl rfl (Nat.le_of_ble_eq_true rfl) rfl rfl (Nat.le_of_ble_eq_true rfl) (kd := 0) (o := 12) rfl rfl rfl k
theorem B_Md_layTails_132 {d : Nat} {h : PH} {Q : PQ} {r0 : Nat} {x1 : Int32} {x2 : Int32} {s0 : Int32}  (kt : s0 = 0 → wpx d P_Md_layTails 166 [.ref r0, .int x1, .int x2] [] h Q) (kf : ¬ (s0 = 0) → wpx d P_Md_layTails 135 [.ref r0, .int x1, .int x2] [] h Q) : wpx d P_Md_layTails 132 [.ref r0, .int x1, .int x2] [.int s0] h Q := by
  exact st_if_eq (pc' := 135) rfl rfl kt kf
theorem B_Md_layTails_135 {d : Nat} {h : PH} {Q : PQ} {r0 : Nat} {x1 : Int32} {x2 : Int32} (hs0 : h_sh h r0 = some (0, 12)) (k : wpm d 200 [.ref r0, .int x1, .int x2] h (fun r h' => wpx d P_Md_layTails 141 [.ref r0, .int x1, .int x2] (r.toList ++ []) h' Q)) : wpx d P_Md_layTails 135 [.ref r0, .int x1, .int x2] [] h Q := by
  refine st_aload (pc' := 136) rfl rfl rfl ?_
  refine st_iload (pc' := 137) rfl rfl rfl ?_
  refine st_iload (pc' := 138) rfl rfl rfl ?_
  exact st_call (pc' := 141) (as := [.ref r0, .int x1, .int x2]) (rest := []) rfl rfl (Nat.le_of_ble_eq_true rfl) rfl rfl (Nat.le_of_ble_eq_true rfl) (kd := 1) (o := 12) rfl rfl (beq_iff_eq.mpr hs0) k
theorem B_Md_layTails_141 {d : Nat} {h : PH} {Q : PQ} {r0 : Nat} {x1 : Int32} {x2 : Int32} {s0 : Int32}  (kt : s0 = 0 → wpx d P_Md_layTails 166 [.ref r0, .int x1, .int x2] [] h Q) (kf : ¬ (s0 = 0) → wpx d P_Md_layTails 144 [.ref r0, .int x1, .int x2] [] h Q) : wpx d P_Md_layTails 141 [.ref r0, .int x1, .int x2] [.int s0] h Q := by
  exact st_if_eq (pc' := 144) rfl rfl kt kf
theorem B_Md_layTails_144 {d : Nat} {h : PH} {Q : PQ} {r0 : Nat} {x1 : Int32} {x2 : Int32} {a0 : Nat} {a1 : Nat} {a2 : Nat} {n3 : Nat} {n4 : Nat} {n5 : Nat} (hs0 : h_sh h r0 = some (0, 12)) (hr1 : h_r h r0 29 = some a0) (hr2 : h_r h r0 30 = some a1) (hr3 : h_r h r0 2 = some a2) (hs4 : h_sh h a2 = some (1, n3)) (hb5 : vp_in x1 n3) (hs6 : h_sh h a1 = some (1, n4)) (hb7 : vp_in (((8 : Int32) * x2) + (h_i h a2 x1.toNatClampNeg)) n4) (hs8 : h_sh h a0 = some (1, n5)) (hb9 : vp_in (h_i h a1 (((8 : Int32) * x2) + (h_i h a2 x1.toNatClampNeg)).toNatClampNeg) n5) (k : wpx d P_Md_layTails 166 [.ref r0, .int x1, .int x2] [] (w_i h a0 ((h_i h a1 (((8 : Int32) * x2) + (h_i h a2 x1.toNatClampNeg)).toNatClampNeg).toNatClampNeg) 1) Q) : wpx d P_Md_layTails 144 [.ref r0, .int x1, .int x2] [] h Q := by
  refine st_aload (pc' := 145) rfl rfl rfl ?_
  refine st_getfr (x := some a0) (Or.inl rfl) rfl hs0 rfl hr1 (pc' := 148) rfl ?_
  refine st_aload (pc' := 149) rfl rfl rfl ?_
  refine st_getfr (x := some a1) (Or.inl rfl) rfl hs0 rfl hr2 (pc' := 152) rfl ?_
  refine st_ipush (pc' := 154) (v := 8) rfl rfl (by decide) ?_
  refine st_iload (pc' := 155) rfl rfl rfl ?_
  refine st_imul (pc' := 156) rfl rfl ?_
  refine st_aload (pc' := 157) rfl rfl rfl ?_
  refine st_getfr (x := some a2) (Or.inl rfl) rfl hs0 rfl hr3 (pc' := 160) rfl ?_
  refine st_iload (pc' := 161) rfl rfl rfl ?_
  refine st_iaload rfl hs4 hb5 (j := x1.toNatClampNeg) rfl (pc' := 162) rfl ?_
  refine st_iadd (pc' := 163) rfl rfl ?_
  refine st_iaload rfl hs6 hb7 (j := (((8 : Int32) * x2) + (h_i h a2 x1.toNatClampNeg)).toNatClampNeg) rfl (pc' := 164) rfl ?_
  refine st_ipush (pc' := 165) (v := 1) rfl rfl (by decide) ?_
  refine st_iastore rfl hs8 hb9 (j := (h_i h a1 (((8 : Int32) * x2) + (h_i h a2 x1.toNatClampNeg)).toNatClampNeg).toNatClampNeg) rfl (pc' := 166) rfl ?_
  exact k
theorem B_Md_layTails_166 {d : Nat} {h : PH} {Q : PQ} {r0 : Nat} {x1 : Int32} {x2 : Int32}  (k : wpx d P_Md_layTails 100 [.ref r0, .int x1, .int (x2 + 1)] [] h Q) : wpx d P_Md_layTails 166 [.ref r0, .int x1, .int x2] [] h Q := by
  refine st_iinc (pc' := 169) (v := 1) (ls' := [.ref r0, .int x1, .int (x2 + 1)]) rfl rfl rfl (by decide) rfl ?_
  exact st_goto rfl k
theorem B_Md_layTails_172 {d : Nat} {h : PH} {Q : PQ} {r0 : Nat} {x1 : Int32} {x2 : Int32}  (k : wpx d P_Md_layTails 90 [.ref r0, .int (x1 + 1), .int x2] [] h Q) : wpx d P_Md_layTails 172 [.ref r0, .int x1, .int x2] [] h Q := by
  refine st_iinc (pc' := 175) (v := 1) (ls' := [.ref r0, .int (x1 + 1), .int x2]) rfl rfl rfl (by decide) rfl ?_
  exact st_goto rfl k
theorem B_Md_layTails_178 {d : Nat} {h : PH} {Q : PQ} {r0 : Nat} {x1 : Int32} {v2 : Value} (hs0 : h_sh h r0 = some (0, 12)) (k : wpx d P_Md_layTails 190 [.ref r0, .int 1, v2] [] (w_i (w_i h r0 33 0) r0 34 (-1)) Q) : wpx d P_Md_layTails 178 [.ref r0, .int x1, v2] [] h Q := by
  refine st_aload (pc' := 179) rfl rfl rfl ?_
  refine st_ipush (pc' := 180) (v := 0) rfl rfl (by decide) ?_
  refine st_putf (h' := w_i h r0 33 0) (Or.inl rfl) rfl hs0 rfl rfl rfl (pc' := 183) rfl ?_
  refine st_aload (pc' := 184) rfl rfl rfl ?_
  refine st_ipush (pc' := 185) (v := (-1)) rfl rfl (by decide) ?_
  refine st_putf (h' := w_i (w_i h r0 33 0) r0 34 (-1)) (Or.inl rfl) rfl hs0 rfl rfl rfl (pc' := 188) rfl ?_
  refine st_ipush (pc' := 189) (v := 1) rfl rfl (by decide) ?_
  refine st_istore (pc' := 190) (ls' := [.ref r0, .int 1, v2]) rfl rfl (Nat.le_of_ble_eq_true rfl) rfl ?_
  exact k
theorem B_Md_layTails_190 {d : Nat} {h : PH} {Q : PQ} {r0 : Nat} {x1 : Int32} {v2 : Value}  (kt : x1 = 0 → wpx d P_Md_layTails 260 [.ref r0, .int x1, v2] [] h Q) (kf : ¬ (x1 = 0) → wpx d P_Md_layTails 194 [.ref r0, .int x1, v2] [] h Q) : wpx d P_Md_layTails 190 [.ref r0, .int x1, v2] [] h Q := by
  refine st_iload (pc' := 191) rfl rfl rfl ?_
  exact st_if_eq (pc' := 194) rfl rfl kt kf
theorem B_Md_layTails_194 {d : Nat} {h : PH} {Q : PQ} {r0 : Nat} {x1 : Int32} {v2 : Value}  (k : wpx d P_Md_layTails 198 [.ref r0, .int 0, .int 0] [] h Q) : wpx d P_Md_layTails 194 [.ref r0, .int x1, v2] [] h Q := by
  refine st_ipush (pc' := 195) (v := 0) rfl rfl (by decide) ?_
  refine st_istore (pc' := 196) (ls' := [.ref r0, .int 0, v2]) rfl rfl (Nat.le_of_ble_eq_true rfl) rfl ?_
  refine st_ipush (pc' := 197) (v := 0) rfl rfl (by decide) ?_
  refine st_istore (pc' := 198) (ls' := [.ref r0, .int 0, .int 0]) rfl rfl (Nat.le_of_ble_eq_true rfl) rfl ?_
  exact k
theorem B_Md_layTails_198 {d : Nat} {h : PH} {Q : PQ} {r0 : Nat} {x1 : Int32} {x2 : Int32} (hs0 : h_sh h r0 = some (0, 12)) (kt : (h_i h r0 32) ≤ x2 → wpx d P_Md_layTails 235 [.ref r0, .int x1, .int x2] [] h Q) (kf : ¬ ((h_i h r0 32) ≤ x2) → wpx d P_Md_layTails 206 [.ref r0, .int x1, .int x2] [] h Q) : wpx d P_Md_layTails 198 [.ref r0, .int x1, .int x2] [] h Q := by
  refine st_iload (pc' := 199) rfl rfl rfl ?_
  refine st_aload (pc' := 200) rfl rfl rfl ?_
  refine st_getfi (Or.inl rfl) rfl hs0 rfl (pc' := 203) rfl ?_
  exact st_icmp_ge (pc' := 206) rfl rfl kt kf
theorem B_Md_layTails_206 {d : Nat} {h : PH} {Q : PQ} {r0 : Nat} {x1 : Int32} {x2 : Int32} {a0 : Nat} {n1 : Nat} (hs0 : h_sh h r0 = some (0, 12)) (hr1 : h_r h r0 29 = some a0) (hs2 : h_sh h a0 = some (1, n1)) (hb3 : vp_in x2 n1) (kt : ¬ ((h_i h a0 x2.toNatClampNeg) = ((h_i h r0 33) + (1 : Int32))) → wpx d P_Md_layTails 226 [.ref r0, .int x1, .int x2] [.int x1] h Q) (kf : (h_i h a0 x2.toNatClampNeg) = ((h_i h r0 33) + (1 : Int32)) → wpx d P_Md_layTails 222 [.ref r0, .int x1, .int x2] [.int x1] h Q) : wpx d P_Md_layTails 206 [.ref r0, .int x1, .int x2] [] h Q := by
  refine st_iload (pc' := 207) rfl rfl rfl ?_
  refine st_aload (pc' := 208) rfl rfl rfl ?_
  refine st_getfr (x := some a0) (Or.inl rfl) rfl hs0 rfl hr1 (pc' := 211) rfl ?_
  refine st_iload (pc' := 212) rfl rfl rfl ?_
  refine st_iaload rfl hs2 hb3 (j := x2.toNatClampNeg) rfl (pc' := 213) rfl ?_
  refine st_aload (pc' := 214) rfl rfl rfl ?_
  refine st_getfi (Or.inl rfl) rfl hs0 rfl (pc' := 217) rfl ?_
  refine st_ipush (pc' := 218) (v := 1) rfl rfl (by decide) ?_
  refine st_iadd (pc' := 219) rfl rfl ?_
  exact st_icmp_ne (pc' := 222) rfl rfl kt kf
theorem B_Md_layTails_222 {d : Nat} {h : PH} {Q : PQ} {r0 : Nat} {x1 : Int32} {x2 : Int32} {s0 : Int32}  (k : wpx d P_Md_layTails 227 [.ref r0, .int x1, .int x2] [.int 1, .int s0] h Q) : wpx d P_Md_layTails 222 [.ref r0, .int x1, .int x2] [.int s0] h Q := by
  refine st_ipush (pc' := 223) (v := 1) rfl rfl (by decide) ?_
  exact st_goto rfl k
theorem B_Md_layTails_226 {d : Nat} {h : PH} {Q : PQ} {r0 : Nat} {x1 : Int32} {x2 : Int32} {s0 : Int32}  (k : wpx d P_Md_layTails 227 [.ref r0, .int x1, .int x2] [.int 0, .int s0] h Q) : wpx d P_Md_layTails 226 [.ref r0, .int x1, .int x2] [.int s0] h Q := by
  refine st_ipush (pc' := 227) (v := 0) rfl rfl (by decide) ?_
  exact k
theorem B_Md_layTails_227 {d : Nat} {h : PH} {Q : PQ} {r0 : Nat} {x1 : Int32} {x2 : Int32} {s0 : Int32} {s1 : Int32}  (k : wpx d P_Md_layTails 198 [.ref r0, .int (s0 ||| s1), .int (x2 + 1)] [] h Q) : wpx d P_Md_layTails 227 [.ref r0, .int x1, .int x2] [.int s1, .int s0] h Q := by
  refine st_ior (pc' := 228) rfl rfl ?_
  refine st_istore (pc' := 229) (ls' := [.ref r0, .int (s0 ||| s1), .int x2]) rfl rfl (Nat.le_of_ble_eq_true rfl) rfl ?_
  refine st_iinc (pc' := 232) (v := 1) (ls' := [.ref r0, .int (s0 ||| s1), .int (x2 + 1)]) rfl rfl rfl (by decide) rfl ?_
  exact st_goto rfl k
theorem B_Md_layTails_235 {d : Nat} {h : PH} {Q : PQ} {r0 : Nat} {x1 : Int32} {x2 : Int32}  (kt : x1 = 0 → wpx d P_Md_layTails 190 [.ref r0, .int x1, .int x2] [] h Q) (kf : ¬ (x1 = 0) → wpx d P_Md_layTails 239 [.ref r0, .int x1, .int x2] [] h Q) : wpx d P_Md_layTails 235 [.ref r0, .int x1, .int x2] [] h Q := by
  refine st_iload (pc' := 236) rfl rfl rfl ?_
  exact st_if_eq (pc' := 239) rfl rfl kt kf
theorem B_Md_layTails_239 {d : Nat} {h : PH} {Q : PQ} {r0 : Nat} {x1 : Int32} {x2 : Int32} (hs0 : h_sh h r0 = some (0, 12)) (k : wpm d 212 [.ref r0, .int (h_i (w_i h r0 33 ((h_i h r0 33) + (1 : Int32))) r0 33)] (w_i h r0 33 ((h_i h r0 33) + (1 : Int32))) (fun r h' => wpx d P_Md_layTails 257 [.ref r0, .int x1, .int x2] (r.toList ++ []) h' Q)) : wpx d P_Md_layTails 239 [.ref r0, .int x1, .int x2] [] h Q := by
  refine st_aload (pc' := 240) rfl rfl rfl ?_
  refine st_dup (pc' := 241) rfl rfl rfl ?_
  refine st_getfi (Or.inl rfl) rfl hs0 rfl (pc' := 244) rfl ?_
  refine st_ipush (pc' := 245) (v := 1) rfl rfl (by decide) ?_
  refine st_iadd (pc' := 246) rfl rfl ?_
  refine st_putf (h' := w_i h r0 33 ((h_i h r0 33) + (1 : Int32))) (Or.inl rfl) rfl hs0 rfl rfl rfl (pc' := 249) rfl ?_
  refine st_aload (pc' := 250) rfl rfl rfl ?_
  refine st_aload (pc' := 251) rfl rfl rfl ?_
  refine st_getfi (Or.inl rfl) rfl hs0 rfl (pc' := 254) rfl ?_
  exact st_call (pc' := 257) (as := [.ref r0, .int (h_i (w_i h r0 33 ((h_i h r0 33) + (1 : Int32))) r0 33)]) (rest := []) rfl rfl (Nat.le_of_ble_eq_true rfl) rfl rfl (Nat.le_of_ble_eq_true rfl) (kd := 1) (o := 12) rfl rfl (beq_iff_eq.mpr hs0) k
theorem B_Md_layTails_257 {d : Nat} {h : PH} {Q : PQ} {r0 : Nat} {x1 : Int32} {x2 : Int32}  (k : wpx d P_Md_layTails 190 [.ref r0, .int x1, .int x2] [] h Q) : wpx d P_Md_layTails 257 [.ref r0, .int x1, .int x2] [] h Q := by
  exact st_goto rfl k
theorem B_Md_layTails_260 {d : Nat} {h : PH} {Q : PQ} {r0 : Nat} {x1 : Int32} {v2 : Value}  (k : Q none h) : wpx d P_Md_layTails 260 [.ref r0, .int x1, v2] [] h Q := by
  exact st_return rfl k
theorem B_Md_goesOn_0 {d : Nat} {h : PH} {Q : PQ} {r0 : Nat} {x1 : Int32} {v2 : Value} {v3 : Value} {v4 : Value}  (k : wpx d P_Md_goesOn 2 [.ref r0, .int x1, .int 0, v3, v4] [] h Q) : wpx d P_Md_goesOn 0 [.ref r0, .int x1, v2, v3, v4] [] h Q := by
  refine st_ipush (pc' := 1) (v := 0) rfl rfl (by decide) ?_
  refine st_istore (pc' := 2) (ls' := [.ref r0, .int x1, .int 0, v3, v4]) rfl rfl (Nat.le_of_ble_eq_true rfl) rfl ?_
  exact k
theorem B_Md_goesOn_2 {d : Nat} {h : PH} {Q : PQ} {r0 : Nat} {x1 : Int32} {x2 : Int32} {v3 : Value} {v4 : Value} (hs0 : h_sh h r0 = some (0, 12)) (kt : (h_i h r0 32) ≤ x2 → wpx d P_Md_goesOn 99 [.ref r0, .int x1, .int x2, v3, v4] [] h Q) (kf : ¬ ((h_i h r0 32) ≤ x2) → wpx d P_Md_goesOn 10 [.ref r0, .int x1, .int x2, v3, v4] [] h Q) : wpx d P_Md_goesOn 2 [.ref r0, .int x1, .int x2, v3, v4] [] h Q := by
  refine st_iload (pc' := 3) rfl rfl rfl ?_
  refine st_aload (pc' := 4) rfl rfl rfl ?_
  refine st_getfi (Or.inl rfl) rfl hs0 rfl (pc' := 7) rfl ?_
  exact st_icmp_ge (pc' := 10) rfl rfl kt kf
theorem B_Md_goesOn_10 {d : Nat} {h : PH} {Q : PQ} {r0 : Nat} {x1 : Int32} {x2 : Int32} {v3 : Value} {v4 : Value}  (k : wpx d P_Md_goesOn 12 [.ref r0, .int x1, .int x2, .int 0, v4] [] h Q) : wpx d P_Md_goesOn 10 [.ref r0, .int x1, .int x2, v3, v4] [] h Q := by
  refine st_ipush (pc' := 11) (v := 0) rfl rfl (by decide) ?_
  refine st_istore (pc' := 12) (ls' := [.ref r0, .int x1, .int x2, .int 0, v4]) rfl rfl (Nat.le_of_ble_eq_true rfl) rfl ?_
  exact k
theorem B_Md_goesOn_12 {d : Nat} {h : PH} {Q : PQ} {r0 : Nat} {x1 : Int32} {x2 : Int32} {x3 : Int32} {v4 : Value} (hs0 : h_sh h r0 = some (0, 12)) (kt : (h_i h r0 4) ≤ x3 → wpx d P_Md_goesOn 93 [.ref r0, .int x1, .int x2, .int x3, v4] [] h Q) (kf : ¬ ((h_i h r0 4) ≤ x3) → wpx d P_Md_goesOn 20 [.ref r0, .int x1, .int x2, .int x3, v4] [] h Q) : wpx d P_Md_goesOn 12 [.ref r0, .int x1, .int x2, .int x3, v4] [] h Q := by
  refine st_iload (pc' := 13) rfl rfl rfl ?_
  refine st_aload (pc' := 14) rfl rfl rfl ?_
  refine st_getfi (Or.inl rfl) rfl hs0 rfl (pc' := 17) rfl ?_
  exact st_icmp_ge (pc' := 20) rfl rfl kt kf
theorem B_Md_goesOn_20 {d : Nat} {h : PH} {Q : PQ} {r0 : Nat} {x1 : Int32} {x2 : Int32} {x3 : Int32} {v4 : Value} {a0 : Nat} {n1 : Nat} (hs0 : h_sh h r0 = some (0, 12)) (hr1 : h_r h r0 29 = some a0) (hs2 : h_sh h a0 = some (1, n1)) (hb3 : vp_in x2 n1) (kt : ¬ ((h_i h a0 x2.toNatClampNeg) = x1) → wpx d P_Md_goesOn 93 [.ref r0, .int x1, .int x2, .int x3, v4] [] h Q) (kf : (h_i h a0 x2.toNatClampNeg) = x1 → wpx d P_Md_goesOn 30 [.ref r0, .int x1, .int x2, .int x3, v4] [] h Q) : wpx d P_Md_goesOn 20 [.ref r0, .int x1, .int x2, .int x3, v4] [] h Q := by
  refine st_aload (pc' := 21) rfl rfl rfl ?_
  refine st_getfr (x := some a0) (Or.inl rfl) rfl hs0 rfl hr1 (pc' := 24) rfl ?_
  refine st_iload (pc' := 25) rfl rfl rfl ?_
  refine st_iaload rfl hs2 hb3 (j := x2.toNatClampNeg) rfl (pc' := 26) rfl ?_
  refine st_iload (pc' := 27) rfl rfl rfl ?_
  exact st_icmp_ne (pc' := 30) rfl rfl kt kf
theorem B_Md_goesOn_30 {d : Nat} {h : PH} {Q : PQ} {r0 : Nat} {x1 : Int32} {x2 : Int32} {x3 : Int32} {v4 : Value} {a0 : Nat} {n1 : Nat} (hs0 : h_sh h r0 = some (0, 12)) (hr1 : h_r h r0 31 = some a0) (hs2 : h_sh h a0 = some (1, n1)) (hb3 : vp_in (((14 : Int32) * x2) + x3) n1) (kt : ¬ ((h_i h a0 (((14 : Int32) * x2) + x3).toNatClampNeg) = ((-2) : Int32)) → wpx d P_Md_goesOn 62 [.ref r0, .int x1, .int x2, .int x3, .int (h_i h a0 (((14 : Int32) * x2) + x3).toNatClampNeg)] [] h Q) (kf : (h_i h a0 (((14 : Int32) * x2) + x3).toNatClampNeg) = ((-2) : Int32) → wpx d P_Md_goesOn 50 [.ref r0, .int x1, .int x2, .int x3, .int (h_i h a0 (((14 : Int32) * x2) + x3).toNatClampNeg)] [] h Q) : wpx d P_Md_goesOn 30 [.ref r0, .int x1, .int x2, .int x3, v4] [] h Q := by
  refine st_aload (pc' := 31) rfl rfl rfl ?_
  refine st_getfr (x := some a0) (Or.inl rfl) rfl hs0 rfl hr1 (pc' := 34) rfl ?_
  refine st_ipush (pc' := 36) (v := 14) rfl rfl (by decide) ?_
  refine st_iload (pc' := 37) rfl rfl rfl ?_
  refine st_imul (pc' := 38) rfl rfl ?_
  refine st_iload (pc' := 39) rfl rfl rfl ?_
  refine st_iadd (pc' := 40) rfl rfl ?_
  refine st_iaload rfl hs2 hb3 (j := (((14 : Int32) * x2) + x3).toNatClampNeg) rfl (pc' := 41) rfl ?_
  refine st_istore (pc' := 43) (ls' := [.ref r0, .int x1, .int x2, .int x3, .int (h_i h a0 (((14 : Int32) * x2) + x3).toNatClampNeg)]) rfl rfl (Nat.le_of_ble_eq_true rfl) rfl ?_
  refine st_iload (pc' := 45) rfl rfl rfl ?_
  refine st_ipush (pc' := 47) (v := (-2)) rfl rfl (by decide) ?_
  exact st_icmp_ne (pc' := 50) rfl rfl kt kf
theorem B_Md_goesOn_50 {d : Nat} {h : PH} {Q : PQ} {r0 : Nat} {x1 : Int32} {x2 : Int32} {x3 : Int32} {x4 : Int32} (hs0 : h_sh h r0 = some (0, 12)) (kt : 0 ≤ (h_i h r0 34) → wpx d P_Md_goesOn 62 [.ref r0, .int x1, .int x2, .int x3, .int x4] [] h Q) (kf : ¬ (0 ≤ (h_i h r0 34)) → wpx d P_Md_goesOn 57 [.ref r0, .int x1, .int x2, .int x3, .int x4] [] h Q) : wpx d P_Md_goesOn 50 [.ref r0, .int x1, .int x2, .int x3, .int x4] [] h Q := by
  refine st_aload (pc' := 51) rfl rfl rfl ?_
  refine st_getfi (Or.inl rfl) rfl hs0 rfl (pc' := 54) rfl ?_
  exact st_if_ge (pc' := 57) rfl rfl kt kf
theorem B_Md_goesOn_57 {d : Nat} {h : PH} {Q : PQ} {r0 : Nat} {x1 : Int32} {x2 : Int32} {x3 : Int32} {x4 : Int32} (hs0 : h_sh h r0 = some (0, 12)) (k : wpx d P_Md_goesOn 62 [.ref r0, .int x1, .int x2, .int x3, .int x4] [] (w_i h r0 34 x1) Q) : wpx d P_Md_goesOn 57 [.ref r0, .int x1, .int x2, .int x3, .int x4] [] h Q := by
  refine st_aload (pc' := 58) rfl rfl rfl ?_
  refine st_iload (pc' := 59) rfl rfl rfl ?_
  refine st_putf (h' := w_i h r0 34 x1) (Or.inl rfl) rfl hs0 rfl rfl rfl (pc' := 62) rfl ?_
  exact k
theorem B_Md_goesOn_62 {d : Nat} {h : PH} {Q : PQ} {r0 : Nat} {x1 : Int32} {x2 : Int32} {x3 : Int32} {x4 : Int32}  (kt : x4 < 0 → wpx d P_Md_goesOn 87 [.ref r0, .int x1, .int x2, .int x3, .int x4] [] h Q) (kf : ¬ (x4 < 0) → wpx d P_Md_goesOn 67 [.ref r0, .int x1, .int x2, .int x3, .int x4] [] h Q) : wpx d P_Md_goesOn 62 [.ref r0, .int x1, .int x2, .int x3, .int x4] [] h Q := by
  refine st_iload (pc' := 64) rfl rfl rfl ?_
  exact st_if_lt (pc' := 67) rfl rfl kt kf
theorem B_Md_goesOn_67 {d : Nat} {h : PH} {Q : PQ} {r0 : Nat} {x1 : Int32} {x2 : Int32} {x3 : Int32} {x4 : Int32} {a0 : Nat} {n1 : Nat} (hs0 : h_sh h r0 = some (0, 12)) (hr1 : h_r h r0 29 = some a0) (hs2 : h_sh h a0 = some (1, n1)) (hb3 : vp_in x4 n1) (kt : ¬ ((h_i h a0 x4.toNatClampNeg) = 0) → wpx d P_Md_goesOn 87 [.ref r0, .int x1, .int x2, .int x3, .int x4] [] h Q) (kf : (h_i h a0 x4.toNatClampNeg) = 0 → wpx d P_Md_goesOn 77 [.ref r0, .int x1, .int x2, .int x3, .int x4] [] h Q) : wpx d P_Md_goesOn 67 [.ref r0, .int x1, .int x2, .int x3, .int x4] [] h Q := by
  refine st_aload (pc' := 68) rfl rfl rfl ?_
  refine st_getfr (x := some a0) (Or.inl rfl) rfl hs0 rfl hr1 (pc' := 71) rfl ?_
  refine st_iload (pc' := 73) rfl rfl rfl ?_
  refine st_iaload rfl hs2 hb3 (j := x4.toNatClampNeg) rfl (pc' := 74) rfl ?_
  exact st_if_ne (pc' := 77) rfl rfl kt kf
theorem B_Md_goesOn_77 {d : Nat} {h : PH} {Q : PQ} {r0 : Nat} {x1 : Int32} {x2 : Int32} {x3 : Int32} {x4 : Int32} {a0 : Nat} {n1 : Nat} (hs0 : h_sh h r0 = some (0, 12)) (hr1 : h_r h r0 29 = some a0) (hs2 : h_sh h a0 = some (1, n1)) (hb3 : vp_in x4 n1) (k : wpx d P_Md_goesOn 87 [.ref r0, .int x1, .int x2, .int x3, .int x4] [] (w_i h a0 x4.toNatClampNeg (x1 + (1 : Int32))) Q) : wpx d P_Md_goesOn 77 [.ref r0, .int x1, .int x2, .int x3, .int x4] [] h Q := by
  refine st_aload (pc' := 78) rfl rfl rfl ?_
  refine st_getfr (x := some a0) (Or.inl rfl) rfl hs0 rfl hr1 (pc' := 81) rfl ?_
  refine st_iload (pc' := 83) rfl rfl rfl ?_
  refine st_iload (pc' := 84) rfl rfl rfl ?_
  refine st_ipush (pc' := 85) (v := 1) rfl rfl (by decide) ?_
  refine st_iadd (pc' := 86) rfl rfl ?_
  refine st_iastore rfl hs2 hb3 (j := x4.toNatClampNeg) rfl (pc' := 87) rfl ?_
  exact k
theorem B_Md_goesOn_87 {d : Nat} {h : PH} {Q : PQ} {r0 : Nat} {x1 : Int32} {x2 : Int32} {x3 : Int32} {x4 : Int32}  (k : wpx d P_Md_goesOn 12 [.ref r0, .int x1, .int x2, .int (x3 + 1), .int x4] [] h Q) : wpx d P_Md_goesOn 87 [.ref r0, .int x1, .int x2, .int x3, .int x4] [] h Q := by
  refine st_iinc (pc' := 90) (v := 1) (ls' := [.ref r0, .int x1, .int x2, .int (x3 + 1), .int x4]) rfl rfl rfl (by decide) rfl ?_
  exact st_goto rfl k
theorem B_Md_goesOn_93 {d : Nat} {h : PH} {Q : PQ} {r0 : Nat} {x1 : Int32} {x2 : Int32} {x3 : Int32} {v4 : Value}  (k : wpx d P_Md_goesOn 2 [.ref r0, .int x1, .int (x2 + 1), .int x3, v4] [] h Q) : wpx d P_Md_goesOn 93 [.ref r0, .int x1, .int x2, .int x3, v4] [] h Q := by
  refine st_iinc (pc' := 96) (v := 1) (ls' := [.ref r0, .int x1, .int (x2 + 1), .int x3, v4]) rfl rfl rfl (by decide) rfl ?_
  exact st_goto rfl k
theorem B_Md_goesOn_99 {d : Nat} {h : PH} {Q : PQ} {r0 : Nat} {x1 : Int32} {x2 : Int32} {v3 : Value} {v4 : Value}  (k : Q none h) : wpx d P_Md_goesOn 99 [.ref r0, .int x1, .int x2, v3, v4] [] h Q := by
  exact st_return rfl k
theorem B_Md_parts_0 {d : Nat} {h : PH} {Q : PQ} {r0 : Nat} (hs0 : h_sh h r0 = some (0, 12)) (k : wpm d 211 [.ref r0] (w_i h r0 0 0) (fun r h' => wpx d P_Md_parts 9 [.ref r0] (r.toList ++ []) h' Q)) : wpx d P_Md_parts 0 [.ref r0] [] h Q := by
  refine st_aload (pc' := 1) rfl rfl rfl ?_
  refine st_ipush (pc' := 2) (v := 0) rfl rfl (by decide) ?_
  refine st_putf (h' := w_i h r0 0 0) (Or.inl rfl) rfl hs0 rfl rfl rfl (pc' := 5) rfl ?_
  refine st_aload (pc' := 6) rfl rfl rfl ?_
  exact st_call (pc' := 9) (as := [.ref r0]) (rest := []) rfl rfl (Nat.le_of_ble_eq_true rfl) rfl rfl (Nat.le_of_ble_eq_true rfl) (kd := 1) (o := 12) rfl rfl (beq_iff_eq.mpr hs0) k
theorem B_Md_parts_9 {d : Nat} {h : PH} {Q : PQ} {r0 : Nat} (hs0 : h_sh h r0 = some (0, 12)) (kt : 0 ≤ (h_i h r0 34) → wpx d P_Md_parts 20 [.ref r0] [] h Q) (kf : ¬ (0 ≤ (h_i h r0 34)) → wpx d P_Md_parts 16 [.ref r0] [] h Q) : wpx d P_Md_parts 9 [.ref r0] [] h Q := by
  refine st_aload (pc' := 10) rfl rfl rfl ?_
  refine st_getfi (Or.inl rfl) rfl hs0 rfl (pc' := 13) rfl ?_
  exact st_if_ge (pc' := 16) rfl rfl kt kf
theorem B_Md_parts_16 {d : Nat} {h : PH} {Q : PQ} {r0 : Nat}  (k : wpx d P_Md_parts 21 [.ref r0] [.int 1] h Q) : wpx d P_Md_parts 16 [.ref r0] [] h Q := by
  refine st_ipush (pc' := 17) (v := 1) rfl rfl (by decide) ?_
  exact st_goto rfl k
theorem B_Md_parts_20 {d : Nat} {h : PH} {Q : PQ} {r0 : Nat}  (k : wpx d P_Md_parts 21 [.ref r0] [.int 0] h Q) : wpx d P_Md_parts 20 [.ref r0] [] h Q := by
  refine st_ipush (pc' := 21) (v := 0) rfl rfl (by decide) ?_
  exact k
theorem B_Md_parts_21 {d : Nat} {h : PH} {Q : PQ} {r0 : Nat} {s0 : Int32}  (k : Q (some (.int s0)) h) : wpx d P_Md_parts 21 [.ref r0] [.int s0] h Q := by
  exact st_ireturn (ty := .int) rfl rfl rfl k
theorem B_Md_tails_0 {d : Nat} {h : PH} {Q : PQ} {r0 : Nat} {x1 : Int32} {v2 : Value} {v3 : Value} (hs0 : h_sh h r0 = some (0, 12)) (k : wpm d 211 [.ref r0] (w_i h r0 0 0) (fun r h' => wpx d P_Md_tails 9 [.ref r0, .int x1, v2, v3] (r.toList ++ []) h' Q)) : wpx d P_Md_tails 0 [.ref r0, .int x1, v2, v3] [] h Q := by
  refine st_aload (pc' := 1) rfl rfl rfl ?_
  refine st_ipush (pc' := 2) (v := 0) rfl rfl (by decide) ?_
  refine st_putf (h' := w_i h r0 0 0) (Or.inl rfl) rfl hs0 rfl rfl rfl (pc' := 5) rfl ?_
  refine st_aload (pc' := 6) rfl rfl rfl ?_
  exact st_call (pc' := 9) (as := [.ref r0]) (rest := []) rfl rfl (Nat.le_of_ble_eq_true rfl) rfl rfl (Nat.le_of_ble_eq_true rfl) (kd := 1) (o := 12) rfl rfl (beq_iff_eq.mpr hs0) k
theorem B_Md_tails_9 {d : Nat} {h : PH} {Q : PQ} {r0 : Nat} {x1 : Int32} {v2 : Value} {v3 : Value}  (kt : ¬ (x1 = ((-1) : Int32)) → wpx d P_Md_tails 19 [.ref r0, .int x1, v2, v3] [] h Q) (kf : x1 = ((-1) : Int32) → wpx d P_Md_tails 14 [.ref r0, .int x1, v2, v3] [] h Q) : wpx d P_Md_tails 9 [.ref r0, .int x1, v2, v3] [] h Q := by
  refine st_iload (pc' := 10) rfl rfl rfl ?_
  refine st_ipush (pc' := 11) (v := (-1)) rfl rfl (by decide) ?_
  exact st_icmp_ne (pc' := 14) rfl rfl kt kf
theorem B_Md_tails_14 {d : Nat} {h : PH} {Q : PQ} {r0 : Nat} {x1 : Int32} {v2 : Value} {v3 : Value} (hs0 : h_sh h r0 = some (0, 12)) (k : Q (some (.int (h_i h r0 33))) h) : wpx d P_Md_tails 14 [.ref r0, .int x1, v2, v3] [] h Q := by
  refine st_aload (pc' := 15) rfl rfl rfl ?_
  refine st_getfi (Or.inl rfl) rfl hs0 rfl (pc' := 18) rfl ?_
  exact st_ireturn (ty := .int) rfl rfl rfl k
theorem B_Md_tails_19 {d : Nat} {h : PH} {Q : PQ} {r0 : Nat} {x1 : Int32} {v2 : Value} {v3 : Value}  (k : wpx d P_Md_tails 23 [.ref r0, .int x1, .int 0, .int 0] [] h Q) : wpx d P_Md_tails 19 [.ref r0, .int x1, v2, v3] [] h Q := by
  refine st_ipush (pc' := 20) (v := 0) rfl rfl (by decide) ?_
  refine st_istore (pc' := 21) (ls' := [.ref r0, .int x1, .int 0, v3]) rfl rfl (Nat.le_of_ble_eq_true rfl) rfl ?_
  refine st_ipush (pc' := 22) (v := 0) rfl rfl (by decide) ?_
  refine st_istore (pc' := 23) (ls' := [.ref r0, .int x1, .int 0, .int 0]) rfl rfl (Nat.le_of_ble_eq_true rfl) rfl ?_
  exact k
theorem B_Md_tails_23 {d : Nat} {h : PH} {Q : PQ} {r0 : Nat} {x1 : Int32} {x2 : Int32} {x3 : Int32} (hs0 : h_sh h r0 = some (0, 12)) (kt : (h_i h r0 32) ≤ x3 → wpx d P_Md_tails 59 [.ref r0, .int x1, .int x2, .int x3] [] h Q) (kf : ¬ ((h_i h r0 32) ≤ x3) → wpx d P_Md_tails 31 [.ref r0, .int x1, .int x2, .int x3] [] h Q) : wpx d P_Md_tails 23 [.ref r0, .int x1, .int x2, .int x3] [] h Q := by
  refine st_iload (pc' := 24) rfl rfl rfl ?_
  refine st_aload (pc' := 25) rfl rfl rfl ?_
  refine st_getfi (Or.inl rfl) rfl hs0 rfl (pc' := 28) rfl ?_
  exact st_icmp_ge (pc' := 31) rfl rfl kt kf
theorem B_Md_tails_31 {d : Nat} {h : PH} {Q : PQ} {r0 : Nat} {x1 : Int32} {x2 : Int32} {x3 : Int32}  (kt : x1 ≤ 0 → wpx d P_Md_tails 50 [.ref r0, .int x1, .int x2, .int x3] [.int x2] h Q) (kf : ¬ (x1 ≤ 0) → wpx d P_Md_tails 36 [.ref r0, .int x1, .int x2, .int x3] [.int x2] h Q) : wpx d P_Md_tails 31 [.ref r0, .int x1, .int x2, .int x3] [] h Q := by
  refine st_iload (pc' := 32) rfl rfl rfl ?_
  refine st_iload (pc' := 33) rfl rfl rfl ?_
  exact st_if_le (pc' := 36) rfl rfl kt kf
theorem B_Md_tails_36 {d : Nat} {h : PH} {Q : PQ} {r0 : Nat} {x1 : Int32} {x2 : Int32} {x3 : Int32} {s0 : Int32} {a0 : Nat} {n1 : Nat} (hs0 : h_sh h r0 = some (0, 12)) (hr1 : h_r h r0 29 = some a0) (hs2 : h_sh h a0 = some (1, n1)) (hb3 : vp_in x3 n1) (kt : ¬ ((h_i h a0 x3.toNatClampNeg) = x1) → wpx d P_Md_tails 50 [.ref r0, .int x1, .int x2, .int x3] [.int s0] h Q) (kf : (h_i h a0 x3.toNatClampNeg) = x1 → wpx d P_Md_tails 46 [.ref r0, .int x1, .int x2, .int x3] [.int s0] h Q) : wpx d P_Md_tails 36 [.ref r0, .int x1, .int x2, .int x3] [.int s0] h Q := by
  refine st_aload (pc' := 37) rfl rfl rfl ?_
  refine st_getfr (x := some a0) (Or.inl rfl) rfl hs0 rfl hr1 (pc' := 40) rfl ?_
  refine st_iload (pc' := 41) rfl rfl rfl ?_
  refine st_iaload rfl hs2 hb3 (j := x3.toNatClampNeg) rfl (pc' := 42) rfl ?_
  refine st_iload (pc' := 43) rfl rfl rfl ?_
  exact st_icmp_ne (pc' := 46) rfl rfl kt kf
theorem B_Md_tails_46 {d : Nat} {h : PH} {Q : PQ} {r0 : Nat} {x1 : Int32} {x2 : Int32} {x3 : Int32} {s0 : Int32}  (k : wpx d P_Md_tails 51 [.ref r0, .int x1, .int x2, .int x3] [.int 1, .int s0] h Q) : wpx d P_Md_tails 46 [.ref r0, .int x1, .int x2, .int x3] [.int s0] h Q := by
  refine st_ipush (pc' := 47) (v := 1) rfl rfl (by decide) ?_
  exact st_goto rfl k
theorem B_Md_tails_50 {d : Nat} {h : PH} {Q : PQ} {r0 : Nat} {x1 : Int32} {x2 : Int32} {x3 : Int32} {s0 : Int32}  (k : wpx d P_Md_tails 51 [.ref r0, .int x1, .int x2, .int x3] [.int 0, .int s0] h Q) : wpx d P_Md_tails 50 [.ref r0, .int x1, .int x2, .int x3] [.int s0] h Q := by
  refine st_ipush (pc' := 51) (v := 0) rfl rfl (by decide) ?_
  exact k
theorem B_Md_tails_51 {d : Nat} {h : PH} {Q : PQ} {r0 : Nat} {x1 : Int32} {x2 : Int32} {x3 : Int32} {s0 : Int32} {s1 : Int32}  (k : wpx d P_Md_tails 23 [.ref r0, .int x1, .int (s0 + s1), .int (x3 + 1)] [] h Q) : wpx d P_Md_tails 51 [.ref r0, .int x1, .int x2, .int x3] [.int s1, .int s0] h Q := by
  refine st_iadd (pc' := 52) rfl rfl ?_
  refine st_istore (pc' := 53) (ls' := [.ref r0, .int x1, .int (s0 + s1), .int x3]) rfl rfl (Nat.le_of_ble_eq_true rfl) rfl ?_
  refine st_iinc (pc' := 56) (v := 1) (ls' := [.ref r0, .int x1, .int (s0 + s1), .int (x3 + 1)]) rfl rfl rfl (by decide) rfl ?_
  exact st_goto rfl k
theorem B_Md_tails_59 {d : Nat} {h : PH} {Q : PQ} {r0 : Nat} {x1 : Int32} {x2 : Int32} {x3 : Int32}  (k : Q (some (.int x2)) h) : wpx d P_Md_tails 59 [.ref r0, .int x1, .int x2, .int x3] [] h Q := by
  refine st_iload (pc' := 60) rfl rfl rfl ?_
  exact st_ireturn (ty := .int) rfl rfl rfl k
theorem B_Md_tail_0 {d : Nat} {h : PH} {Q : PQ} {r0 : Nat} {x1 : Int32} {x2 : Int32} {x3 : Int32} {v4 : Value} {v5 : Value} (hs0 : h_sh h r0 = some (0, 12)) (k : wpm d 211 [.ref r0] (w_i h r0 0 0) (fun r h' => wpx d P_Md_tail 9 [.ref r0, .int x1, .int x2, .int x3, v4, v5] (r.toList ++ []) h' Q)) : wpx d P_Md_tail 0 [.ref r0, .int x1, .int x2, .int x3, v4, v5] [] h Q := by
  refine st_aload (pc' := 1) rfl rfl rfl ?_
  refine st_ipush (pc' := 2) (v := 0) rfl rfl (by decide) ?_
  refine st_putf (h' := w_i h r0 0 0) (Or.inl rfl) rfl hs0 rfl rfl rfl (pc' := 5) rfl ?_
  refine st_aload (pc' := 6) rfl rfl rfl ?_
  exact st_call (pc' := 9) (as := [.ref r0]) (rest := []) rfl rfl (Nat.le_of_ble_eq_true rfl) rfl rfl (Nat.le_of_ble_eq_true rfl) (kd := 1) (o := 12) rfl rfl (beq_iff_eq.mpr hs0) k
theorem B_Md_tail_9 {d : Nat} {h : PH} {Q : PQ} {r0 : Nat} {x1 : Int32} {x2 : Int32} {x3 : Int32} {v4 : Value} {v5 : Value}  (k : wpx d P_Md_tail 15 [.ref r0, .int x1, .int x2, .int x3, .int 0, .int 0] [] h Q) : wpx d P_Md_tail 9 [.ref r0, .int x1, .int x2, .int x3, v4, v5] [] h Q := by
  refine st_ipush (pc' := 10) (v := 0) rfl rfl (by decide) ?_
  refine st_istore (pc' := 12) (ls' := [.ref r0, .int x1, .int x2, .int x3, .int 0, v5]) rfl rfl (Nat.le_of_ble_eq_true rfl) rfl ?_
  refine st_ipush (pc' := 13) (v := 0) rfl rfl (by decide) ?_
  refine st_istore (pc' := 15) (ls' := [.ref r0, .int x1, .int x2, .int x3, .int 0, .int 0]) rfl rfl (Nat.le_of_ble_eq_true rfl) rfl ?_
  exact k
theorem B_Md_tail_15 {d : Nat} {h : PH} {Q : PQ} {r0 : Nat} {x1 : Int32} {x2 : Int32} {x3 : Int32} {x4 : Int32} {x5 : Int32} (hs0 : h_sh h r0 = some (0, 12)) (kt : (h_i h r0 32) ≤ x5 → wpx d P_Md_tail 85 [.ref r0, .int x1, .int x2, .int x3, .int x4, .int x5] [] h Q) (kf : ¬ ((h_i h r0 32) ≤ x5) → wpx d P_Md_tail 24 [.ref r0, .int x1, .int x2, .int x3, .int x4, .int x5] [] h Q) : wpx d P_Md_tail 15 [.ref r0, .int x1, .int x2, .int x3, .int x4, .int x5] [] h Q := by
  refine st_iload (pc' := 17) rfl rfl rfl ?_
  refine st_aload (pc' := 18) rfl rfl rfl ?_
  refine st_getfi (Or.inl rfl) rfl hs0 rfl (pc' := 21) rfl ?_
  exact st_icmp_ge (pc' := 24) rfl rfl kt kf
theorem B_Md_tail_24 {d : Nat} {h : PH} {Q : PQ} {r0 : Nat} {x1 : Int32} {x2 : Int32} {x3 : Int32} {x4 : Int32} {x5 : Int32}  (kt : x1 ≤ 0 → wpx d P_Md_tail 79 [.ref r0, .int x1, .int x2, .int x3, .int x4, .int x5] [] h Q) (kf : ¬ (x1 ≤ 0) → wpx d P_Md_tail 28 [.ref r0, .int x1, .int x2, .int x3, .int x4, .int x5] [] h Q) : wpx d P_Md_tail 24 [.ref r0, .int x1, .int x2, .int x3, .int x4, .int x5] [] h Q := by
  refine st_iload (pc' := 25) rfl rfl rfl ?_
  exact st_if_le (pc' := 28) rfl rfl kt kf
theorem B_Md_tail_28 {d : Nat} {h : PH} {Q : PQ} {r0 : Nat} {x1 : Int32} {x2 : Int32} {x3 : Int32} {x4 : Int32} {x5 : Int32} {a0 : Nat} {n1 : Nat} (hs0 : h_sh h r0 = some (0, 12)) (hr1 : h_r h r0 29 = some a0) (hs2 : h_sh h a0 = some (1, n1)) (hb3 : vp_in x5 n1) (kt : (h_i h a0 x5.toNatClampNeg) = x1 → wpx d P_Md_tail 42 [.ref r0, .int x1, .int x2, .int x3, .int x4, .int x5] [] h Q) (kf : ¬ ((h_i h a0 x5.toNatClampNeg) = x1) → wpx d P_Md_tail 39 [.ref r0, .int x1, .int x2, .int x3, .int x4, .int x5] [] h Q) : wpx d P_Md_tail 28 [.ref r0, .int x1, .int x2, .int x3, .int x4, .int x5] [] h Q := by
  refine st_aload (pc' := 29) rfl rfl rfl ?_
  refine st_getfr (x := some a0) (Or.inl rfl) rfl hs0 rfl hr1 (pc' := 32) rfl ?_
  refine st_iload (pc' := 34) rfl rfl rfl ?_
  refine st_iaload rfl hs2 hb3 (j := x5.toNatClampNeg) rfl (pc' := 35) rfl ?_
  refine st_iload (pc' := 36) rfl rfl rfl ?_
  exact st_icmp_eq (pc' := 39) rfl rfl kt kf
theorem B_Md_tail_39 {d : Nat} {h : PH} {Q : PQ} {r0 : Nat} {x1 : Int32} {x2 : Int32} {x3 : Int32} {x4 : Int32} {x5 : Int32}  (k : wpx d P_Md_tail 79 [.ref r0, .int x1, .int x2, .int x3, .int x4, .int x5] [] h Q) : wpx d P_Md_tail 39 [.ref r0, .int x1, .int x2, .int x3, .int x4, .int x5] [] h Q := by
  exact st_goto rfl k
theorem B_Md_tail_42 {d : Nat} {h : PH} {Q : PQ} {r0 : Nat} {x1 : Int32} {x2 : Int32} {x3 : Int32} {x4 : Int32} {x5 : Int32}  (kt : ¬ (x4 = x2) → wpx d P_Md_tail 76 [.ref r0, .int x1, .int x2, .int x3, .int x4, .int x5] [] h Q) (kf : x4 = x2 → wpx d P_Md_tail 48 [.ref r0, .int x1, .int x2, .int x3, .int x4, .int x5] [] h Q) : wpx d P_Md_tail 42 [.ref r0, .int x1, .int x2, .int x3, .int x4, .int x5] [] h Q := by
  refine st_iload (pc' := 44) rfl rfl rfl ?_
  refine st_iload (pc' := 45) rfl rfl rfl ?_
  exact st_icmp_ne (pc' := 48) rfl rfl kt kf
theorem B_Md_tail_48 {d : Nat} {h : PH} {Q : PQ} {r0 : Nat} {x1 : Int32} {x2 : Int32} {x3 : Int32} {x4 : Int32} {x5 : Int32} (hs0 : h_sh h r0 = some (0, 12)) (k : wpm d 206 [.ref r0, .int x5] h (fun r h' => wpx d P_Md_tail 56 [.ref r0, .int x1, .int x2, .int x3, .int x4, .int x5] (r.toList ++ [.int 0, .int x3]) h' Q)) : wpx d P_Md_tail 48 [.ref r0, .int x1, .int x2, .int x3, .int x4, .int x5] [] h Q := by
  refine st_iload (pc' := 49) rfl rfl rfl ?_
  refine st_ipush (pc' := 50) (v := 0) rfl rfl (by decide) ?_
  refine st_aload (pc' := 51) rfl rfl rfl ?_
  refine st_iload (pc' := 53) rfl rfl rfl ?_
  exact st_call (pc' := 56) (as := [.ref r0, .int x5]) (rest := [.int 0, .int x3]) rfl rfl (Nat.le_of_ble_eq_true rfl) rfl rfl (Nat.le_of_ble_eq_true rfl) (kd := 1) (o := 12) rfl rfl (beq_iff_eq.mpr hs0) k
theorem B_Md_tail_56 {d : Nat} {h : PH} {Q : PQ} {r0 : Nat} {x1 : Int32} {x2 : Int32} {x3 : Int32} {x4 : Int32} {x5 : Int32} {s0 : Int32} {s1 : Int32} {s2 : Int32}  (k : wpm d 170 [.int s0, .int s1, .int (s2 - (1 : Int32))] h (fun r h' => wpx d P_Md_tail 61 [.ref r0, .int x1, .int x2, .int x3, .int x4, .int x5] (r.toList ++ []) h' Q)) : wpx d P_Md_tail 56 [.ref r0, .int x1, .int x2, .int x3, .int x4, .int x5] [.int s2, .int s1, .int s0] h Q := by
  refine st_ipush (pc' := 57) (v := 1) rfl rfl (by decide) ?_
  refine st_isub (pc' := 58) rfl rfl ?_
  exact st_call (pc' := 61) (as := [.int s0, .int s1, .int (s2 - (1 : Int32))]) (rest := []) rfl rfl (Nat.le_of_ble_eq_true rfl) rfl rfl (Nat.le_of_ble_eq_true rfl) (kd := 0) (o := 12) rfl rfl rfl k
theorem B_Md_tail_61 {d : Nat} {h : PH} {Q : PQ} {r0 : Nat} {x1 : Int32} {x2 : Int32} {x3 : Int32} {x4 : Int32} {x5 : Int32} {s0 : Int32}  (kt : s0 = 0 → wpx d P_Md_tail 74 [.ref r0, .int x1, .int x2, .int x3, .int x4, .int x5] [] h Q) (kf : ¬ (s0 = 0) → wpx d P_Md_tail 64 [.ref r0, .int x1, .int x2, .int x3, .int x4, .int x5] [] h Q) : wpx d P_Md_tail 61 [.ref r0, .int x1, .int x2, .int x3, .int x4, .int x5] [.int s0] h Q := by
  exact st_if_eq (pc' := 64) rfl rfl kt kf
theorem B_Md_tail_64 {d : Nat} {h : PH} {Q : PQ} {r0 : Nat} {x1 : Int32} {x2 : Int32} {x3 : Int32} {x4 : Int32} {x5 : Int32} (hs0 : h_sh h r0 = some (0, 12)) (k : wpm d 207 [.ref r0, .int x5, .int x3] h (fun r h' => wpx d P_Md_tail 71 [.ref r0, .int x1, .int x2, .int x3, .int x4, .int x5] (r.toList ++ []) h' Q)) : wpx d P_Md_tail 64 [.ref r0, .int x1, .int x2, .int x3, .int x4, .int x5] [] h Q := by
  refine st_aload (pc' := 65) rfl rfl rfl ?_
  refine st_iload (pc' := 67) rfl rfl rfl ?_
  refine st_iload (pc' := 68) rfl rfl rfl ?_
  exact st_call (pc' := 71) (as := [.ref r0, .int x5, .int x3]) (rest := []) rfl rfl (Nat.le_of_ble_eq_true rfl) rfl rfl (Nat.le_of_ble_eq_true rfl) (kd := 1) (o := 12) rfl rfl (beq_iff_eq.mpr hs0) k
theorem B_Md_tail_71 {d : Nat} {h : PH} {Q : PQ} {r0 : Nat} {x1 : Int32} {x2 : Int32} {x3 : Int32} {x4 : Int32} {x5 : Int32} {s0 : Int32}  (k : wpx d P_Md_tail 75 [.ref r0, .int x1, .int x2, .int x3, .int x4, .int x5] [.int s0] h Q) : wpx d P_Md_tail 71 [.ref r0, .int x1, .int x2, .int x3, .int x4, .int x5] [.int s0] h Q := by
  exact st_goto rfl k
theorem B_Md_tail_74 {d : Nat} {h : PH} {Q : PQ} {r0 : Nat} {x1 : Int32} {x2 : Int32} {x3 : Int32} {x4 : Int32} {x5 : Int32}  (k : wpx d P_Md_tail 75 [.ref r0, .int x1, .int x2, .int x3, .int x4, .int x5] [.int (-1)] h Q) : wpx d P_Md_tail 74 [.ref r0, .int x1, .int x2, .int x3, .int x4, .int x5] [] h Q := by
  refine st_ipush (pc' := 75) (v := (-1)) rfl rfl (by decide) ?_
  exact k
theorem B_Md_tail_75 {d : Nat} {h : PH} {Q : PQ} {r0 : Nat} {x1 : Int32} {x2 : Int32} {x3 : Int32} {x4 : Int32} {x5 : Int32} {s0 : Int32}  (k : Q (some (.int s0)) h) : wpx d P_Md_tail 75 [.ref r0, .int x1, .int x2, .int x3, .int x4, .int x5] [.int s0] h Q := by
  exact st_ireturn (ty := .int) rfl rfl rfl k
theorem B_Md_tail_76 {d : Nat} {h : PH} {Q : PQ} {r0 : Nat} {x1 : Int32} {x2 : Int32} {x3 : Int32} {x4 : Int32} {x5 : Int32}  (k : wpx d P_Md_tail 79 [.ref r0, .int x1, .int x2, .int x3, .int (x4 + 1), .int x5] [] h Q) : wpx d P_Md_tail 76 [.ref r0, .int x1, .int x2, .int x3, .int x4, .int x5] [] h Q := by
  refine st_iinc (pc' := 79) (v := 1) (ls' := [.ref r0, .int x1, .int x2, .int x3, .int (x4 + 1), .int x5]) rfl rfl rfl (by decide) rfl ?_
  exact k
theorem B_Md_tail_79 {d : Nat} {h : PH} {Q : PQ} {r0 : Nat} {x1 : Int32} {x2 : Int32} {x3 : Int32} {x4 : Int32} {x5 : Int32}  (k : wpx d P_Md_tail 15 [.ref r0, .int x1, .int x2, .int x3, .int x4, .int (x5 + 1)] [] h Q) : wpx d P_Md_tail 79 [.ref r0, .int x1, .int x2, .int x3, .int x4, .int x5] [] h Q := by
  refine st_iinc (pc' := 82) (v := 1) (ls' := [.ref r0, .int x1, .int x2, .int x3, .int x4, .int (x5 + 1)]) rfl rfl rfl (by decide) rfl ?_
  exact st_goto rfl k
theorem B_Md_tail_85 {d : Nat} {h : PH} {Q : PQ} {r0 : Nat} {x1 : Int32} {x2 : Int32} {x3 : Int32} {x4 : Int32} {x5 : Int32}  (k : Q (some (.int (-1))) h) : wpx d P_Md_tail 85 [.ref r0, .int x1, .int x2, .int x3, .int x4, .int x5] [] h Q := by
  refine st_ipush (pc' := 86) (v := (-1)) rfl rfl (by decide) ?_
  exact st_ireturn (ty := .int) rfl rfl rfl k
theorem B_Md_doubt_0 {d : Nat} {h : PH} {Q : PQ} {r0 : Nat} (hs0 : h_sh h r0 = some (0, 12)) (k : wpm d 211 [.ref r0] (w_i h r0 0 0) (fun r h' => wpx d P_Md_doubt 9 [.ref r0] (r.toList ++ []) h' Q)) : wpx d P_Md_doubt 0 [.ref r0] [] h Q := by
  refine st_aload (pc' := 1) rfl rfl rfl ?_
  refine st_ipush (pc' := 2) (v := 0) rfl rfl (by decide) ?_
  refine st_putf (h' := w_i h r0 0 0) (Or.inl rfl) rfl hs0 rfl rfl rfl (pc' := 5) rfl ?_
  refine st_aload (pc' := 6) rfl rfl rfl ?_
  exact st_call (pc' := 9) (as := [.ref r0]) (rest := []) rfl rfl (Nat.le_of_ble_eq_true rfl) rfl rfl (Nat.le_of_ble_eq_true rfl) (kd := 1) (o := 12) rfl rfl (beq_iff_eq.mpr hs0) k
theorem B_Md_doubt_9 {d : Nat} {h : PH} {Q : PQ} {r0 : Nat} (hs0 : h_sh h r0 = some (0, 12)) (k : Q (some (.int (h_i h r0 34))) h) : wpx d P_Md_doubt 9 [.ref r0] [] h Q := by
  refine st_aload (pc' := 10) rfl rfl rfl ?_
  refine st_getfi (Or.inl rfl) rfl hs0 rfl (pc' := 13) rfl ?_
  exact st_ireturn (ty := .int) rfl rfl rfl k
theorem B_Md_tries_0 {d : Nat} {h : PH} {Q : PQ} {r0 : Nat} {x1 : Int32} {x2 : Int32} {v3 : Value}  (k : wpx d P_Md_tries 2 [.ref r0, .int x1, .int x2, .int x2] [] h Q) : wpx d P_Md_tries 0 [.ref r0, .int x1, .int x2, v3] [] h Q := by
  refine st_iload (pc' := 1) rfl rfl rfl ?_
  refine st_istore (pc' := 2) (ls' := [.ref r0, .int x1, .int x2, .int x2]) rfl rfl (Nat.le_of_ble_eq_true rfl) rfl ?_
  exact k
theorem B_Md_tries_2 {d : Nat} {h : PH} {Q : PQ} {r0 : Nat} {x1 : Int32} {x2 : Int32} {x3 : Int32} {a0 : Nat} {n1 : Nat} (hs0 : h_sh h r0 = some (0, 12)) (hr1 : h_r h r0 2 = some a0) (hs2 : h_sh h a0 = some (1, n1)) (hb3 : vp_in x1 n1) (kt : (h_i h a0 x1.toNatClampNeg) ≤ x3 → wpx d P_Md_tries 43 [.ref r0, .int x1, .int x2, .int x3] [] h Q) (kf : ¬ ((h_i h a0 x1.toNatClampNeg) ≤ x3) → wpx d P_Md_tries 12 [.ref r0, .int x1, .int x2, .int x3] [] h Q) : wpx d P_Md_tries 2 [.ref r0, .int x1, .int x2, .int x3] [] h Q := by
  refine st_iload (pc' := 3) rfl rfl rfl ?_
  refine st_aload (pc' := 4) rfl rfl rfl ?_
  refine st_getfr (x := some a0) (Or.inl rfl) rfl hs0 rfl hr1 (pc' := 7) rfl ?_
  refine st_iload (pc' := 8) rfl rfl rfl ?_
  refine st_iaload rfl hs2 hb3 (j := x1.toNatClampNeg) rfl (pc' := 9) rfl ?_
  exact st_icmp_ge (pc' := 12) rfl rfl kt kf
theorem B_Md_tries_12 {d : Nat} {h : PH} {Q : PQ} {r0 : Nat} {x1 : Int32} {x2 : Int32} {x3 : Int32} {a0 : Nat} (hs0 : h_sh h r0 = some (0, 12)) (hr1 : h_r h r0 37 = some a0) (k : wpm d 175 [.ref r0, .int x1, .int x3] h (fun r h' => wpx d P_Md_tries 26 [.ref r0, .int x1, .int x2, .int x3] (r.toList ++ [.int (h_i h r0 38), .ref a0]) h' Q)) : wpx d P_Md_tries 12 [.ref r0, .int x1, .int x2, .int x3] [] h Q := by
  refine st_aload (pc' := 13) rfl rfl rfl ?_
  refine st_getfr (x := some a0) (Or.inl rfl) rfl hs0 rfl hr1 (pc' := 16) rfl ?_
  refine st_aload (pc' := 17) rfl rfl rfl ?_
  refine st_getfi (Or.inl rfl) rfl hs0 rfl (pc' := 20) rfl ?_
  refine st_aload (pc' := 21) rfl rfl rfl ?_
  refine st_iload (pc' := 22) rfl rfl rfl ?_
  refine st_iload (pc' := 23) rfl rfl rfl ?_
  exact st_call (pc' := 26) (as := [.ref r0, .int x1, .int x3]) (rest := [.int (h_i h r0 38), .ref a0]) rfl rfl (Nat.le_of_ble_eq_true rfl) rfl rfl (Nat.le_of_ble_eq_true rfl) (kd := 1) (o := 12) rfl rfl (beq_iff_eq.mpr hs0) k
theorem B_Md_tries_26 {d : Nat} {h : PH} {Q : PQ} {r0 : Nat} {x1 : Int32} {x2 : Int32} {x3 : Int32} {q0 : Nat} {s1 : Int32} {s2 : Int32} {n0 : Nat} (hs0 : h_sh h q0 = some (1, n0)) (hb1 : vp_in s1 n0) (hs2 : h_sh h r0 = some (0, 12)) (k : wpx d P_Md_tries 2 [.ref r0, .int x1, .int x2, .int (x3 + 1)] [] (w_i (w_i h q0 s1.toNatClampNeg s2) r0 38 ((h_i (w_i h q0 s1.toNatClampNeg s2) r0 38) + (1 : Int32))) Q) : wpx d P_Md_tries 26 [.ref r0, .int x1, .int x2, .int x3] [.int s2, .int s1, .ref q0] h Q := by
  refine st_iastore rfl hs0 hb1 (j := s1.toNatClampNeg) rfl (pc' := 27) rfl ?_
  refine st_aload (pc' := 28) rfl rfl rfl ?_
  refine st_dup (pc' := 29) rfl rfl rfl ?_
  refine st_getfi (Or.inl rfl) rfl hs2 rfl (pc' := 32) rfl ?_
  refine st_ipush (pc' := 33) (v := 1) rfl rfl (by decide) ?_
  refine st_iadd (pc' := 34) rfl rfl ?_
  refine st_putf (h' := w_i (w_i h q0 s1.toNatClampNeg s2) r0 38 ((h_i (w_i h q0 s1.toNatClampNeg s2) r0 38) + (1 : Int32))) (Or.inl rfl) rfl hs2 rfl rfl rfl (pc' := 37) rfl ?_
  refine st_iinc (pc' := 40) (v := 1) (ls' := [.ref r0, .int x1, .int x2, .int (x3 + 1)]) rfl rfl rfl (by decide) rfl ?_
  exact st_goto rfl k
theorem B_Md_tries_43 {d : Nat} {h : PH} {Q : PQ} {r0 : Nat} {x1 : Int32} {x2 : Int32} {x3 : Int32}  (k : Q none h) : wpx d P_Md_tries 43 [.ref r0, .int x1, .int x2, .int x3] [] h Q := by
  exact st_return rfl k
theorem B_Md_isBefore_0 {d : Nat} {h : PH} {Q : PQ} {r0 : Nat} {r1 : Nat} {x2 : Int32} {x3 : Int32} {v4 : Value}  (kt : x3 < 0 → wpx d P_Md_isBefore 12 [.ref r0, .ref r1, .int x2, .int x3, v4] [] h Q) (kf : ¬ (x3 < 0) → wpx d P_Md_isBefore 4 [.ref r0, .ref r1, .int x2, .int x3, v4] [] h Q) : wpx d P_Md_isBefore 0 [.ref r0, .ref r1, .int x2, .int x3, v4] [] h Q := by
  refine st_iload (pc' := 1) rfl rfl rfl ?_
  exact st_if_lt (pc' := 4) rfl rfl kt kf
theorem B_Md_isBefore_4 {d : Nat} {h : PH} {Q : PQ} {r0 : Nat} {r1 : Nat} {x2 : Int32} {x3 : Int32} {v4 : Value} (hs0 : h_sh h r0 = some (0, 12)) (kt : (h_i h r0 38) = x3 → wpx d P_Md_isBefore 30 [.ref r0, .ref r1, .int x2, .int x3, v4] [] h Q) (kf : ¬ ((h_i h r0 38) = x3) → wpx d P_Md_isBefore 12 [.ref r0, .ref r1, .int x2, .int x3, v4] [] h Q) : wpx d P_Md_isBefore 4 [.ref r0, .ref r1, .int x2, .int x3, v4] [] h Q := by
  refine st_aload (pc' := 5) rfl rfl rfl ?_
  refine st_getfi (Or.inl rfl) rfl hs0 rfl (pc' := 8) rfl ?_
  refine st_iload (pc' := 9) rfl rfl rfl ?_
  exact st_icmp_eq (pc' := 12) rfl rfl kt kf
theorem B_Md_isBefore_12 {d : Nat} {h : PH} {Q : PQ} {r0 : Nat} {r1 : Nat} {x2 : Int32} {x3 : Int32} {v4 : Value}  (kt : x3 < 0 → wpx d P_Md_isBefore 24 [.ref r0, .ref r1, .int x2, .int x3, v4] [] h Q) (kf : ¬ (x3 < 0) → wpx d P_Md_isBefore 16 [.ref r0, .ref r1, .int x2, .int x3, v4] [] h Q) : wpx d P_Md_isBefore 12 [.ref r0, .ref r1, .int x2, .int x3, v4] [] h Q := by
  refine st_iload (pc' := 13) rfl rfl rfl ?_
  exact st_if_lt (pc' := 16) rfl rfl kt kf
theorem B_Md_isBefore_16 {d : Nat} {h : PH} {Q : PQ} {r0 : Nat} {r1 : Nat} {x2 : Int32} {x3 : Int32} {v4 : Value} (hs0 : h_sh h r0 = some (0, 12)) (kt : x3 ≤ (h_i h r0 38) → wpx d P_Md_isBefore 28 [.ref r0, .ref r1, .int x2, .int x3, v4] [] h Q) (kf : ¬ (x3 ≤ (h_i h r0 38)) → wpx d P_Md_isBefore 24 [.ref r0, .ref r1, .int x2, .int x3, v4] [] h Q) : wpx d P_Md_isBefore 16 [.ref r0, .ref r1, .int x2, .int x3, v4] [] h Q := by
  refine st_aload (pc' := 17) rfl rfl rfl ?_
  refine st_getfi (Or.inl rfl) rfl hs0 rfl (pc' := 20) rfl ?_
  refine st_iload (pc' := 21) rfl rfl rfl ?_
  exact st_icmp_ge (pc' := 24) rfl rfl kt kf
theorem B_Md_isBefore_24 {d : Nat} {h : PH} {Q : PQ} {r0 : Nat} {r1 : Nat} {x2 : Int32} {x3 : Int32} {v4 : Value}  (k : wpx d P_Md_isBefore 29 [.ref r0, .ref r1, .int x2, .int x3, v4] [.int 1] h Q) : wpx d P_Md_isBefore 24 [.ref r0, .ref r1, .int x2, .int x3, v4] [] h Q := by
  refine st_ipush (pc' := 25) (v := 1) rfl rfl (by decide) ?_
  exact st_goto rfl k
theorem B_Md_isBefore_28 {d : Nat} {h : PH} {Q : PQ} {r0 : Nat} {r1 : Nat} {x2 : Int32} {x3 : Int32} {v4 : Value}  (k : wpx d P_Md_isBefore 29 [.ref r0, .ref r1, .int x2, .int x3, v4] [.int 0] h Q) : wpx d P_Md_isBefore 28 [.ref r0, .ref r1, .int x2, .int x3, v4] [] h Q := by
  refine st_ipush (pc' := 29) (v := 0) rfl rfl (by decide) ?_
  exact k
theorem B_Md_isBefore_29 {d : Nat} {h : PH} {Q : PQ} {r0 : Nat} {r1 : Nat} {x2 : Int32} {x3 : Int32} {v4 : Value} {s0 : Int32} (hz0 : narrow .boolean (.int s0) = .int s0) (k : Q (some (.int s0)) h) : wpx d P_Md_isBefore 29 [.ref r0, .ref r1, .int x2, .int x3, v4] [.int s0] h Q := by
  exact st_ireturn (ty := .boolean) rfl rfl hz0 k
theorem B_Md_isBefore_30 {d : Nat} {h : PH} {Q : PQ} {r0 : Nat} {r1 : Nat} {x2 : Int32} {x3 : Int32} {v4 : Value}  (k : wpx d P_Md_isBefore 33 [.ref r0, .ref r1, .int x2, .int x3, .int 0] [] h Q) : wpx d P_Md_isBefore 30 [.ref r0, .ref r1, .int x2, .int x3, v4] [] h Q := by
  refine st_ipush (pc' := 31) (v := 0) rfl rfl (by decide) ?_
  refine st_istore (pc' := 33) (ls' := [.ref r0, .ref r1, .int x2, .int x3, .int 0]) rfl rfl (Nat.le_of_ble_eq_true rfl) rfl ?_
  exact k
theorem B_Md_isBefore_33 {d : Nat} {h : PH} {Q : PQ} {r0 : Nat} {r1 : Nat} {x2 : Int32} {x3 : Int32} {x4 : Int32}  (kt : x3 ≤ x4 → wpx d P_Md_isBefore 83 [.ref r0, .ref r1, .int x2, .int x3, .int x4] [] h Q) (kf : ¬ (x3 ≤ x4) → wpx d P_Md_isBefore 39 [.ref r0, .ref r1, .int x2, .int x3, .int x4] [] h Q) : wpx d P_Md_isBefore 33 [.ref r0, .ref r1, .int x2, .int x3, .int x4] [] h Q := by
  refine st_iload (pc' := 35) rfl rfl rfl ?_
  refine st_iload (pc' := 36) rfl rfl rfl ?_
  exact st_icmp_ge (pc' := 39) rfl rfl kt kf
theorem B_Md_isBefore_39 {d : Nat} {h : PH} {Q : PQ} {r0 : Nat} {r1 : Nat} {x2 : Int32} {x3 : Int32} {x4 : Int32} {a0 : Nat} {n1 : Nat} {n2 : Nat} (hs0 : h_sh h r0 = some (0, 12)) (hr1 : h_r h r0 37 = some a0) (hs2 : h_sh h a0 = some (1, n1)) (hb3 : vp_in x4 n1) (hs4 : h_sh h r1 = some (1, n2)) (hb5 : vp_in (x2 + x4) n2) (kt : (h_i h a0 x4.toNatClampNeg) = (h_i h r1 (x2 + x4).toNatClampNeg) → wpx d P_Md_isBefore 77 [.ref r0, .ref r1, .int x2, .int x3, .int x4] [] h Q) (kf : ¬ ((h_i h a0 x4.toNatClampNeg) = (h_i h r1 (x2 + x4).toNatClampNeg)) → wpx d P_Md_isBefore 55 [.ref r0, .ref r1, .int x2, .int x3, .int x4] [] h Q) : wpx d P_Md_isBefore 39 [.ref r0, .ref r1, .int x2, .int x3, .int x4] [] h Q := by
  refine st_aload (pc' := 40) rfl rfl rfl ?_
  refine st_getfr (x := some a0) (Or.inl rfl) rfl hs0 rfl hr1 (pc' := 43) rfl ?_
  refine st_iload (pc' := 45) rfl rfl rfl ?_
  refine st_iaload rfl hs2 hb3 (j := x4.toNatClampNeg) rfl (pc' := 46) rfl ?_
  refine st_aload (pc' := 47) rfl rfl rfl ?_
  refine st_iload (pc' := 48) rfl rfl rfl ?_
  refine st_iload (pc' := 50) rfl rfl rfl ?_
  refine st_iadd (pc' := 51) rfl rfl ?_
  refine st_iaload rfl hs4 hb5 (j := (x2 + x4).toNatClampNeg) rfl (pc' := 52) rfl ?_
  exact st_icmp_eq (pc' := 55) rfl rfl kt kf
theorem B_Md_isBefore_55 {d : Nat} {h : PH} {Q : PQ} {r0 : Nat} {r1 : Nat} {x2 : Int32} {x3 : Int32} {x4 : Int32} {a0 : Nat} {n1 : Nat} {n2 : Nat} (hs0 : h_sh h r0 = some (0, 12)) (hr1 : h_r h r0 37 = some a0) (hs2 : h_sh h a0 = some (1, n1)) (hb3 : vp_in x4 n1) (hs4 : h_sh h r1 = some (1, n2)) (hb5 : vp_in (x2 + x4) n2) (kt : (h_i h r1 (x2 + x4).toNatClampNeg) ≤ (h_i h a0 x4.toNatClampNeg) → wpx d P_Md_isBefore 75 [.ref r0, .ref r1, .int x2, .int x3, .int x4] [] h Q) (kf : ¬ ((h_i h r1 (x2 + x4).toNatClampNeg) ≤ (h_i h a0 x4.toNatClampNeg)) → wpx d P_Md_isBefore 71 [.ref r0, .ref r1, .int x2, .int x3, .int x4] [] h Q) : wpx d P_Md_isBefore 55 [.ref r0, .ref r1, .int x2, .int x3, .int x4] [] h Q := by
  refine st_aload (pc' := 56) rfl rfl rfl ?_
  refine st_getfr (x := some a0) (Or.inl rfl) rfl hs0 rfl hr1 (pc' := 59) rfl ?_
  refine st_iload (pc' := 61) rfl rfl rfl ?_
  refine st_iaload rfl hs2 hb3 (j := x4.toNatClampNeg) rfl (pc' := 62) rfl ?_
  refine st_aload (pc' := 63) rfl rfl rfl ?_
  refine st_iload (pc' := 64) rfl rfl rfl ?_
  refine st_iload (pc' := 66) rfl rfl rfl ?_
  refine st_iadd (pc' := 67) rfl rfl ?_
  refine st_iaload rfl hs4 hb5 (j := (x2 + x4).toNatClampNeg) rfl (pc' := 68) rfl ?_
  exact st_icmp_ge (pc' := 71) rfl rfl kt kf
theorem B_Md_isBefore_71 {d : Nat} {h : PH} {Q : PQ} {r0 : Nat} {r1 : Nat} {x2 : Int32} {x3 : Int32} {x4 : Int32}  (k : wpx d P_Md_isBefore 76 [.ref r0, .ref r1, .int x2, .int x3, .int x4] [.int 1] h Q) : wpx d P_Md_isBefore 71 [.ref r0, .ref r1, .int x2, .int x3, .int x4] [] h Q := by
  refine st_ipush (pc' := 72) (v := 1) rfl rfl (by decide) ?_
  exact st_goto rfl k
theorem B_Md_isBefore_75 {d : Nat} {h : PH} {Q : PQ} {r0 : Nat} {r1 : Nat} {x2 : Int32} {x3 : Int32} {x4 : Int32}  (k : wpx d P_Md_isBefore 76 [.ref r0, .ref r1, .int x2, .int x3, .int x4] [.int 0] h Q) : wpx d P_Md_isBefore 75 [.ref r0, .ref r1, .int x2, .int x3, .int x4] [] h Q := by
  refine st_ipush (pc' := 76) (v := 0) rfl rfl (by decide) ?_
  exact k
theorem B_Md_isBefore_76 {d : Nat} {h : PH} {Q : PQ} {r0 : Nat} {r1 : Nat} {x2 : Int32} {x3 : Int32} {x4 : Int32} {s0 : Int32} (hz0 : narrow .boolean (.int s0) = .int s0) (k : Q (some (.int s0)) h) : wpx d P_Md_isBefore 76 [.ref r0, .ref r1, .int x2, .int x3, .int x4] [.int s0] h Q := by
  exact st_ireturn (ty := .boolean) rfl rfl hz0 k
theorem B_Md_isBefore_77 {d : Nat} {h : PH} {Q : PQ} {r0 : Nat} {r1 : Nat} {x2 : Int32} {x3 : Int32} {x4 : Int32}  (k : wpx d P_Md_isBefore 33 [.ref r0, .ref r1, .int x2, .int x3, .int (x4 + 1)] [] h Q) : wpx d P_Md_isBefore 77 [.ref r0, .ref r1, .int x2, .int x3, .int x4] [] h Q := by
  refine st_iinc (pc' := 80) (v := 1) (ls' := [.ref r0, .ref r1, .int x2, .int x3, .int (x4 + 1)]) rfl rfl rfl (by decide) rfl ?_
  exact st_goto rfl k
theorem B_Md_isBefore_83 {d : Nat} {h : PH} {Q : PQ} {r0 : Nat} {r1 : Nat} {x2 : Int32} {x3 : Int32} {x4 : Int32}  (k : Q (some (.int 0)) h) : wpx d P_Md_isBefore 83 [.ref r0, .ref r1, .int x2, .int x3, .int x4] [] h Q := by
  refine st_ipush (pc' := 84) (v := 0) rfl rfl (by decide) ?_
  exact st_ireturn (ty := .boolean) rfl rfl (by decide) k
theorem B_Md_takes_0 {d : Nat} {h : PH} {Q : PQ} {r0 : Nat} {x1 : Int32} {v2 : Value} {a0 : Nat} {a1 : Nat} {n2 : Nat} (hs0 : h_sh h r0 = some (0, 12)) (hr1 : h_r h r0 35 = some a0) (hr2 : h_r h r0 36 = some a1) (hs3 : h_sh h a1 = some (1, n2)) (hb4 : vp_in x1 n2) (k : wpm d 218 [.ref r0, .ref a0, .int ((800 : Int32) * x1), .int (h_i h a1 x1.toNatClampNeg)] h (fun r h' => wpx d P_Md_takes 19 [.ref r0, .int x1, v2] (r.toList ++ []) h' Q)) : wpx d P_Md_takes 0 [.ref r0, .int x1, v2] [] h Q := by
  refine st_aload (pc' := 1) rfl rfl rfl ?_
  refine st_aload (pc' := 2) rfl rfl rfl ?_
  refine st_getfr (x := some a0) (Or.inl rfl) rfl hs0 rfl hr1 (pc' := 5) rfl ?_
  refine st_ipush (pc' := 8) (v := 800) rfl rfl (by decide) ?_
  refine st_iload (pc' := 9) rfl rfl rfl ?_
  refine st_imul (pc' := 10) rfl rfl ?_
  refine st_aload (pc' := 11) rfl rfl rfl ?_
  refine st_getfr (x := some a1) (Or.inl rfl) rfl hs0 rfl hr2 (pc' := 14) rfl ?_
  refine st_iload (pc' := 15) rfl rfl rfl ?_
  refine st_iaload rfl hs3 hb4 (j := x1.toNatClampNeg) rfl (pc' := 16) rfl ?_
  exact st_call (pc' := 19) (as := [.ref r0, .ref a0, .int ((800 : Int32) * x1), .int (h_i h a1 x1.toNatClampNeg)]) (rest := []) rfl rfl (Nat.le_of_ble_eq_true rfl) rfl rfl (Nat.le_of_ble_eq_true rfl) (kd := 1) (o := 12) rfl rfl (beq_iff_eq.mpr hs0) k
theorem B_Md_takes_19 {d : Nat} {h : PH} {Q : PQ} {r0 : Nat} {x1 : Int32} {v2 : Value} {s0 : Int32}  (kt : ¬ (s0 = 0) → wpx d P_Md_takes 24 [.ref r0, .int x1, v2] [] h Q) (kf : s0 = 0 → wpx d P_Md_takes 22 [.ref r0, .int x1, v2] [] h Q) : wpx d P_Md_takes 19 [.ref r0, .int x1, v2] [.int s0] h Q := by
  exact st_if_ne (pc' := 22) rfl rfl kt kf
theorem B_Md_takes_22 {d : Nat} {h : PH} {Q : PQ} {r0 : Nat} {x1 : Int32} {v2 : Value}  (k : Q (some (.int 0)) h) : wpx d P_Md_takes 22 [.ref r0, .int x1, v2] [] h Q := by
  refine st_ipush (pc' := 23) (v := 0) rfl rfl (by decide) ?_
  exact st_ireturn (ty := .boolean) rfl rfl (by decide) k
theorem B_Md_takes_24 {d : Nat} {h : PH} {Q : PQ} {r0 : Nat} {x1 : Int32} {v2 : Value}  (k : wpx d P_Md_takes 26 [.ref r0, .int x1, .int 0] [] h Q) : wpx d P_Md_takes 24 [.ref r0, .int x1, v2] [] h Q := by
  refine st_ipush (pc' := 25) (v := 0) rfl rfl (by decide) ?_
  refine st_istore (pc' := 26) (ls' := [.ref r0, .int x1, .int 0]) rfl rfl (Nat.le_of_ble_eq_true rfl) rfl ?_
  exact k
theorem B_Md_takes_26 {d : Nat} {h : PH} {Q : PQ} {r0 : Nat} {x1 : Int32} {x2 : Int32} (hs0 : h_sh h r0 = some (0, 12)) (kt : (h_i h r0 38) ≤ x2 → wpx d P_Md_takes 58 [.ref r0, .int x1, .int x2] [] h Q) (kf : ¬ ((h_i h r0 38) ≤ x2) → wpx d P_Md_takes 34 [.ref r0, .int x1, .int x2] [] h Q) : wpx d P_Md_takes 26 [.ref r0, .int x1, .int x2] [] h Q := by
  refine st_iload (pc' := 27) rfl rfl rfl ?_
  refine st_aload (pc' := 28) rfl rfl rfl ?_
  refine st_getfi (Or.inl rfl) rfl hs0 rfl (pc' := 31) rfl ?_
  exact st_icmp_ge (pc' := 34) rfl rfl kt kf
theorem B_Md_takes_34 {d : Nat} {h : PH} {Q : PQ} {r0 : Nat} {x1 : Int32} {x2 : Int32} {a0 : Nat} {a1 : Nat} {n2 : Nat} {n3 : Nat} (hs0 : h_sh h r0 = some (0, 12)) (hr1 : h_r h r0 35 = some a0) (hr2 : h_r h r0 37 = some a1) (hs3 : h_sh h a1 = some (1, n2)) (hb4 : vp_in x2 n2) (hs5 : h_sh h a0 = some (1, n3)) (hb6 : vp_in (((800 : Int32) * x1) + x2) n3) (k : wpx d P_Md_takes 26 [.ref r0, .int x1, .int (x2 + 1)] [] (w_i h a0 ((((800 : Int32) * x1) + x2).toNatClampNeg) (h_i h a1 x2.toNatClampNeg)) Q) : wpx d P_Md_takes 34 [.ref r0, .int x1, .int x2] [] h Q := by
  refine st_aload (pc' := 35) rfl rfl rfl ?_
  refine st_getfr (x := some a0) (Or.inl rfl) rfl hs0 rfl hr1 (pc' := 38) rfl ?_
  refine st_ipush (pc' := 41) (v := 800) rfl rfl (by decide) ?_
  refine st_iload (pc' := 42) rfl rfl rfl ?_
  refine st_imul (pc' := 43) rfl rfl ?_
  refine st_iload (pc' := 44) rfl rfl rfl ?_
  refine st_iadd (pc' := 45) rfl rfl ?_
  refine st_aload (pc' := 46) rfl rfl rfl ?_
  refine st_getfr (x := some a1) (Or.inl rfl) rfl hs0 rfl hr2 (pc' := 49) rfl ?_
  refine st_iload (pc' := 50) rfl rfl rfl ?_
  refine st_iaload rfl hs3 hb4 (j := x2.toNatClampNeg) rfl (pc' := 51) rfl ?_
  refine st_iastore rfl hs5 hb6 (j := (((800 : Int32) * x1) + x2).toNatClampNeg) rfl (pc' := 52) rfl ?_
  refine st_iinc (pc' := 55) (v := 1) (ls' := [.ref r0, .int x1, .int (x2 + 1)]) rfl rfl rfl (by decide) rfl ?_
  exact st_goto rfl k
theorem B_Md_takes_58 {d : Nat} {h : PH} {Q : PQ} {r0 : Nat} {x1 : Int32} {x2 : Int32} {a0 : Nat} {n1 : Nat} (hs0 : h_sh h r0 = some (0, 12)) (hr1 : h_r h r0 36 = some a0) (hs2 : h_sh h a0 = some (1, n1)) (hb3 : vp_in x1 n1) (k : Q (some (.int 1)) (w_i h a0 x1.toNatClampNeg (h_i h r0 38))) : wpx d P_Md_takes 58 [.ref r0, .int x1, .int x2] [] h Q := by
  refine st_aload (pc' := 59) rfl rfl rfl ?_
  refine st_getfr (x := some a0) (Or.inl rfl) rfl hs0 rfl hr1 (pc' := 62) rfl ?_
  refine st_iload (pc' := 63) rfl rfl rfl ?_
  refine st_aload (pc' := 64) rfl rfl rfl ?_
  refine st_getfi (Or.inl rfl) rfl hs0 rfl (pc' := 67) rfl ?_
  refine st_iastore rfl hs2 hb3 (j := x1.toNatClampNeg) rfl (pc' := 68) rfl ?_
  refine st_ipush (pc' := 69) (v := 1) rfl rfl (by decide) ?_
  exact st_ireturn (ty := .boolean) rfl rfl (by decide) k
theorem B_Md_layBest_0 {d : Nat} {h : PH} {Q : PQ} {r0 : Nat} {v1 : Value} {v2 : Value} {v3 : Value} {v4 : Value} {v5 : Value}  (k : wpx d P_Md_layBest 2 [.ref r0, .int 0, v2, v3, v4, v5] [] h Q) : wpx d P_Md_layBest 0 [.ref r0, v1, v2, v3, v4, v5] [] h Q := by
  refine st_ipush (pc' := 1) (v := 0) rfl rfl (by decide) ?_
  refine st_istore (pc' := 2) (ls' := [.ref r0, .int 0, v2, v3, v4, v5]) rfl rfl (Nat.le_of_ble_eq_true rfl) rfl ?_
  exact k
theorem B_Md_layBest_2 {d : Nat} {h : PH} {Q : PQ} {r0 : Nat} {x1 : Int32} {v2 : Value} {v3 : Value} {v4 : Value} {v5 : Value} (hs0 : h_sh h r0 = some (0, 12)) (kt : (h_i h r0 32) ≤ x1 → wpx d P_Md_layBest 23 [.ref r0, .int x1, v2, v3, v4, v5] [] h Q) (kf : ¬ ((h_i h r0 32) ≤ x1) → wpx d P_Md_layBest 10 [.ref r0, .int x1, v2, v3, v4, v5] [] h Q) : wpx d P_Md_layBest 2 [.ref r0, .int x1, v2, v3, v4, v5] [] h Q := by
  refine st_iload (pc' := 3) rfl rfl rfl ?_
  refine st_aload (pc' := 4) rfl rfl rfl ?_
  refine st_getfi (Or.inl rfl) rfl hs0 rfl (pc' := 7) rfl ?_
  exact st_icmp_ge (pc' := 10) rfl rfl kt kf
theorem B_Md_layBest_10 {d : Nat} {h : PH} {Q : PQ} {r0 : Nat} {x1 : Int32} {v2 : Value} {v3 : Value} {v4 : Value} {v5 : Value} {a0 : Nat} {n1 : Nat} (hs0 : h_sh h r0 = some (0, 12)) (hr1 : h_r h r0 36 = some a0) (hs2 : h_sh h a0 = some (1, n1)) (hb3 : vp_in x1 n1) (k : wpx d P_Md_layBest 2 [.ref r0, .int (x1 + 1), v2, v3, v4, v5] [] (w_i h a0 x1.toNatClampNeg (-1)) Q) : wpx d P_Md_layBest 10 [.ref r0, .int x1, v2, v3, v4, v5] [] h Q := by
  refine st_aload (pc' := 11) rfl rfl rfl ?_
  refine st_getfr (x := some a0) (Or.inl rfl) rfl hs0 rfl hr1 (pc' := 14) rfl ?_
  refine st_iload (pc' := 15) rfl rfl rfl ?_
  refine st_ipush (pc' := 16) (v := (-1)) rfl rfl (by decide) ?_
  refine st_iastore rfl hs2 hb3 (j := x1.toNatClampNeg) rfl (pc' := 17) rfl ?_
  refine st_iinc (pc' := 20) (v := 1) (ls' := [.ref r0, .int (x1 + 1), v2, v3, v4, v5]) rfl rfl rfl (by decide) rfl ?_
  exact st_goto rfl k
theorem B_Md_layBest_23 {d : Nat} {h : PH} {Q : PQ} {r0 : Nat} {x1 : Int32} {v2 : Value} {v3 : Value} {v4 : Value} {v5 : Value}  (k : wpx d P_Md_layBest 25 [.ref r0, .int 0, v2, v3, v4, v5] [] h Q) : wpx d P_Md_layBest 23 [.ref r0, .int x1, v2, v3, v4, v5] [] h Q := by
  refine st_ipush (pc' := 24) (v := 0) rfl rfl (by decide) ?_
  refine st_istore (pc' := 25) (ls' := [.ref r0, .int 0, v2, v3, v4, v5]) rfl rfl (Nat.le_of_ble_eq_true rfl) rfl ?_
  exact k
theorem B_Md_layBest_25 {d : Nat} {h : PH} {Q : PQ} {r0 : Nat} {x1 : Int32} {v2 : Value} {v3 : Value} {v4 : Value} {v5 : Value} (hs0 : h_sh h r0 = some (0, 12)) (kt : (h_i h r0 4) ≤ x1 → wpx d P_Md_layBest 123 [.ref r0, .int x1, v2, v3, v4, v5] [] h Q) (kf : ¬ ((h_i h r0 4) ≤ x1) → wpx d P_Md_layBest 33 [.ref r0, .int x1, v2, v3, v4, v5] [] h Q) : wpx d P_Md_layBest 25 [.ref r0, .int x1, v2, v3, v4, v5] [] h Q := by
  refine st_iload (pc' := 26) rfl rfl rfl ?_
  refine st_aload (pc' := 27) rfl rfl rfl ?_
  refine st_getfi (Or.inl rfl) rfl hs0 rfl (pc' := 30) rfl ?_
  exact st_icmp_ge (pc' := 33) rfl rfl kt kf
theorem B_Md_layBest_33 {d : Nat} {h : PH} {Q : PQ} {r0 : Nat} {x1 : Int32} {v2 : Value} {v3 : Value} {v4 : Value} {v5 : Value}  (k : wpx d P_Md_layBest 35 [.ref r0, .int x1, .int 0, v3, v4, v5] [] h Q) : wpx d P_Md_layBest 33 [.ref r0, .int x1, v2, v3, v4, v5] [] h Q := by
  refine st_ipush (pc' := 34) (v := 0) rfl rfl (by decide) ?_
  refine st_istore (pc' := 35) (ls' := [.ref r0, .int x1, .int 0, v3, v4, v5]) rfl rfl (Nat.le_of_ble_eq_true rfl) rfl ?_
  exact k
theorem B_Md_layBest_35 {d : Nat} {h : PH} {Q : PQ} {r0 : Nat} {x1 : Int32} {x2 : Int32} {v3 : Value} {v4 : Value} {v5 : Value} (hs0 : h_sh h r0 = some (0, 12)) (kt : (h_i h r0 4) ≤ x2 → wpx d P_Md_layBest 117 [.ref r0, .int x1, .int x2, v3, v4, v5] [] h Q) (kf : ¬ ((h_i h r0 4) ≤ x2) → wpx d P_Md_layBest 43 [.ref r0, .int x1, .int x2, v3, v4, v5] [] h Q) : wpx d P_Md_layBest 35 [.ref r0, .int x1, .int x2, v3, v4, v5] [] h Q := by
  refine st_iload (pc' := 36) rfl rfl rfl ?_
  refine st_aload (pc' := 37) rfl rfl rfl ?_
  refine st_getfi (Or.inl rfl) rfl hs0 rfl (pc' := 40) rfl ?_
  exact st_icmp_ge (pc' := 43) rfl rfl kt kf
theorem B_Md_layBest_43 {d : Nat} {h : PH} {Q : PQ} {r0 : Nat} {x1 : Int32} {x2 : Int32} {v3 : Value} {v4 : Value} {v5 : Value}  (kt : x1 = x2 → wpx d P_Md_layBest 111 [.ref r0, .int x1, .int x2, v3, v4, v5] [] h Q) (kf : ¬ (x1 = x2) → wpx d P_Md_layBest 48 [.ref r0, .int x1, .int x2, v3, v4, v5] [] h Q) : wpx d P_Md_layBest 43 [.ref r0, .int x1, .int x2, v3, v4, v5] [] h Q := by
  refine st_iload (pc' := 44) rfl rfl rfl ?_
  refine st_iload (pc' := 45) rfl rfl rfl ?_
  exact st_icmp_eq (pc' := 48) rfl rfl kt kf
theorem B_Md_layBest_48 {d : Nat} {h : PH} {Q : PQ} {r0 : Nat} {x1 : Int32} {x2 : Int32} {v3 : Value} {v4 : Value} {v5 : Value} (hs0 : h_sh h r0 = some (0, 12)) (k : wpm d 171 [.int (h_i h r0 6), .int x1] h (fun r h' => wpx d P_Md_layBest 56 [.ref r0, .int x1, .int x2, v3, v4, v5] (r.toList ++ []) h' Q)) : wpx d P_Md_layBest 48 [.ref r0, .int x1, .int x2, v3, v4, v5] [] h Q := by
  refine st_aload (pc' := 49) rfl rfl rfl ?_
  refine st_getfi (Or.inl rfl) rfl hs0 rfl (pc' := 52) rfl ?_
  refine st_iload (pc' := 53) rfl rfl rfl ?_
  exact st_call (pc' := 56) (as := [.int (h_i h r0 6), .int x1]) (rest := []) rfl rfl (Nat.le_of_ble_eq_true rfl) rfl rfl (Nat.le_of_ble_eq_true rfl) (kd := 0) (o := 12) rfl rfl rfl k
theorem B_Md_layBest_56 {d : Nat} {h : PH} {Q : PQ} {r0 : Nat} {x1 : Int32} {x2 : Int32} {v3 : Value} {v4 : Value} {v5 : Value} {s0 : Int32}  (kt : s0 = 0 → wpx d P_Md_layBest 111 [.ref r0, .int x1, .int x2, v3, v4, v5] [] h Q) (kf : ¬ (s0 = 0) → wpx d P_Md_layBest 59 [.ref r0, .int x1, .int x2, v3, v4, v5] [] h Q) : wpx d P_Md_layBest 56 [.ref r0, .int x1, .int x2, v3, v4, v5] [.int s0] h Q := by
  exact st_if_eq (pc' := 59) rfl rfl kt kf
theorem B_Md_layBest_59 {d : Nat} {h : PH} {Q : PQ} {r0 : Nat} {x1 : Int32} {x2 : Int32} {v3 : Value} {v4 : Value} {v5 : Value} (hs0 : h_sh h r0 = some (0, 12)) (k : wpm d 171 [.int (h_i h r0 6), .int x2] h (fun r h' => wpx d P_Md_layBest 67 [.ref r0, .int x1, .int x2, v3, v4, v5] (r.toList ++ []) h' Q)) : wpx d P_Md_layBest 59 [.ref r0, .int x1, .int x2, v3, v4, v5] [] h Q := by
  refine st_aload (pc' := 60) rfl rfl rfl ?_
  refine st_getfi (Or.inl rfl) rfl hs0 rfl (pc' := 63) rfl ?_
  refine st_iload (pc' := 64) rfl rfl rfl ?_
  exact st_call (pc' := 67) (as := [.int (h_i h r0 6), .int x2]) (rest := []) rfl rfl (Nat.le_of_ble_eq_true rfl) rfl rfl (Nat.le_of_ble_eq_true rfl) (kd := 0) (o := 12) rfl rfl rfl k
theorem B_Md_layBest_67 {d : Nat} {h : PH} {Q : PQ} {r0 : Nat} {x1 : Int32} {x2 : Int32} {v3 : Value} {v4 : Value} {v5 : Value} {s0 : Int32}  (kt : s0 = 0 → wpx d P_Md_layBest 111 [.ref r0, .int x1, .int x2, v3, v4, v5] [] h Q) (kf : ¬ (s0 = 0) → wpx d P_Md_layBest 70 [.ref r0, .int x1, .int x2, v3, v4, v5] [] h Q) : wpx d P_Md_layBest 67 [.ref r0, .int x1, .int x2, v3, v4, v5] [.int s0] h Q := by
  exact st_if_eq (pc' := 70) rfl rfl kt kf
theorem B_Md_layBest_70 {d : Nat} {h : PH} {Q : PQ} {r0 : Nat} {x1 : Int32} {x2 : Int32} {v3 : Value} {v4 : Value} {v5 : Value} (hs0 : h_sh h r0 = some (0, 12)) (k : wpm d 200 [.ref r0, .int x1, .int x2] h (fun r h' => wpx d P_Md_layBest 76 [.ref r0, .int x1, .int x2, v3, v4, v5] (r.toList ++ []) h' Q)) : wpx d P_Md_layBest 70 [.ref r0, .int x1, .int x2, v3, v4, v5] [] h Q := by
  refine st_aload (pc' := 71) rfl rfl rfl ?_
  refine st_iload (pc' := 72) rfl rfl rfl ?_
  refine st_iload (pc' := 73) rfl rfl rfl ?_
  exact st_call (pc' := 76) (as := [.ref r0, .int x1, .int x2]) (rest := []) rfl rfl (Nat.le_of_ble_eq_true rfl) rfl rfl (Nat.le_of_ble_eq_true rfl) (kd := 1) (o := 12) rfl rfl (beq_iff_eq.mpr hs0) k
theorem B_Md_layBest_76 {d : Nat} {h : PH} {Q : PQ} {r0 : Nat} {x1 : Int32} {x2 : Int32} {v3 : Value} {v4 : Value} {v5 : Value} {s0 : Int32}  (kt : s0 = 0 → wpx d P_Md_layBest 111 [.ref r0, .int x1, .int x2, v3, v4, v5] [] h Q) (kf : ¬ (s0 = 0) → wpx d P_Md_layBest 79 [.ref r0, .int x1, .int x2, v3, v4, v5] [] h Q) : wpx d P_Md_layBest 76 [.ref r0, .int x1, .int x2, v3, v4, v5] [.int s0] h Q := by
  exact st_if_eq (pc' := 79) rfl rfl kt kf
theorem B_Md_layBest_79 {d : Nat} {h : PH} {Q : PQ} {r0 : Nat} {x1 : Int32} {x2 : Int32} {v3 : Value} {v4 : Value} {v5 : Value} (hs0 : h_sh h r0 = some (0, 12)) (k : wpm d 217 [.ref r0, .int x2, .int 0] (w_i h r0 38 0) (fun r h' => wpx d P_Md_layBest 90 [.ref r0, .int x1, .int x2, v3, v4, v5] (r.toList ++ []) h' Q)) : wpx d P_Md_layBest 79 [.ref r0, .int x1, .int x2, v3, v4, v5] [] h Q := by
  refine st_aload (pc' := 80) rfl rfl rfl ?_
  refine st_ipush (pc' := 81) (v := 0) rfl rfl (by decide) ?_
  refine st_putf (h' := w_i h r0 38 0) (Or.inl rfl) rfl hs0 rfl rfl rfl (pc' := 84) rfl ?_
  refine st_aload (pc' := 85) rfl rfl rfl ?_
  refine st_iload (pc' := 86) rfl rfl rfl ?_
  refine st_ipush (pc' := 87) (v := 0) rfl rfl (by decide) ?_
  exact st_call (pc' := 90) (as := [.ref r0, .int x2, .int 0]) (rest := []) rfl rfl (Nat.le_of_ble_eq_true rfl) rfl rfl (Nat.le_of_ble_eq_true rfl) (kd := 1) (o := 12) rfl rfl (beq_iff_eq.mpr hs0) k
theorem B_Md_layBest_90 {d : Nat} {h : PH} {Q : PQ} {r0 : Nat} {x1 : Int32} {x2 : Int32} {v3 : Value} {v4 : Value} {v5 : Value} {a0 : Nat} {a1 : Nat} {n2 : Nat} {n3 : Nat} (hs0 : h_sh h r0 = some (0, 12)) (hr1 : h_r h r0 30 = some a0) (hr2 : h_r h r0 2 = some a1) (hs3 : h_sh h a1 = some (1, n2)) (hb4 : vp_in x1 n2) (hs5 : h_sh h a0 = some (1, n3)) (hb6 : vp_in (((8 : Int32) * x2) + (h_i h a1 x1.toNatClampNeg)) n3) (k : wpm d 219 [.ref r0, .int (h_i h a0 (((8 : Int32) * x2) + (h_i h a1 x1.toNatClampNeg)).toNatClampNeg)] h (fun r h' => wpx d P_Md_layBest 110 [.ref r0, .int x1, .int x2, v3, v4, v5] (r.toList ++ []) h' Q)) : wpx d P_Md_layBest 90 [.ref r0, .int x1, .int x2, v3, v4, v5] [] h Q := by
  refine st_aload (pc' := 91) rfl rfl rfl ?_
  refine st_aload (pc' := 92) rfl rfl rfl ?_
  refine st_getfr (x := some a0) (Or.inl rfl) rfl hs0 rfl hr1 (pc' := 95) rfl ?_
  refine st_ipush (pc' := 97) (v := 8) rfl rfl (by decide) ?_
  refine st_iload (pc' := 98) rfl rfl rfl ?_
  refine st_imul (pc' := 99) rfl rfl ?_
  refine st_aload (pc' := 100) rfl rfl rfl ?_
  refine st_getfr (x := some a1) (Or.inl rfl) rfl hs0 rfl hr2 (pc' := 103) rfl ?_
  refine st_iload (pc' := 104) rfl rfl rfl ?_
  refine st_iaload rfl hs3 hb4 (j := x1.toNatClampNeg) rfl (pc' := 105) rfl ?_
  refine st_iadd (pc' := 106) rfl rfl ?_
  refine st_iaload rfl hs5 hb6 (j := (((8 : Int32) * x2) + (h_i h a1 x1.toNatClampNeg)).toNatClampNeg) rfl (pc' := 107) rfl ?_
  exact st_call (pc' := 110) (as := [.ref r0, .int (h_i h a0 (((8 : Int32) * x2) + (h_i h a1 x1.toNatClampNeg)).toNatClampNeg)]) (rest := []) rfl rfl (Nat.le_of_ble_eq_true rfl) rfl rfl (Nat.le_of_ble_eq_true rfl) (kd := 1) (o := 12) rfl rfl (beq_iff_eq.mpr hs0) k
theorem B_Md_layBest_110 {d : Nat} {h : PH} {Q : PQ} {r0 : Nat} {x1 : Int32} {x2 : Int32} {v3 : Value} {v4 : Value} {v5 : Value} {s0 : Int32}  (k : wpx d P_Md_layBest 111 [.ref r0, .int x1, .int x2, v3, v4, v5] [] h Q) : wpx d P_Md_layBest 110 [.ref r0, .int x1, .int x2, v3, v4, v5] [.int s0] h Q := by
  refine st_pop (pc' := 111) rfl rfl rfl ?_
  exact k
theorem B_Md_layBest_111 {d : Nat} {h : PH} {Q : PQ} {r0 : Nat} {x1 : Int32} {x2 : Int32} {v3 : Value} {v4 : Value} {v5 : Value}  (k : wpx d P_Md_layBest 35 [.ref r0, .int x1, .int (x2 + 1), v3, v4, v5] [] h Q) : wpx d P_Md_layBest 111 [.ref r0, .int x1, .int x2, v3, v4, v5] [] h Q := by
  refine st_iinc (pc' := 114) (v := 1) (ls' := [.ref r0, .int x1, .int (x2 + 1), v3, v4, v5]) rfl rfl rfl (by decide) rfl ?_
  exact st_goto rfl k
theorem B_Md_layBest_117 {d : Nat} {h : PH} {Q : PQ} {r0 : Nat} {x1 : Int32} {x2 : Int32} {v3 : Value} {v4 : Value} {v5 : Value}  (k : wpx d P_Md_layBest 25 [.ref r0, .int (x1 + 1), .int x2, v3, v4, v5] [] h Q) : wpx d P_Md_layBest 117 [.ref r0, .int x1, .int x2, v3, v4, v5] [] h Q := by
  refine st_iinc (pc' := 120) (v := 1) (ls' := [.ref r0, .int (x1 + 1), .int x2, v3, v4, v5]) rfl rfl rfl (by decide) rfl ?_
  exact st_goto rfl k
theorem B_Md_layBest_123 {d : Nat} {h : PH} {Q : PQ} {r0 : Nat} {x1 : Int32} {v2 : Value} {v3 : Value} {v4 : Value} {v5 : Value}  (k : wpx d P_Md_layBest 125 [.ref r0, .int 1, v2, v3, v4, v5] [] h Q) : wpx d P_Md_layBest 123 [.ref r0, .int x1, v2, v3, v4, v5] [] h Q := by
  refine st_ipush (pc' := 124) (v := 1) rfl rfl (by decide) ?_
  refine st_istore (pc' := 125) (ls' := [.ref r0, .int 1, v2, v3, v4, v5]) rfl rfl (Nat.le_of_ble_eq_true rfl) rfl ?_
  exact k
theorem B_Md_layBest_125 {d : Nat} {h : PH} {Q : PQ} {r0 : Nat} {x1 : Int32} {v2 : Value} {v3 : Value} {v4 : Value} {v5 : Value}  (kt : x1 = 0 → wpx d P_Md_layBest 272 [.ref r0, .int x1, v2, v3, v4, v5] [] h Q) (kf : ¬ (x1 = 0) → wpx d P_Md_layBest 129 [.ref r0, .int x1, v2, v3, v4, v5] [] h Q) : wpx d P_Md_layBest 125 [.ref r0, .int x1, v2, v3, v4, v5] [] h Q := by
  refine st_iload (pc' := 126) rfl rfl rfl ?_
  exact st_if_eq (pc' := 129) rfl rfl kt kf
theorem B_Md_layBest_129 {d : Nat} {h : PH} {Q : PQ} {r0 : Nat} {x1 : Int32} {v2 : Value} {v3 : Value} {v4 : Value} {v5 : Value}  (k : wpx d P_Md_layBest 133 [.ref r0, .int 0, .int 0, v3, v4, v5] [] h Q) : wpx d P_Md_layBest 129 [.ref r0, .int x1, v2, v3, v4, v5] [] h Q := by
  refine st_ipush (pc' := 130) (v := 0) rfl rfl (by decide) ?_
  refine st_istore (pc' := 131) (ls' := [.ref r0, .int 0, v2, v3, v4, v5]) rfl rfl (Nat.le_of_ble_eq_true rfl) rfl ?_
  refine st_ipush (pc' := 132) (v := 0) rfl rfl (by decide) ?_
  refine st_istore (pc' := 133) (ls' := [.ref r0, .int 0, .int 0, v3, v4, v5]) rfl rfl (Nat.le_of_ble_eq_true rfl) rfl ?_
  exact k
theorem B_Md_layBest_133 {d : Nat} {h : PH} {Q : PQ} {r0 : Nat} {x1 : Int32} {x2 : Int32} {v3 : Value} {v4 : Value} {v5 : Value} (hs0 : h_sh h r0 = some (0, 12)) (kt : (h_i h r0 32) ≤ x2 → wpx d P_Md_layBest 269 [.ref r0, .int x1, .int x2, v3, v4, v5] [] h Q) (kf : ¬ ((h_i h r0 32) ≤ x2) → wpx d P_Md_layBest 141 [.ref r0, .int x1, .int x2, v3, v4, v5] [] h Q) : wpx d P_Md_layBest 133 [.ref r0, .int x1, .int x2, v3, v4, v5] [] h Q := by
  refine st_iload (pc' := 134) rfl rfl rfl ?_
  refine st_aload (pc' := 135) rfl rfl rfl ?_
  refine st_getfi (Or.inl rfl) rfl hs0 rfl (pc' := 138) rfl ?_
  exact st_icmp_ge (pc' := 141) rfl rfl kt kf
theorem B_Md_layBest_141 {d : Nat} {h : PH} {Q : PQ} {r0 : Nat} {x1 : Int32} {x2 : Int32} {v3 : Value} {v4 : Value} {v5 : Value}  (k : wpx d P_Md_layBest 143 [.ref r0, .int x1, .int x2, .int 0, v4, v5] [] h Q) : wpx d P_Md_layBest 141 [.ref r0, .int x1, .int x2, v3, v4, v5] [] h Q := by
  refine st_ipush (pc' := 142) (v := 0) rfl rfl (by decide) ?_
  refine st_istore (pc' := 143) (ls' := [.ref r0, .int x1, .int x2, .int 0, v4, v5]) rfl rfl (Nat.le_of_ble_eq_true rfl) rfl ?_
  exact k
theorem B_Md_layBest_143 {d : Nat} {h : PH} {Q : PQ} {r0 : Nat} {x1 : Int32} {x2 : Int32} {x3 : Int32} {v4 : Value} {v5 : Value} (hs0 : h_sh h r0 = some (0, 12)) (kt : (h_i h r0 4) ≤ x3 → wpx d P_Md_layBest 263 [.ref r0, .int x1, .int x2, .int x3, v4, v5] [] h Q) (kf : ¬ ((h_i h r0 4) ≤ x3) → wpx d P_Md_layBest 151 [.ref r0, .int x1, .int x2, .int x3, v4, v5] [] h Q) : wpx d P_Md_layBest 143 [.ref r0, .int x1, .int x2, .int x3, v4, v5] [] h Q := by
  refine st_iload (pc' := 144) rfl rfl rfl ?_
  refine st_aload (pc' := 145) rfl rfl rfl ?_
  refine st_getfi (Or.inl rfl) rfl hs0 rfl (pc' := 148) rfl ?_
  exact st_icmp_ge (pc' := 151) rfl rfl kt kf
theorem B_Md_layBest_151 {d : Nat} {h : PH} {Q : PQ} {r0 : Nat} {x1 : Int32} {x2 : Int32} {x3 : Int32} {v4 : Value} {v5 : Value} {a0 : Nat} {n1 : Nat} (hs0 : h_sh h r0 = some (0, 12)) (hr1 : h_r h r0 36 = some a0) (hs2 : h_sh h a0 = some (1, n1)) (hb3 : vp_in x2 n1) (kt : (h_i h a0 x2.toNatClampNeg) < 0 → wpx d P_Md_layBest 263 [.ref r0, .int x1, .int x2, .int x3, v4, v5] [] h Q) (kf : ¬ ((h_i h a0 x2.toNatClampNeg) < 0) → wpx d P_Md_layBest 160 [.ref r0, .int x1, .int x2, .int x3, v4, v5] [] h Q) : wpx d P_Md_layBest 151 [.ref r0, .int x1, .int x2, .int x3, v4, v5] [] h Q := by
  refine st_aload (pc' := 152) rfl rfl rfl ?_
  refine st_getfr (x := some a0) (Or.inl rfl) rfl hs0 rfl hr1 (pc' := 155) rfl ?_
  refine st_iload (pc' := 156) rfl rfl rfl ?_
  refine st_iaload rfl hs2 hb3 (j := x2.toNatClampNeg) rfl (pc' := 157) rfl ?_
  exact st_if_lt (pc' := 160) rfl rfl kt kf
theorem B_Md_layBest_160 {d : Nat} {h : PH} {Q : PQ} {r0 : Nat} {x1 : Int32} {x2 : Int32} {x3 : Int32} {v4 : Value} {v5 : Value} {a0 : Nat} {n1 : Nat} (hs0 : h_sh h r0 = some (0, 12)) (hr1 : h_r h r0 31 = some a0) (hs2 : h_sh h a0 = some (1, n1)) (hb3 : vp_in (((14 : Int32) * x2) + x3) n1) (kt : 0 ≤ (h_i h a0 (((14 : Int32) * x2) + x3).toNatClampNeg) → wpx d P_Md_layBest 181 [.ref r0, .int x1, .int x2, .int x3, .int (h_i h a0 (((14 : Int32) * x2) + x3).toNatClampNeg), v5] [] h Q) (kf : ¬ (0 ≤ (h_i h a0 (((14 : Int32) * x2) + x3).toNatClampNeg)) → wpx d P_Md_layBest 178 [.ref r0, .int x1, .int x2, .int x3, .int (h_i h a0 (((14 : Int32) * x2) + x3).toNatClampNeg), v5] [] h Q) : wpx d P_Md_layBest 160 [.ref r0, .int x1, .int x2, .int x3, v4, v5] [] h Q := by
  refine st_aload (pc' := 161) rfl rfl rfl ?_
  refine st_getfr (x := some a0) (Or.inl rfl) rfl hs0 rfl hr1 (pc' := 164) rfl ?_
  refine st_ipush (pc' := 166) (v := 14) rfl rfl (by decide) ?_
  refine st_iload (pc' := 167) rfl rfl rfl ?_
  refine st_imul (pc' := 168) rfl rfl ?_
  refine st_iload (pc' := 169) rfl rfl rfl ?_
  refine st_iadd (pc' := 170) rfl rfl ?_
  refine st_iaload rfl hs2 hb3 (j := (((14 : Int32) * x2) + x3).toNatClampNeg) rfl (pc' := 171) rfl ?_
  refine st_istore (pc' := 173) (ls' := [.ref r0, .int x1, .int x2, .int x3, .int (h_i h a0 (((14 : Int32) * x2) + x3).toNatClampNeg), v5]) rfl rfl (Nat.le_of_ble_eq_true rfl) rfl ?_
  refine st_iload (pc' := 175) rfl rfl rfl ?_
  exact st_if_ge (pc' := 178) rfl rfl kt kf
theorem B_Md_layBest_178 {d : Nat} {h : PH} {Q : PQ} {r0 : Nat} {x1 : Int32} {x2 : Int32} {x3 : Int32} {x4 : Int32} {v5 : Value}  (k : wpx d P_Md_layBest 257 [.ref r0, .int x1, .int x2, .int x3, .int x4, v5] [] h Q) : wpx d P_Md_layBest 178 [.ref r0, .int x1, .int x2, .int x3, .int x4, v5] [] h Q := by
  exact st_goto rfl k
theorem B_Md_layBest_181 {d : Nat} {h : PH} {Q : PQ} {r0 : Nat} {x1 : Int32} {x2 : Int32} {x3 : Int32} {x4 : Int32} {v5 : Value} {a0 : Nat} {n1 : Nat} (hs0 : h_sh h r0 = some (0, 12)) (hr1 : h_r h r0 36 = some a0) (hs2 : h_sh h a0 = some (1, n1)) (hb3 : vp_in x2 n1) (k : wpx d P_Md_layBest 194 [.ref r0, .int x1, .int x2, .int x3, .int x4, .int 0] [] (w_i h r0 38 (h_i h a0 x2.toNatClampNeg)) Q) : wpx d P_Md_layBest 181 [.ref r0, .int x1, .int x2, .int x3, .int x4, v5] [] h Q := by
  refine st_aload (pc' := 182) rfl rfl rfl ?_
  refine st_aload (pc' := 183) rfl rfl rfl ?_
  refine st_getfr (x := some a0) (Or.inl rfl) rfl hs0 rfl hr1 (pc' := 186) rfl ?_
  refine st_iload (pc' := 187) rfl rfl rfl ?_
  refine st_iaload rfl hs2 hb3 (j := x2.toNatClampNeg) rfl (pc' := 188) rfl ?_
  refine st_putf (h' := w_i h r0 38 (h_i h a0 x2.toNatClampNeg)) (Or.inl rfl) rfl hs0 rfl rfl rfl (pc' := 191) rfl ?_
  refine st_ipush (pc' := 192) (v := 0) rfl rfl (by decide) ?_
  refine st_istore (pc' := 194) (ls' := [.ref r0, .int x1, .int x2, .int x3, .int x4, .int 0]) rfl rfl (Nat.le_of_ble_eq_true rfl) rfl ?_
  exact k
theorem B_Md_layBest_194 {d : Nat} {h : PH} {Q : PQ} {r0 : Nat} {x1 : Int32} {x2 : Int32} {x3 : Int32} {x4 : Int32} {x5 : Int32} (hs0 : h_sh h r0 = some (0, 12)) (kt : (h_i h r0 38) ≤ x5 → wpx d P_Md_layBest 229 [.ref r0, .int x1, .int x2, .int x3, .int x4, .int x5] [] h Q) (kf : ¬ ((h_i h r0 38) ≤ x5) → wpx d P_Md_layBest 203 [.ref r0, .int x1, .int x2, .int x3, .int x4, .int x5] [] h Q) : wpx d P_Md_layBest 194 [.ref r0, .int x1, .int x2, .int x3, .int x4, .int x5] [] h Q := by
  refine st_iload (pc' := 196) rfl rfl rfl ?_
  refine st_aload (pc' := 197) rfl rfl rfl ?_
  refine st_getfi (Or.inl rfl) rfl hs0 rfl (pc' := 200) rfl ?_
  exact st_icmp_ge (pc' := 203) rfl rfl kt kf
theorem B_Md_layBest_203 {d : Nat} {h : PH} {Q : PQ} {r0 : Nat} {x1 : Int32} {x2 : Int32} {x3 : Int32} {x4 : Int32} {x5 : Int32} {a0 : Nat} {a1 : Nat} {n2 : Nat} {n3 : Nat} (hs0 : h_sh h r0 = some (0, 12)) (hr1 : h_r h r0 37 = some a0) (hr2 : h_r h r0 35 = some a1) (hs3 : h_sh h a1 = some (1, n2)) (hb4 : vp_in (((800 : Int32) * x2) + x5) n2) (hs5 : h_sh h a0 = some (1, n3)) (hb6 : vp_in x5 n3) (k : wpx d P_Md_layBest 194 [.ref r0, .int x1, .int x2, .int x3, .int x4, .int (x5 + 1)] [] (w_i h a0 x5.toNatClampNeg (h_i h a1 (((800 : Int32) * x2) + x5).toNatClampNeg)) Q) : wpx d P_Md_layBest 203 [.ref r0, .int x1, .int x2, .int x3, .int x4, .int x5] [] h Q := by
  refine st_aload (pc' := 204) rfl rfl rfl ?_
  refine st_getfr (x := some a0) (Or.inl rfl) rfl hs0 rfl hr1 (pc' := 207) rfl ?_
  refine st_iload (pc' := 209) rfl rfl rfl ?_
  refine st_aload (pc' := 210) rfl rfl rfl ?_
  refine st_getfr (x := some a1) (Or.inl rfl) rfl hs0 rfl hr2 (pc' := 213) rfl ?_
  refine st_ipush (pc' := 216) (v := 800) rfl rfl (by decide) ?_
  refine st_iload (pc' := 217) rfl rfl rfl ?_
  refine st_imul (pc' := 218) rfl rfl ?_
  refine st_iload (pc' := 220) rfl rfl rfl ?_
  refine st_iadd (pc' := 221) rfl rfl ?_
  refine st_iaload rfl hs3 hb4 (j := (((800 : Int32) * x2) + x5).toNatClampNeg) rfl (pc' := 222) rfl ?_
  refine st_iastore rfl hs5 hb6 (j := x5.toNatClampNeg) rfl (pc' := 223) rfl ?_
  refine st_iinc (pc' := 226) (v := 1) (ls' := [.ref r0, .int x1, .int x2, .int x3, .int x4, .int (x5 + 1)]) rfl rfl rfl (by decide) rfl ?_
  exact st_goto rfl k
theorem B_Md_layBest_229 {d : Nat} {h : PH} {Q : PQ} {r0 : Nat} {x1 : Int32} {x2 : Int32} {x3 : Int32} {x4 : Int32} {x5 : Int32} {a0 : Nat} {n1 : Nat} (hs0 : h_sh h r0 = some (0, 12)) (hr1 : h_r h r0 2 = some a0) (hs2 : h_sh h a0 = some (1, n1)) (hb3 : vp_in x3 n1) (k : wpm d 206 [.ref r0, .int x2] h (fun r h' => wpx d P_Md_layBest 242 [.ref r0, .int x1, .int x2, .int x3, .int x4, .int x5] (r.toList ++ [.int (h_i h a0 x3.toNatClampNeg), .int x3, .ref r0]) h' Q)) : wpx d P_Md_layBest 229 [.ref r0, .int x1, .int x2, .int x3, .int x4, .int x5] [] h Q := by
  refine st_aload (pc' := 230) rfl rfl rfl ?_
  refine st_iload (pc' := 231) rfl rfl rfl ?_
  refine st_aload (pc' := 232) rfl rfl rfl ?_
  refine st_getfr (x := some a0) (Or.inl rfl) rfl hs0 rfl hr1 (pc' := 235) rfl ?_
  refine st_iload (pc' := 236) rfl rfl rfl ?_
  refine st_iaload rfl hs2 hb3 (j := x3.toNatClampNeg) rfl (pc' := 237) rfl ?_
  refine st_aload (pc' := 238) rfl rfl rfl ?_
  refine st_iload (pc' := 239) rfl rfl rfl ?_
  exact st_call (pc' := 242) (as := [.ref r0, .int x2]) (rest := [.int (h_i h a0 x3.toNatClampNeg), .int x3, .ref r0]) rfl rfl (Nat.le_of_ble_eq_true rfl) rfl rfl (Nat.le_of_ble_eq_true rfl) (kd := 1) (o := 12) rfl rfl (beq_iff_eq.mpr hs0) k
theorem B_Md_layBest_242 {d : Nat} {h : PH} {Q : PQ} {r0 : Nat} {x1 : Int32} {x2 : Int32} {x3 : Int32} {x4 : Int32} {x5 : Int32} {q0 : Nat} {s1 : Int32} {s2 : Int32} {s3 : Int32}  (k : wpm d 172 [.int s2, .int s3] h (fun r h' => wpx d P_Md_layBest 245 [.ref r0, .int x1, .int x2, .int x3, .int x4, .int x5] (r.toList ++ [.int s1, .ref q0]) h' Q)) : wpx d P_Md_layBest 242 [.ref r0, .int x1, .int x2, .int x3, .int x4, .int x5] [.int s3, .int s2, .int s1, .ref q0] h Q := by
  exact st_call (pc' := 245) (as := [.int s2, .int s3]) (rest := [.int s1, .ref q0]) rfl rfl (Nat.le_of_ble_eq_true rfl) rfl rfl (Nat.le_of_ble_eq_true rfl) (kd := 0) (o := 12) rfl rfl rfl k
theorem B_Md_layBest_245 {d : Nat} {h : PH} {Q : PQ} {r0 : Nat} {x1 : Int32} {x2 : Int32} {x3 : Int32} {x4 : Int32} {x5 : Int32} {q0 : Nat} {s1 : Int32} {s2 : Int32} (hs0 : h_sh h q0 = some (0, 12)) (k : wpm d 217 [.ref q0, .int s1, .int s2] h (fun r h' => wpx d P_Md_layBest 248 [.ref r0, .int x1, .int x2, .int x3, .int x4, .int x5] (r.toList ++ []) h' Q)) : wpx d P_Md_layBest 245 [.ref r0, .int x1, .int x2, .int x3, .int x4, .int x5] [.int s2, .int s1, .ref q0] h Q := by
  exact st_call (pc' := 248) (as := [.ref q0, .int s1, .int s2]) (rest := []) rfl rfl (Nat.le_of_ble_eq_true rfl) rfl rfl (Nat.le_of_ble_eq_true rfl) (kd := 1) (o := 12) rfl rfl (beq_iff_eq.mpr hs0) k
theorem B_Md_layBest_248 {d : Nat} {h : PH} {Q : PQ} {r0 : Nat} {x1 : Int32} {x2 : Int32} {x3 : Int32} {x4 : Int32} {x5 : Int32} (hs0 : h_sh h r0 = some (0, 12)) (k : wpm d 219 [.ref r0, .int x4] h (fun r h' => wpx d P_Md_layBest 255 [.ref r0, .int x1, .int x2, .int x3, .int x4, .int x5] (r.toList ++ [.int x1]) h' Q)) : wpx d P_Md_layBest 248 [.ref r0, .int x1, .int x2, .int x3, .int x4, .int x5] [] h Q := by
  refine st_iload (pc' := 249) rfl rfl rfl ?_
  refine st_aload (pc' := 250) rfl rfl rfl ?_
  refine st_iload (pc' := 252) rfl rfl rfl ?_
  exact st_call (pc' := 255) (as := [.ref r0, .int x4]) (rest := [.int x1]) rfl rfl (Nat.le_of_ble_eq_true rfl) rfl rfl (Nat.le_of_ble_eq_true rfl) (kd := 1) (o := 12) rfl rfl (beq_iff_eq.mpr hs0) k
theorem B_Md_layBest_255 {d : Nat} {h : PH} {Q : PQ} {r0 : Nat} {x1 : Int32} {x2 : Int32} {x3 : Int32} {x4 : Int32} {x5 : Int32} {s0 : Int32} {s1 : Int32}  (k : wpx d P_Md_layBest 257 [.ref r0, .int (s0 ||| s1), .int x2, .int x3, .int x4, .int x5] [] h Q) : wpx d P_Md_layBest 255 [.ref r0, .int x1, .int x2, .int x3, .int x4, .int x5] [.int s1, .int s0] h Q := by
  refine st_ior (pc' := 256) rfl rfl ?_
  refine st_istore (pc' := 257) (ls' := [.ref r0, .int (s0 ||| s1), .int x2, .int x3, .int x4, .int x5]) rfl rfl (Nat.le_of_ble_eq_true rfl) rfl ?_
  exact k
theorem B_Md_layBest_257 {d : Nat} {h : PH} {Q : PQ} {r0 : Nat} {x1 : Int32} {x2 : Int32} {x3 : Int32} {x4 : Int32} {v5 : Value}  (k : wpx d P_Md_layBest 143 [.ref r0, .int x1, .int x2, .int (x3 + 1), .int x4, v5] [] h Q) : wpx d P_Md_layBest 257 [.ref r0, .int x1, .int x2, .int x3, .int x4, v5] [] h Q := by
  refine st_iinc (pc' := 260) (v := 1) (ls' := [.ref r0, .int x1, .int x2, .int (x3 + 1), .int x4, v5]) rfl rfl rfl (by decide) rfl ?_
  exact st_goto rfl k
theorem B_Md_layBest_263 {d : Nat} {h : PH} {Q : PQ} {r0 : Nat} {x1 : Int32} {x2 : Int32} {x3 : Int32} {v4 : Value} {v5 : Value}  (k : wpx d P_Md_layBest 133 [.ref r0, .int x1, .int (x2 + 1), .int x3, v4, v5] [] h Q) : wpx d P_Md_layBest 263 [.ref r0, .int x1, .int x2, .int x3, v4, v5] [] h Q := by
  refine st_iinc (pc' := 266) (v := 1) (ls' := [.ref r0, .int x1, .int (x2 + 1), .int x3, v4, v5]) rfl rfl rfl (by decide) rfl ?_
  exact st_goto rfl k
theorem B_Md_layBest_269 {d : Nat} {h : PH} {Q : PQ} {r0 : Nat} {x1 : Int32} {x2 : Int32} {v3 : Value} {v4 : Value} {v5 : Value}  (k : wpx d P_Md_layBest 125 [.ref r0, .int x1, .int x2, v3, v4, v5] [] h Q) : wpx d P_Md_layBest 269 [.ref r0, .int x1, .int x2, v3, v4, v5] [] h Q := by
  exact st_goto rfl k
theorem B_Md_layBest_272 {d : Nat} {h : PH} {Q : PQ} {r0 : Nat} {x1 : Int32} {v2 : Value} {v3 : Value} {v4 : Value} {v5 : Value}  (k : Q none h) : wpx d P_Md_layBest 272 [.ref r0, .int x1, v2, v3, v4, v5] [] h Q := by
  exact st_return rfl k
theorem B_Md_takesWord_0 {d : Nat} {h : PH} {Q : PQ} {r0 : Nat} {r1 : Nat} {x2 : Int32} {x3 : Int32} {v4 : Value}  (k : wpx d P_Md_takesWord 3 [.ref r0, .ref r1, .int x2, .int x3, .int 0] [] h Q) : wpx d P_Md_takesWord 0 [.ref r0, .ref r1, .int x2, .int x3, v4] [] h Q := by
  refine st_ipush (pc' := 1) (v := 0) rfl rfl (by decide) ?_
  refine st_istore (pc' := 3) (ls' := [.ref r0, .ref r1, .int x2, .int x3, .int 0]) rfl rfl (Nat.le_of_ble_eq_true rfl) rfl ?_
  exact k
theorem B_Md_takesWord_3 {d : Nat} {h : PH} {Q : PQ} {r0 : Nat} {r1 : Nat} {x2 : Int32} {x3 : Int32} {x4 : Int32}  (kt : x3 ≤ x4 → wpx d P_Md_takesWord 28 [.ref r0, .ref r1, .int x2, .int x3, .int x4] [] h Q) (kf : ¬ (x3 ≤ x4) → wpx d P_Md_takesWord 9 [.ref r0, .ref r1, .int x2, .int x3, .int x4] [] h Q) : wpx d P_Md_takesWord 3 [.ref r0, .ref r1, .int x2, .int x3, .int x4] [] h Q := by
  refine st_iload (pc' := 5) rfl rfl rfl ?_
  refine st_iload (pc' := 6) rfl rfl rfl ?_
  exact st_icmp_ge (pc' := 9) rfl rfl kt kf
theorem B_Md_takesWord_9 {d : Nat} {h : PH} {Q : PQ} {r0 : Nat} {r1 : Nat} {x2 : Int32} {x3 : Int32} {x4 : Int32} {a0 : Nat} {n1 : Nat} {n2 : Nat} (hs0 : h_sh h r0 = some (0, 12)) (hr1 : h_r h r0 23 = some a0) (hs2 : h_sh h r1 = some (1, n1)) (hb3 : vp_in (x2 + x4) n1) (hs4 : h_sh h a0 = some (1, n2)) (hb5 : vp_in x4 n2) (k : wpx d P_Md_takesWord 3 [.ref r0, .ref r1, .int x2, .int x3, .int (x4 + 1)] [] (w_i h a0 x4.toNatClampNeg (h_i h r1 (x2 + x4).toNatClampNeg)) Q) : wpx d P_Md_takesWord 9 [.ref r0, .ref r1, .int x2, .int x3, .int x4] [] h Q := by
  refine st_aload (pc' := 10) rfl rfl rfl ?_
  refine st_getfr (x := some a0) (Or.inl rfl) rfl hs0 rfl hr1 (pc' := 13) rfl ?_
  refine st_iload (pc' := 15) rfl rfl rfl ?_
  refine st_aload (pc' := 16) rfl rfl rfl ?_
  refine st_iload (pc' := 17) rfl rfl rfl ?_
  refine st_iload (pc' := 19) rfl rfl rfl ?_
  refine st_iadd (pc' := 20) rfl rfl ?_
  refine st_iaload rfl hs2 hb3 (j := (x2 + x4).toNatClampNeg) rfl (pc' := 21) rfl ?_
  refine st_iastore rfl hs4 hb5 (j := x4.toNatClampNeg) rfl (pc' := 22) rfl ?_
  refine st_iinc (pc' := 25) (v := 1) (ls' := [.ref r0, .ref r1, .int x2, .int x3, .int (x4 + 1)]) rfl rfl rfl (by decide) rfl ?_
  exact st_goto rfl k
theorem B_Md_takesWord_28 {d : Nat} {h : PH} {Q : PQ} {r0 : Nat} {r1 : Nat} {x2 : Int32} {x3 : Int32} {x4 : Int32} (hs0 : h_sh h r0 = some (0, 12)) (k : Q none (w_i h r0 24 x3)) : wpx d P_Md_takesWord 28 [.ref r0, .ref r1, .int x2, .int x3, .int x4] [] h Q := by
  refine st_aload (pc' := 29) rfl rfl rfl ?_
  refine st_iload (pc' := 30) rfl rfl rfl ?_
  refine st_putf (h' := w_i h r0 24 x3) (Or.inl rfl) rfl hs0 rfl rfl rfl (pc' := 33) rfl ?_
  exact st_return rfl k
theorem B_Md_witness_0 {d : Nat} {h : PH} {Q : PQ} {r0 : Nat} {v1 : Value} {v2 : Value} {v3 : Value} {v4 : Value} (hs0 : h_sh h r0 = some (0, 12)) (k : wpm d 211 [.ref r0] (w_i h r0 0 0) (fun r h' => wpx d P_Md_witness 9 [.ref r0, v1, v2, v3, v4] (r.toList ++ []) h' Q)) : wpx d P_Md_witness 0 [.ref r0, v1, v2, v3, v4] [] h Q := by
  refine st_aload (pc' := 1) rfl rfl rfl ?_
  refine st_ipush (pc' := 2) (v := 0) rfl rfl (by decide) ?_
  refine st_putf (h' := w_i h r0 0 0) (Or.inl rfl) rfl hs0 rfl rfl rfl (pc' := 5) rfl ?_
  refine st_aload (pc' := 6) rfl rfl rfl ?_
  exact st_call (pc' := 9) (as := [.ref r0]) (rest := []) rfl rfl (Nat.le_of_ble_eq_true rfl) rfl rfl (Nat.le_of_ble_eq_true rfl) (kd := 1) (o := 12) rfl rfl (beq_iff_eq.mpr hs0) k
theorem B_Md_witness_9 {d : Nat} {h : PH} {Q : PQ} {r0 : Nat} {v1 : Value} {v2 : Value} {v3 : Value} {v4 : Value} (hs0 : h_sh h r0 = some (0, 12)) (kt : 0 ≤ (h_i h r0 34) → wpx d P_Md_witness 18 [.ref r0, v1, v2, v3, v4] [] h Q) (kf : ¬ (0 ≤ (h_i h r0 34)) → wpx d P_Md_witness 16 [.ref r0, v1, v2, v3, v4] [] h Q) : wpx d P_Md_witness 9 [.ref r0, v1, v2, v3, v4] [] h Q := by
  refine st_aload (pc' := 10) rfl rfl rfl ?_
  refine st_getfi (Or.inl rfl) rfl hs0 rfl (pc' := 13) rfl ?_
  exact st_if_ge (pc' := 16) rfl rfl kt kf
theorem B_Md_witness_16 {d : Nat} {h : PH} {Q : PQ} {r0 : Nat} {v1 : Value} {v2 : Value} {v3 : Value} {v4 : Value}  (k : Q (some (.int (-1))) h) : wpx d P_Md_witness 16 [.ref r0, v1, v2, v3, v4] [] h Q := by
  refine st_ipush (pc' := 17) (v := (-1)) rfl rfl (by decide) ?_
  exact st_ireturn (ty := .int) rfl rfl rfl k
theorem B_Md_witness_18 {d : Nat} {h : PH} {Q : PQ} {r0 : Nat} {v1 : Value} {v2 : Value} {v3 : Value} {v4 : Value} (hs0 : h_sh h r0 = some (0, 12)) (k : wpm d 220 [.ref r0] h (fun r h' => wpx d P_Md_witness 22 [.ref r0, v1, v2, v3, v4] (r.toList ++ []) h' Q)) : wpx d P_Md_witness 18 [.ref r0, v1, v2, v3, v4] [] h Q := by
  refine st_aload (pc' := 19) rfl rfl rfl ?_
  exact st_call (pc' := 22) (as := [.ref r0]) (rest := []) rfl rfl (Nat.le_of_ble_eq_true rfl) rfl rfl (Nat.le_of_ble_eq_true rfl) (kd := 1) (o := 12) rfl rfl (beq_iff_eq.mpr hs0) k
theorem B_Md_witness_22 {d : Nat} {h : PH} {Q : PQ} {r0 : Nat} {v1 : Value} {v2 : Value} {v3 : Value} {v4 : Value}  (k : wpx d P_Md_witness 26 [.ref r0, .int (-1), .int 0, v3, v4] [] h Q) : wpx d P_Md_witness 22 [.ref r0, v1, v2, v3, v4] [] h Q := by
  refine st_ipush (pc' := 23) (v := (-1)) rfl rfl (by decide) ?_
  refine st_istore (pc' := 24) (ls' := [.ref r0, .int (-1), v2, v3, v4]) rfl rfl (Nat.le_of_ble_eq_true rfl) rfl ?_
  refine st_ipush (pc' := 25) (v := 0) rfl rfl (by decide) ?_
  refine st_istore (pc' := 26) (ls' := [.ref r0, .int (-1), .int 0, v3, v4]) rfl rfl (Nat.le_of_ble_eq_true rfl) rfl ?_
  exact k
theorem B_Md_witness_26 {d : Nat} {h : PH} {Q : PQ} {r0 : Nat} {x1 : Int32} {x2 : Int32} {v3 : Value} {v4 : Value} (hs0 : h_sh h r0 = some (0, 12)) (kt : (h_i h r0 32) ≤ x2 → wpx d P_Md_witness 181 [.ref r0, .int x1, .int x2, v3, v4] [] h Q) (kf : ¬ ((h_i h r0 32) ≤ x2) → wpx d P_Md_witness 34 [.ref r0, .int x1, .int x2, v3, v4] [] h Q) : wpx d P_Md_witness 26 [.ref r0, .int x1, .int x2, v3, v4] [] h Q := by
  refine st_iload (pc' := 27) rfl rfl rfl ?_
  refine st_aload (pc' := 28) rfl rfl rfl ?_
  refine st_getfi (Or.inl rfl) rfl hs0 rfl (pc' := 31) rfl ?_
  exact st_icmp_ge (pc' := 34) rfl rfl kt kf
theorem B_Md_witness_34 {d : Nat} {h : PH} {Q : PQ} {r0 : Nat} {x1 : Int32} {x2 : Int32} {v3 : Value} {v4 : Value}  (k : wpx d P_Md_witness 39 [.ref r0, .int x1, .int x2, .int 0, .int 0] [] h Q) : wpx d P_Md_witness 34 [.ref r0, .int x1, .int x2, v3, v4] [] h Q := by
  refine st_ipush (pc' := 35) (v := 0) rfl rfl (by decide) ?_
  refine st_istore (pc' := 36) (ls' := [.ref r0, .int x1, .int x2, .int 0, v4]) rfl rfl (Nat.le_of_ble_eq_true rfl) rfl ?_
  refine st_ipush (pc' := 37) (v := 0) rfl rfl (by decide) ?_
  refine st_istore (pc' := 39) (ls' := [.ref r0, .int x1, .int x2, .int 0, .int 0]) rfl rfl (Nat.le_of_ble_eq_true rfl) rfl ?_
  exact k
theorem B_Md_witness_39 {d : Nat} {h : PH} {Q : PQ} {r0 : Nat} {x1 : Int32} {x2 : Int32} {x3 : Int32} {x4 : Int32} (hs0 : h_sh h r0 = some (0, 12)) (kt : (h_i h r0 4) ≤ x4 → wpx d P_Md_witness 79 [.ref r0, .int x1, .int x2, .int x3, .int x4] [] h Q) (kf : ¬ ((h_i h r0 4) ≤ x4) → wpx d P_Md_witness 48 [.ref r0, .int x1, .int x2, .int x3, .int x4] [] h Q) : wpx d P_Md_witness 39 [.ref r0, .int x1, .int x2, .int x3, .int x4] [] h Q := by
  refine st_iload (pc' := 41) rfl rfl rfl ?_
  refine st_aload (pc' := 42) rfl rfl rfl ?_
  refine st_getfi (Or.inl rfl) rfl hs0 rfl (pc' := 45) rfl ?_
  exact st_icmp_ge (pc' := 48) rfl rfl kt kf
theorem B_Md_witness_48 {d : Nat} {h : PH} {Q : PQ} {r0 : Nat} {x1 : Int32} {x2 : Int32} {x3 : Int32} {x4 : Int32} {a0 : Nat} {n1 : Nat} (hs0 : h_sh h r0 = some (0, 12)) (hr1 : h_r h r0 31 = some a0) (hs2 : h_sh h a0 = some (1, n1)) (hb3 : vp_in (((14 : Int32) * x2) + x4) n1) (kt : ¬ ((h_i h a0 (((14 : Int32) * x2) + x4).toNatClampNeg) = ((-2) : Int32)) → wpx d P_Md_witness 70 [.ref r0, .int x1, .int x2, .int x3, .int x4] [.int x3] h Q) (kf : (h_i h a0 (((14 : Int32) * x2) + x4).toNatClampNeg) = ((-2) : Int32) → wpx d P_Md_witness 66 [.ref r0, .int x1, .int x2, .int x3, .int x4] [.int x3] h Q) : wpx d P_Md_witness 48 [.ref r0, .int x1, .int x2, .int x3, .int x4] [] h Q := by
  refine st_iload (pc' := 49) rfl rfl rfl ?_
  refine st_aload (pc' := 50) rfl rfl rfl ?_
  refine st_getfr (x := some a0) (Or.inl rfl) rfl hs0 rfl hr1 (pc' := 53) rfl ?_
  refine st_ipush (pc' := 55) (v := 14) rfl rfl (by decide) ?_
  refine st_iload (pc' := 56) rfl rfl rfl ?_
  refine st_imul (pc' := 57) rfl rfl ?_
  refine st_iload (pc' := 59) rfl rfl rfl ?_
  refine st_iadd (pc' := 60) rfl rfl ?_
  refine st_iaload rfl hs2 hb3 (j := (((14 : Int32) * x2) + x4).toNatClampNeg) rfl (pc' := 61) rfl ?_
  refine st_ipush (pc' := 63) (v := (-2)) rfl rfl (by decide) ?_
  exact st_icmp_ne (pc' := 66) rfl rfl kt kf
theorem B_Md_witness_66 {d : Nat} {h : PH} {Q : PQ} {r0 : Nat} {x1 : Int32} {x2 : Int32} {x3 : Int32} {x4 : Int32} {s0 : Int32}  (k : wpx d P_Md_witness 71 [.ref r0, .int x1, .int x2, .int x3, .int x4] [.int 1, .int s0] h Q) : wpx d P_Md_witness 66 [.ref r0, .int x1, .int x2, .int x3, .int x4] [.int s0] h Q := by
  refine st_ipush (pc' := 67) (v := 1) rfl rfl (by decide) ?_
  exact st_goto rfl k
theorem B_Md_witness_70 {d : Nat} {h : PH} {Q : PQ} {r0 : Nat} {x1 : Int32} {x2 : Int32} {x3 : Int32} {x4 : Int32} {s0 : Int32}  (k : wpx d P_Md_witness 71 [.ref r0, .int x1, .int x2, .int x3, .int x4] [.int 0, .int s0] h Q) : wpx d P_Md_witness 70 [.ref r0, .int x1, .int x2, .int x3, .int x4] [.int s0] h Q := by
  refine st_ipush (pc' := 71) (v := 0) rfl rfl (by decide) ?_
  exact k
theorem B_Md_witness_71 {d : Nat} {h : PH} {Q : PQ} {r0 : Nat} {x1 : Int32} {x2 : Int32} {x3 : Int32} {x4 : Int32} {s0 : Int32} {s1 : Int32}  (k : wpx d P_Md_witness 39 [.ref r0, .int x1, .int x2, .int (s0 ||| s1), .int (x4 + 1)] [] h Q) : wpx d P_Md_witness 71 [.ref r0, .int x1, .int x2, .int x3, .int x4] [.int s1, .int s0] h Q := by
  refine st_ior (pc' := 72) rfl rfl ?_
  refine st_istore (pc' := 73) (ls' := [.ref r0, .int x1, .int x2, .int (s0 ||| s1), .int x4]) rfl rfl (Nat.le_of_ble_eq_true rfl) rfl ?_
  refine st_iinc (pc' := 76) (v := 1) (ls' := [.ref r0, .int x1, .int x2, .int (s0 ||| s1), .int (x4 + 1)]) rfl rfl rfl (by decide) rfl ?_
  exact st_goto rfl k
theorem B_Md_witness_79 {d : Nat} {h : PH} {Q : PQ} {r0 : Nat} {x1 : Int32} {x2 : Int32} {x3 : Int32} {x4 : Int32}  (kt : x3 = 0 → wpx d P_Md_witness 175 [.ref r0, .int x1, .int x2, .int x3, .int x4] [] h Q) (kf : ¬ (x3 = 0) → wpx d P_Md_witness 83 [.ref r0, .int x1, .int x2, .int x3, .int x4] [] h Q) : wpx d P_Md_witness 79 [.ref r0, .int x1, .int x2, .int x3, .int x4] [] h Q := by
  refine st_iload (pc' := 80) rfl rfl rfl ?_
  exact st_if_eq (pc' := 83) rfl rfl kt kf
theorem B_Md_witness_83 {d : Nat} {h : PH} {Q : PQ} {r0 : Nat} {x1 : Int32} {x2 : Int32} {x3 : Int32} {x4 : Int32} {a0 : Nat} {n1 : Nat} (hs0 : h_sh h r0 = some (0, 12)) (hr1 : h_r h r0 36 = some a0) (hs2 : h_sh h a0 = some (1, n1)) (hb3 : vp_in x2 n1) (kt : 0 ≤ (h_i h a0 x2.toNatClampNeg) → wpx d P_Md_witness 95 [.ref r0, .int x1, .int x2, .int x3, .int x4] [] h Q) (kf : ¬ (0 ≤ (h_i h a0 x2.toNatClampNeg)) → wpx d P_Md_witness 92 [.ref r0, .int x1, .int x2, .int x3, .int x4] [] h Q) : wpx d P_Md_witness 83 [.ref r0, .int x1, .int x2, .int x3, .int x4] [] h Q := by
  refine st_aload (pc' := 84) rfl rfl rfl ?_
  refine st_getfr (x := some a0) (Or.inl rfl) rfl hs0 rfl hr1 (pc' := 87) rfl ?_
  refine st_iload (pc' := 88) rfl rfl rfl ?_
  refine st_iaload rfl hs2 hb3 (j := x2.toNatClampNeg) rfl (pc' := 89) rfl ?_
  exact st_if_ge (pc' := 92) rfl rfl kt kf
theorem B_Md_witness_92 {d : Nat} {h : PH} {Q : PQ} {r0 : Nat} {x1 : Int32} {x2 : Int32} {x3 : Int32} {x4 : Int32}  (k : wpx d P_Md_witness 175 [.ref r0, .int x1, .int x2, .int x3, .int x4] [] h Q) : wpx d P_Md_witness 92 [.ref r0, .int x1, .int x2, .int x3, .int x4] [] h Q := by
  exact st_goto rfl k
theorem B_Md_witness_95 {d : Nat} {h : PH} {Q : PQ} {r0 : Nat} {x1 : Int32} {x2 : Int32} {x3 : Int32} {x4 : Int32} {a0 : Nat} {n1 : Nat} (hs0 : h_sh h r0 = some (0, 12)) (hr1 : h_r h r0 36 = some a0) (hs2 : h_sh h a0 = some (1, n1)) (hb3 : vp_in x2 n1) (k : wpx d P_Md_witness 108 [.ref r0, .int x1, .int x2, .int x3, .int 0] [] (w_i h r0 38 (h_i h a0 x2.toNatClampNeg)) Q) : wpx d P_Md_witness 95 [.ref r0, .int x1, .int x2, .int x3, .int x4] [] h Q := by
  refine st_aload (pc' := 96) rfl rfl rfl ?_
  refine st_aload (pc' := 97) rfl rfl rfl ?_
  refine st_getfr (x := some a0) (Or.inl rfl) rfl hs0 rfl hr1 (pc' := 100) rfl ?_
  refine st_iload (pc' := 101) rfl rfl rfl ?_
  refine st_iaload rfl hs2 hb3 (j := x2.toNatClampNeg) rfl (pc' := 102) rfl ?_
  refine st_putf (h' := w_i h r0 38 (h_i h a0 x2.toNatClampNeg)) (Or.inl rfl) rfl hs0 rfl rfl rfl (pc' := 105) rfl ?_
  refine st_ipush (pc' := 106) (v := 0) rfl rfl (by decide) ?_
  refine st_istore (pc' := 108) (ls' := [.ref r0, .int x1, .int x2, .int x3, .int 0]) rfl rfl (Nat.le_of_ble_eq_true rfl) rfl ?_
  exact k
theorem B_Md_witness_108 {d : Nat} {h : PH} {Q : PQ} {r0 : Nat} {x1 : Int32} {x2 : Int32} {x3 : Int32} {x4 : Int32} (hs0 : h_sh h r0 = some (0, 12)) (kt : (h_i h r0 38) ≤ x4 → wpx d P_Md_witness 143 [.ref r0, .int x1, .int x2, .int x3, .int x4] [] h Q) (kf : ¬ ((h_i h r0 38) ≤ x4) → wpx d P_Md_witness 117 [.ref r0, .int x1, .int x2, .int x3, .int x4] [] h Q) : wpx d P_Md_witness 108 [.ref r0, .int x1, .int x2, .int x3, .int x4] [] h Q := by
  refine st_iload (pc' := 110) rfl rfl rfl ?_
  refine st_aload (pc' := 111) rfl rfl rfl ?_
  refine st_getfi (Or.inl rfl) rfl hs0 rfl (pc' := 114) rfl ?_
  exact st_icmp_ge (pc' := 117) rfl rfl kt kf
theorem B_Md_witness_117 {d : Nat} {h : PH} {Q : PQ} {r0 : Nat} {x1 : Int32} {x2 : Int32} {x3 : Int32} {x4 : Int32} {a0 : Nat} {a1 : Nat} {n2 : Nat} {n3 : Nat} (hs0 : h_sh h r0 = some (0, 12)) (hr1 : h_r h r0 37 = some a0) (hr2 : h_r h r0 35 = some a1) (hs3 : h_sh h a1 = some (1, n2)) (hb4 : vp_in (((800 : Int32) * x2) + x4) n2) (hs5 : h_sh h a0 = some (1, n3)) (hb6 : vp_in x4 n3) (k : wpx d P_Md_witness 108 [.ref r0, .int x1, .int x2, .int x3, .int (x4 + 1)] [] (w_i h a0 x4.toNatClampNeg (h_i h a1 (((800 : Int32) * x2) + x4).toNatClampNeg)) Q) : wpx d P_Md_witness 117 [.ref r0, .int x1, .int x2, .int x3, .int x4] [] h Q := by
  refine st_aload (pc' := 118) rfl rfl rfl ?_
  refine st_getfr (x := some a0) (Or.inl rfl) rfl hs0 rfl hr1 (pc' := 121) rfl ?_
  refine st_iload (pc' := 123) rfl rfl rfl ?_
  refine st_aload (pc' := 124) rfl rfl rfl ?_
  refine st_getfr (x := some a1) (Or.inl rfl) rfl hs0 rfl hr2 (pc' := 127) rfl ?_
  refine st_ipush (pc' := 130) (v := 800) rfl rfl (by decide) ?_
  refine st_iload (pc' := 131) rfl rfl rfl ?_
  refine st_imul (pc' := 132) rfl rfl ?_
  refine st_iload (pc' := 134) rfl rfl rfl ?_
  refine st_iadd (pc' := 135) rfl rfl ?_
  refine st_iaload rfl hs3 hb4 (j := (((800 : Int32) * x2) + x4).toNatClampNeg) rfl (pc' := 136) rfl ?_
  refine st_iastore rfl hs5 hb6 (j := x4.toNatClampNeg) rfl (pc' := 137) rfl ?_
  refine st_iinc (pc' := 140) (v := 1) (ls' := [.ref r0, .int x1, .int x2, .int x3, .int (x4 + 1)]) rfl rfl rfl (by decide) rfl ?_
  exact st_goto rfl k
theorem B_Md_witness_143 {d : Nat} {h : PH} {Q : PQ} {r0 : Nat} {x1 : Int32} {x2 : Int32} {x3 : Int32} {x4 : Int32}  (kt : x1 < 0 → wpx d P_Md_witness 169 [.ref r0, .int x1, .int x2, .int x3, .int x4] [] h Q) (kf : ¬ (x1 < 0) → wpx d P_Md_witness 147 [.ref r0, .int x1, .int x2, .int x3, .int x4] [] h Q) : wpx d P_Md_witness 143 [.ref r0, .int x1, .int x2, .int x3, .int x4] [] h Q := by
  refine st_iload (pc' := 144) rfl rfl rfl ?_
  exact st_if_lt (pc' := 147) rfl rfl kt kf
theorem B_Md_witness_147 {d : Nat} {h : PH} {Q : PQ} {r0 : Nat} {x1 : Int32} {x2 : Int32} {x3 : Int32} {x4 : Int32} {a0 : Nat} {a1 : Nat} {n2 : Nat} (hs0 : h_sh h r0 = some (0, 12)) (hr1 : h_r h r0 35 = some a0) (hr2 : h_r h r0 36 = some a1) (hs3 : h_sh h a1 = some (1, n2)) (hb4 : vp_in x1 n2) (k : wpm d 218 [.ref r0, .ref a0, .int ((800 : Int32) * x1), .int (h_i h a1 x1.toNatClampNeg)] h (fun r h' => wpx d P_Md_witness 166 [.ref r0, .int x1, .int x2, .int x3, .int x4] (r.toList ++ []) h' Q)) : wpx d P_Md_witness 147 [.ref r0, .int x1, .int x2, .int x3, .int x4] [] h Q := by
  refine st_aload (pc' := 148) rfl rfl rfl ?_
  refine st_aload (pc' := 149) rfl rfl rfl ?_
  refine st_getfr (x := some a0) (Or.inl rfl) rfl hs0 rfl hr1 (pc' := 152) rfl ?_
  refine st_ipush (pc' := 155) (v := 800) rfl rfl (by decide) ?_
  refine st_iload (pc' := 156) rfl rfl rfl ?_
  refine st_imul (pc' := 157) rfl rfl ?_
  refine st_aload (pc' := 158) rfl rfl rfl ?_
  refine st_getfr (x := some a1) (Or.inl rfl) rfl hs0 rfl hr2 (pc' := 161) rfl ?_
  refine st_iload (pc' := 162) rfl rfl rfl ?_
  refine st_iaload rfl hs3 hb4 (j := x1.toNatClampNeg) rfl (pc' := 163) rfl ?_
  exact st_call (pc' := 166) (as := [.ref r0, .ref a0, .int ((800 : Int32) * x1), .int (h_i h a1 x1.toNatClampNeg)]) (rest := []) rfl rfl (Nat.le_of_ble_eq_true rfl) rfl rfl (Nat.le_of_ble_eq_true rfl) (kd := 1) (o := 12) rfl rfl (beq_iff_eq.mpr hs0) k
theorem B_Md_witness_166 {d : Nat} {h : PH} {Q : PQ} {r0 : Nat} {x1 : Int32} {x2 : Int32} {x3 : Int32} {x4 : Int32} {s0 : Int32}  (kt : s0 = 0 → wpx d P_Md_witness 173 [.ref r0, .int x1, .int x2, .int x3, .int x4] [] h Q) (kf : ¬ (s0 = 0) → wpx d P_Md_witness 169 [.ref r0, .int x1, .int x2, .int x3, .int x4] [] h Q) : wpx d P_Md_witness 166 [.ref r0, .int x1, .int x2, .int x3, .int x4] [.int s0] h Q := by
  exact st_if_eq (pc' := 169) rfl rfl kt kf
theorem B_Md_witness_169 {d : Nat} {h : PH} {Q : PQ} {r0 : Nat} {x1 : Int32} {x2 : Int32} {x3 : Int32} {x4 : Int32}  (k : wpx d P_Md_witness 174 [.ref r0, .int x1, .int x2, .int x3, .int x4] [.int x2] h Q) : wpx d P_Md_witness 169 [.ref r0, .int x1, .int x2, .int x3, .int x4] [] h Q := by
  refine st_iload (pc' := 170) rfl rfl rfl ?_
  exact st_goto rfl k
theorem B_Md_witness_173 {d : Nat} {h : PH} {Q : PQ} {r0 : Nat} {x1 : Int32} {x2 : Int32} {x3 : Int32} {x4 : Int32}  (k : wpx d P_Md_witness 174 [.ref r0, .int x1, .int x2, .int x3, .int x4] [.int x1] h Q) : wpx d P_Md_witness 173 [.ref r0, .int x1, .int x2, .int x3, .int x4] [] h Q := by
  refine st_iload (pc' := 174) rfl rfl rfl ?_
  exact k
theorem B_Md_witness_174 {d : Nat} {h : PH} {Q : PQ} {r0 : Nat} {x1 : Int32} {x2 : Int32} {x3 : Int32} {x4 : Int32} {s0 : Int32}  (k : wpx d P_Md_witness 175 [.ref r0, .int s0, .int x2, .int x3, .int x4] [] h Q) : wpx d P_Md_witness 174 [.ref r0, .int x1, .int x2, .int x3, .int x4] [.int s0] h Q := by
  refine st_istore (pc' := 175) (ls' := [.ref r0, .int s0, .int x2, .int x3, .int x4]) rfl rfl (Nat.le_of_ble_eq_true rfl) rfl ?_
  exact k
theorem B_Md_witness_175 {d : Nat} {h : PH} {Q : PQ} {r0 : Nat} {x1 : Int32} {x2 : Int32} {x3 : Int32} {x4 : Int32}  (k : wpx d P_Md_witness 26 [.ref r0, .int x1, .int (x2 + 1), .int x3, .int x4] [] h Q) : wpx d P_Md_witness 175 [.ref r0, .int x1, .int x2, .int x3, .int x4] [] h Q := by
  refine st_iinc (pc' := 178) (v := 1) (ls' := [.ref r0, .int x1, .int (x2 + 1), .int x3, .int x4]) rfl rfl rfl (by decide) rfl ?_
  exact st_goto rfl k
theorem B_Md_witness_181 {d : Nat} {h : PH} {Q : PQ} {r0 : Nat} {x1 : Int32} {x2 : Int32} {v3 : Value} {v4 : Value} {a0 : Nat} {a1 : Nat} {n2 : Nat} (hs0 : h_sh h r0 = some (0, 12)) (hr1 : h_r h r0 35 = some a0) (hr2 : h_r h r0 36 = some a1) (hs3 : h_sh h a1 = some (1, n2)) (hb4 : vp_in x1 n2) (k : wpm d 221 [.ref r0, .ref a0, .int ((800 : Int32) * x1), .int (h_i h a1 x1.toNatClampNeg)] h (fun r h' => wpx d P_Md_witness 200 [.ref r0, .int x1, .int x2, v3, v4] (r.toList ++ []) h' Q)) : wpx d P_Md_witness 181 [.ref r0, .int x1, .int x2, v3, v4] [] h Q := by
  refine st_aload (pc' := 182) rfl rfl rfl ?_
  refine st_aload (pc' := 183) rfl rfl rfl ?_
  refine st_getfr (x := some a0) (Or.inl rfl) rfl hs0 rfl hr1 (pc' := 186) rfl ?_
  refine st_ipush (pc' := 189) (v := 800) rfl rfl (by decide) ?_
  refine st_iload (pc' := 190) rfl rfl rfl ?_
  refine st_imul (pc' := 191) rfl rfl ?_
  refine st_aload (pc' := 192) rfl rfl rfl ?_
  refine st_getfr (x := some a1) (Or.inl rfl) rfl hs0 rfl hr2 (pc' := 195) rfl ?_
  refine st_iload (pc' := 196) rfl rfl rfl ?_
  refine st_iaload rfl hs3 hb4 (j := x1.toNatClampNeg) rfl (pc' := 197) rfl ?_
  exact st_call (pc' := 200) (as := [.ref r0, .ref a0, .int ((800 : Int32) * x1), .int (h_i h a1 x1.toNatClampNeg)]) (rest := []) rfl rfl (Nat.le_of_ble_eq_true rfl) rfl rfl (Nat.le_of_ble_eq_true rfl) (kd := 1) (o := 12) rfl rfl (beq_iff_eq.mpr hs0) k
theorem B_Md_witness_200 {d : Nat} {h : PH} {Q : PQ} {r0 : Nat} {x1 : Int32} {x2 : Int32} {v3 : Value} {v4 : Value} (hs0 : h_sh h r0 = some (0, 12)) (k : Q (some (.int (h_i h r0 24))) h) : wpx d P_Md_witness 200 [.ref r0, .int x1, .int x2, v3, v4] [] h Q := by
  refine st_aload (pc' := 201) rfl rfl rfl ?_
  refine st_getfi (Or.inl rfl) rfl hs0 rfl (pc' := 204) rfl ?_
  exact st_ireturn (ty := .int) rfl rfl rfl k
theorem B_Md_look_0 {d : Nat} {h : PH} {Q : PQ} {r0 : Nat} {v1 : Value} {v2 : Value} {v3 : Value} {v4 : Value} {v5 : Value} {v6 : Value} (hs0 : h_sh h r0 = some (0, 12)) (k : wpm d 211 [.ref r0] (w_i h r0 0 0) (fun r h' => wpx d P_Md_look 9 [.ref r0, v1, v2, v3, v4, v5, v6] (r.toList ++ []) h' Q)) : wpx d P_Md_look 0 [.ref r0, v1, v2, v3, v4, v5, v6] [] h Q := by
  refine st_aload (pc' := 1) rfl rfl rfl ?_
  refine st_ipush (pc' := 2) (v := 0) rfl rfl (by decide) ?_
  refine st_putf (h' := w_i h r0 0 0) (Or.inl rfl) rfl hs0 rfl rfl rfl (pc' := 5) rfl ?_
  refine st_aload (pc' := 6) rfl rfl rfl ?_
  exact st_call (pc' := 9) (as := [.ref r0]) (rest := []) rfl rfl (Nat.le_of_ble_eq_true rfl) rfl rfl (Nat.le_of_ble_eq_true rfl) (kd := 1) (o := 12) rfl rfl (beq_iff_eq.mpr hs0) k
theorem B_Md_look_9 {d : Nat} {h : PH} {Q : PQ} {r0 : Nat} {v1 : Value} {v2 : Value} {v3 : Value} {v4 : Value} {v5 : Value} {v6 : Value} (hs0 : h_sh h r0 = some (0, 12)) (kt : (h_i h r0 34) < 0 → wpx d P_Md_look 18 [.ref r0, v1, v2, v3, v4, v5, v6] [] h Q) (kf : ¬ ((h_i h r0 34) < 0) → wpx d P_Md_look 16 [.ref r0, v1, v2, v3, v4, v5, v6] [] h Q) : wpx d P_Md_look 9 [.ref r0, v1, v2, v3, v4, v5, v6] [] h Q := by
  refine st_aload (pc' := 10) rfl rfl rfl ?_
  refine st_getfi (Or.inl rfl) rfl hs0 rfl (pc' := 13) rfl ?_
  exact st_if_lt (pc' := 16) rfl rfl kt kf
theorem B_Md_look_16 {d : Nat} {h : PH} {Q : PQ} {r0 : Nat} {v1 : Value} {v2 : Value} {v3 : Value} {v4 : Value} {v5 : Value} {v6 : Value}  (k : Q (some (.int (-1))) h) : wpx d P_Md_look 16 [.ref r0, v1, v2, v3, v4, v5, v6] [] h Q := by
  refine st_ipush (pc' := 17) (v := (-1)) rfl rfl (by decide) ?_
  exact st_ireturn (ty := .int) rfl rfl rfl k
theorem B_Md_look_18 {d : Nat} {h : PH} {Q : PQ} {r0 : Nat} {v1 : Value} {v2 : Value} {v3 : Value} {v4 : Value} {v5 : Value} {v6 : Value}  (k : wpx d P_Md_look 20 [.ref r0, .int 0, v2, v3, v4, v5, v6] [] h Q) : wpx d P_Md_look 18 [.ref r0, v1, v2, v3, v4, v5, v6] [] h Q := by
  refine st_ipush (pc' := 19) (v := 0) rfl rfl (by decide) ?_
  refine st_istore (pc' := 20) (ls' := [.ref r0, .int 0, v2, v3, v4, v5, v6]) rfl rfl (Nat.le_of_ble_eq_true rfl) rfl ?_
  exact k
theorem B_Md_look_20 {d : Nat} {h : PH} {Q : PQ} {r0 : Nat} {x1 : Int32} {v2 : Value} {v3 : Value} {v4 : Value} {v5 : Value} {v6 : Value} (hs0 : h_sh h r0 = some (0, 12)) (kt : (h_i h r0 32) ≤ x1 → wpx d P_Md_look 41 [.ref r0, .int x1, v2, v3, v4, v5, v6] [] h Q) (kf : ¬ ((h_i h r0 32) ≤ x1) → wpx d P_Md_look 28 [.ref r0, .int x1, v2, v3, v4, v5, v6] [] h Q) : wpx d P_Md_look 20 [.ref r0, .int x1, v2, v3, v4, v5, v6] [] h Q := by
  refine st_iload (pc' := 21) rfl rfl rfl ?_
  refine st_aload (pc' := 22) rfl rfl rfl ?_
  refine st_getfi (Or.inl rfl) rfl hs0 rfl (pc' := 25) rfl ?_
  exact st_icmp_ge (pc' := 28) rfl rfl kt kf
theorem B_Md_look_28 {d : Nat} {h : PH} {Q : PQ} {r0 : Nat} {x1 : Int32} {v2 : Value} {v3 : Value} {v4 : Value} {v5 : Value} {v6 : Value} {a0 : Nat} {n1 : Nat} (hs0 : h_sh h r0 = some (0, 12)) (hr1 : h_r h r0 39 = some a0) (hs2 : h_sh h a0 = some (1, n1)) (hb3 : vp_in x1 n1) (k : wpx d P_Md_look 20 [.ref r0, .int (x1 + 1), v2, v3, v4, v5, v6] [] (w_i h a0 x1.toNatClampNeg 0) Q) : wpx d P_Md_look 28 [.ref r0, .int x1, v2, v3, v4, v5, v6] [] h Q := by
  refine st_aload (pc' := 29) rfl rfl rfl ?_
  refine st_getfr (x := some a0) (Or.inl rfl) rfl hs0 rfl hr1 (pc' := 32) rfl ?_
  refine st_iload (pc' := 33) rfl rfl rfl ?_
  refine st_ipush (pc' := 34) (v := 0) rfl rfl (by decide) ?_
  refine st_iastore rfl hs2 hb3 (j := x1.toNatClampNeg) rfl (pc' := 35) rfl ?_
  refine st_iinc (pc' := 38) (v := 1) (ls' := [.ref r0, .int (x1 + 1), v2, v3, v4, v5, v6]) rfl rfl rfl (by decide) rfl ?_
  exact st_goto rfl k
theorem B_Md_look_41 {d : Nat} {h : PH} {Q : PQ} {r0 : Nat} {x1 : Int32} {v2 : Value} {v3 : Value} {v4 : Value} {v5 : Value} {v6 : Value}  (k : wpx d P_Md_look 45 [.ref r0, .int 1, .int 0, v3, v4, v5, v6] [] h Q) : wpx d P_Md_look 41 [.ref r0, .int x1, v2, v3, v4, v5, v6] [] h Q := by
  refine st_ipush (pc' := 42) (v := 1) rfl rfl (by decide) ?_
  refine st_istore (pc' := 43) (ls' := [.ref r0, .int 1, v2, v3, v4, v5, v6]) rfl rfl (Nat.le_of_ble_eq_true rfl) rfl ?_
  refine st_ipush (pc' := 44) (v := 0) rfl rfl (by decide) ?_
  refine st_istore (pc' := 45) (ls' := [.ref r0, .int 1, .int 0, v3, v4, v5, v6]) rfl rfl (Nat.le_of_ble_eq_true rfl) rfl ?_
  exact k
theorem B_Md_look_45 {d : Nat} {h : PH} {Q : PQ} {r0 : Nat} {x1 : Int32} {x2 : Int32} {v3 : Value} {v4 : Value} {v5 : Value} {v6 : Value} (hs0 : h_sh h r0 = some (0, 12)) (kt : ((h_i h r0 32) + (1 : Int32)) < x2 → wpx d P_Md_look 198 [.ref r0, .int x1, .int x2, v3, v4, v5, v6] [] h Q) (kf : ¬ (((h_i h r0 32) + (1 : Int32)) < x2) → wpx d P_Md_look 55 [.ref r0, .int x1, .int x2, v3, v4, v5, v6] [] h Q) : wpx d P_Md_look 45 [.ref r0, .int x1, .int x2, v3, v4, v5, v6] [] h Q := by
  refine st_iload (pc' := 46) rfl rfl rfl ?_
  refine st_aload (pc' := 47) rfl rfl rfl ?_
  refine st_getfi (Or.inl rfl) rfl hs0 rfl (pc' := 50) rfl ?_
  refine st_ipush (pc' := 51) (v := 1) rfl rfl (by decide) ?_
  refine st_iadd (pc' := 52) rfl rfl ?_
  exact st_icmp_gt (pc' := 55) rfl rfl kt kf
theorem B_Md_look_55 {d : Nat} {h : PH} {Q : PQ} {r0 : Nat} {x1 : Int32} {x2 : Int32} {v3 : Value} {v4 : Value} {v5 : Value} {v6 : Value}  (kt : x1 = 0 → wpx d P_Md_look 198 [.ref r0, .int x1, .int x2, v3, v4, v5, v6] [] h Q) (kf : ¬ (x1 = 0) → wpx d P_Md_look 59 [.ref r0, .int x1, .int x2, v3, v4, v5, v6] [] h Q) : wpx d P_Md_look 55 [.ref r0, .int x1, .int x2, v3, v4, v5, v6] [] h Q := by
  refine st_iload (pc' := 56) rfl rfl rfl ?_
  exact st_if_eq (pc' := 59) rfl rfl kt kf
theorem B_Md_look_59 {d : Nat} {h : PH} {Q : PQ} {r0 : Nat} {x1 : Int32} {x2 : Int32} {v3 : Value} {v4 : Value} {v5 : Value} {v6 : Value}  (k : wpx d P_Md_look 63 [.ref r0, .int 0, .int x2, .int 0, v4, v5, v6] [] h Q) : wpx d P_Md_look 59 [.ref r0, .int x1, .int x2, v3, v4, v5, v6] [] h Q := by
  refine st_ipush (pc' := 60) (v := 0) rfl rfl (by decide) ?_
  refine st_istore (pc' := 61) (ls' := [.ref r0, .int 0, .int x2, v3, v4, v5, v6]) rfl rfl (Nat.le_of_ble_eq_true rfl) rfl ?_
  refine st_ipush (pc' := 62) (v := 0) rfl rfl (by decide) ?_
  refine st_istore (pc' := 63) (ls' := [.ref r0, .int 0, .int x2, .int 0, v4, v5, v6]) rfl rfl (Nat.le_of_ble_eq_true rfl) rfl ?_
  exact k
theorem B_Md_look_63 {d : Nat} {h : PH} {Q : PQ} {r0 : Nat} {x1 : Int32} {x2 : Int32} {x3 : Int32} {v4 : Value} {v5 : Value} {v6 : Value} (hs0 : h_sh h r0 = some (0, 12)) (kt : (h_i h r0 32) ≤ x3 → wpx d P_Md_look 192 [.ref r0, .int x1, .int x2, .int x3, v4, v5, v6] [] h Q) (kf : ¬ ((h_i h r0 32) ≤ x3) → wpx d P_Md_look 71 [.ref r0, .int x1, .int x2, .int x3, v4, v5, v6] [] h Q) : wpx d P_Md_look 63 [.ref r0, .int x1, .int x2, .int x3, v4, v5, v6] [] h Q := by
  refine st_iload (pc' := 64) rfl rfl rfl ?_
  refine st_aload (pc' := 65) rfl rfl rfl ?_
  refine st_getfi (Or.inl rfl) rfl hs0 rfl (pc' := 68) rfl ?_
  exact st_icmp_ge (pc' := 71) rfl rfl kt kf
theorem B_Md_look_71 {d : Nat} {h : PH} {Q : PQ} {r0 : Nat} {x1 : Int32} {x2 : Int32} {x3 : Int32} {v4 : Value} {v5 : Value} {v6 : Value}  (k : wpx d P_Md_look 74 [.ref r0, .int x1, .int x2, .int x3, .int 0, v5, v6] [] h Q) : wpx d P_Md_look 71 [.ref r0, .int x1, .int x2, .int x3, v4, v5, v6] [] h Q := by
  refine st_ipush (pc' := 72) (v := 0) rfl rfl (by decide) ?_
  refine st_istore (pc' := 74) (ls' := [.ref r0, .int x1, .int x2, .int x3, .int 0, v5, v6]) rfl rfl (Nat.le_of_ble_eq_true rfl) rfl ?_
  exact k
theorem B_Md_look_74 {d : Nat} {h : PH} {Q : PQ} {r0 : Nat} {x1 : Int32} {x2 : Int32} {x3 : Int32} {x4 : Int32} {v5 : Value} {v6 : Value} (hs0 : h_sh h r0 = some (0, 12)) (kt : (h_i h r0 4) ≤ x4 → wpx d P_Md_look 186 [.ref r0, .int x1, .int x2, .int x3, .int x4, v5, v6] [] h Q) (kf : ¬ ((h_i h r0 4) ≤ x4) → wpx d P_Md_look 83 [.ref r0, .int x1, .int x2, .int x3, .int x4, v5, v6] [] h Q) : wpx d P_Md_look 74 [.ref r0, .int x1, .int x2, .int x3, .int x4, v5, v6] [] h Q := by
  refine st_iload (pc' := 76) rfl rfl rfl ?_
  refine st_aload (pc' := 77) rfl rfl rfl ?_
  refine st_getfi (Or.inl rfl) rfl hs0 rfl (pc' := 80) rfl ?_
  exact st_icmp_ge (pc' := 83) rfl rfl kt kf
theorem B_Md_look_83 {d : Nat} {h : PH} {Q : PQ} {r0 : Nat} {x1 : Int32} {x2 : Int32} {x3 : Int32} {x4 : Int32} {v5 : Value} {v6 : Value} {a0 : Nat} {n1 : Nat} (hs0 : h_sh h r0 = some (0, 12)) (hr1 : h_r h r0 29 = some a0) (hs2 : h_sh h a0 = some (1, n1)) (hb3 : vp_in x3 n1) (kt : (h_i h a0 x3.toNatClampNeg) ≤ 0 → wpx d P_Md_look 186 [.ref r0, .int x1, .int x2, .int x3, .int x4, v5, v6] [] h Q) (kf : ¬ ((h_i h a0 x3.toNatClampNeg) ≤ 0) → wpx d P_Md_look 92 [.ref r0, .int x1, .int x2, .int x3, .int x4, v5, v6] [] h Q) : wpx d P_Md_look 83 [.ref r0, .int x1, .int x2, .int x3, .int x4, v5, v6] [] h Q := by
  refine st_aload (pc' := 84) rfl rfl rfl ?_
  refine st_getfr (x := some a0) (Or.inl rfl) rfl hs0 rfl hr1 (pc' := 87) rfl ?_
  refine st_iload (pc' := 88) rfl rfl rfl ?_
  refine st_iaload rfl hs2 hb3 (j := x3.toNatClampNeg) rfl (pc' := 89) rfl ?_
  exact st_if_le (pc' := 92) rfl rfl kt kf
theorem B_Md_look_92 {d : Nat} {h : PH} {Q : PQ} {r0 : Nat} {x1 : Int32} {x2 : Int32} {x3 : Int32} {x4 : Int32} {v5 : Value} {v6 : Value} (hs0 : h_sh h r0 = some (0, 12)) (k : wpm d 171 [.int (h_i h r0 6), .int x4] h (fun r h' => wpx d P_Md_look 101 [.ref r0, .int x1, .int x2, .int x3, .int x4, v5, v6] (r.toList ++ []) h' Q)) : wpx d P_Md_look 92 [.ref r0, .int x1, .int x2, .int x3, .int x4, v5, v6] [] h Q := by
  refine st_aload (pc' := 93) rfl rfl rfl ?_
  refine st_getfi (Or.inl rfl) rfl hs0 rfl (pc' := 96) rfl ?_
  refine st_iload (pc' := 98) rfl rfl rfl ?_
  exact st_call (pc' := 101) (as := [.int (h_i h r0 6), .int x4]) (rest := []) rfl rfl (Nat.le_of_ble_eq_true rfl) rfl rfl (Nat.le_of_ble_eq_true rfl) (kd := 0) (o := 12) rfl rfl rfl k
theorem B_Md_look_101 {d : Nat} {h : PH} {Q : PQ} {r0 : Nat} {x1 : Int32} {x2 : Int32} {x3 : Int32} {x4 : Int32} {v5 : Value} {v6 : Value} {s0 : Int32}  (kt : ¬ (s0 = 0) → wpx d P_Md_look 107 [.ref r0, .int x1, .int x2, .int x3, .int x4, v5, v6] [] h Q) (kf : s0 = 0 → wpx d P_Md_look 104 [.ref r0, .int x1, .int x2, .int x3, .int x4, v5, v6] [] h Q) : wpx d P_Md_look 101 [.ref r0, .int x1, .int x2, .int x3, .int x4, v5, v6] [.int s0] h Q := by
  exact st_if_ne (pc' := 104) rfl rfl kt kf
theorem B_Md_look_104 {d : Nat} {h : PH} {Q : PQ} {r0 : Nat} {x1 : Int32} {x2 : Int32} {x3 : Int32} {x4 : Int32} {v5 : Value} {v6 : Value}  (k : wpx d P_Md_look 180 [.ref r0, .int x1, .int x2, .int x3, .int x4, v5, v6] [] h Q) : wpx d P_Md_look 104 [.ref r0, .int x1, .int x2, .int x3, .int x4, v5, v6] [] h Q := by
  exact st_goto rfl k
theorem B_Md_look_107 {d : Nat} {h : PH} {Q : PQ} {r0 : Nat} {x1 : Int32} {x2 : Int32} {x3 : Int32} {x4 : Int32} {v5 : Value} {v6 : Value} {a0 : Nat} {n1 : Nat} {a2 : Nat} {n3 : Nat} {a4 : Nat} {n5 : Nat} (hs0 : h_sh h r0 = some (0, 12)) (hr1 : h_r h r0 31 = some a0) (hs2 : h_sh h a0 = some (1, n1)) (hb3 : vp_in (((14 : Int32) * x3) + x4) n1) (hr4 : h_r h r0 27 = some a2) (hs5 : h_sh h a2 = some (1, n3)) (hb6 : vp_in x3 n3) (hr7 : h_r h r0 28 = some a4) (hs8 : h_sh h a4 = some (1, n5)) (hb9 : vp_in x3 n5) (k : wpm d 176 [.ref r0, .int x4, .int 0, .int (h_i h a2 x3.toNatClampNeg), .int (h_i h a4 x3.toNatClampNeg)] h (fun r h' => wpx d P_Md_look 140 [.ref r0, .int x1, .int x2, .int x3, .int x4, .int (h_i h a0 (((14 : Int32) * x3) + x4).toNatClampNeg), v6] (r.toList ++ []) h' Q)) : wpx d P_Md_look 107 [.ref r0, .int x1, .int x2, .int x3, .int x4, v5, v6] [] h Q := by
  refine st_aload (pc' := 108) rfl rfl rfl ?_
  refine st_getfr (x := some a0) (Or.inl rfl) rfl hs0 rfl hr1 (pc' := 111) rfl ?_
  refine st_ipush (pc' := 113) (v := 14) rfl rfl (by decide) ?_
  refine st_iload (pc' := 114) rfl rfl rfl ?_
  refine st_imul (pc' := 115) rfl rfl ?_
  refine st_iload (pc' := 117) rfl rfl rfl ?_
  refine st_iadd (pc' := 118) rfl rfl ?_
  refine st_iaload rfl hs2 hb3 (j := (((14 : Int32) * x3) + x4).toNatClampNeg) rfl (pc' := 119) rfl ?_
  refine st_istore (pc' := 121) (ls' := [.ref r0, .int x1, .int x2, .int x3, .int x4, .int (h_i h a0 (((14 : Int32) * x3) + x4).toNatClampNeg), v6]) rfl rfl (Nat.le_of_ble_eq_true rfl) rfl ?_
  refine st_aload (pc' := 122) rfl rfl rfl ?_
  refine st_iload (pc' := 124) rfl rfl rfl ?_
  refine st_ipush (pc' := 125) (v := 0) rfl rfl (by decide) ?_
  refine st_aload (pc' := 126) rfl rfl rfl ?_
  refine st_getfr (x := some a2) (Or.inl rfl) rfl hs0 rfl hr4 (pc' := 129) rfl ?_
  refine st_iload (pc' := 130) rfl rfl rfl ?_
  refine st_iaload rfl hs5 hb6 (j := x3.toNatClampNeg) rfl (pc' := 131) rfl ?_
  refine st_aload (pc' := 132) rfl rfl rfl ?_
  refine st_getfr (x := some a4) (Or.inl rfl) rfl hs0 rfl hr7 (pc' := 135) rfl ?_
  refine st_iload (pc' := 136) rfl rfl rfl ?_
  refine st_iaload rfl hs8 hb9 (j := x3.toNatClampNeg) rfl (pc' := 137) rfl ?_
  exact st_call (pc' := 140) (as := [.ref r0, .int x4, .int 0, .int (h_i h a2 x3.toNatClampNeg), .int (h_i h a4 x3.toNatClampNeg)]) (rest := []) rfl rfl (Nat.le_of_ble_eq_true rfl) rfl rfl (Nat.le_of_ble_eq_true rfl) (kd := 1) (o := 12) rfl rfl (beq_iff_eq.mpr hs0) k
theorem B_Md_look_140 {d : Nat} {h : PH} {Q : PQ} {r0 : Nat} {x1 : Int32} {x2 : Int32} {x3 : Int32} {x4 : Int32} {x5 : Int32} {v6 : Value} {s0 : Int32}  (kt : x5 < 0 → wpx d P_Md_look 155 [.ref r0, .int x1, .int x2, .int x3, .int x4, .int x5, v6] [.int s0] h Q) (kf : ¬ (x5 < 0) → wpx d P_Md_look 145 [.ref r0, .int x1, .int x2, .int x3, .int x4, .int x5, v6] [.int s0] h Q) : wpx d P_Md_look 140 [.ref r0, .int x1, .int x2, .int x3, .int x4, .int x5, v6] [.int s0] h Q := by
  refine st_iload (pc' := 142) rfl rfl rfl ?_
  exact st_if_lt (pc' := 145) rfl rfl kt kf
theorem B_Md_look_145 {d : Nat} {h : PH} {Q : PQ} {r0 : Nat} {x1 : Int32} {x2 : Int32} {x3 : Int32} {x4 : Int32} {x5 : Int32} {v6 : Value} {s0 : Int32} {a0 : Nat} {n1 : Nat} (hs0 : h_sh h r0 = some (0, 12)) (hr1 : h_r h r0 39 = some a0) (hs2 : h_sh h a0 = some (1, n1)) (hb3 : vp_in x5 n1) (k : wpx d P_Md_look 156 [.ref r0, .int x1, .int x2, .int x3, .int x4, .int x5, v6] [.int (h_i h a0 x5.toNatClampNeg), .int s0] h Q) : wpx d P_Md_look 145 [.ref r0, .int x1, .int x2, .int x3, .int x4, .int x5, v6] [.int s0] h Q := by
  refine st_aload (pc' := 146) rfl rfl rfl ?_
  refine st_getfr (x := some a0) (Or.inl rfl) rfl hs0 rfl hr1 (pc' := 149) rfl ?_
  refine st_iload (pc' := 151) rfl rfl rfl ?_
  refine st_iaload rfl hs2 hb3 (j := x5.toNatClampNeg) rfl (pc' := 152) rfl ?_
  exact st_goto rfl k
theorem B_Md_look_155 {d : Nat} {h : PH} {Q : PQ} {r0 : Nat} {x1 : Int32} {x2 : Int32} {x3 : Int32} {x4 : Int32} {x5 : Int32} {v6 : Value} {s0 : Int32}  (k : wpx d P_Md_look 156 [.ref r0, .int x1, .int x2, .int x3, .int x4, .int x5, v6] [.int 0, .int s0] h Q) : wpx d P_Md_look 155 [.ref r0, .int x1, .int x2, .int x3, .int x4, .int x5, v6] [.int s0] h Q := by
  refine st_ipush (pc' := 156) (v := 0) rfl rfl (by decide) ?_
  exact k
theorem B_Md_look_156 {d : Nat} {h : PH} {Q : PQ} {r0 : Nat} {x1 : Int32} {x2 : Int32} {x3 : Int32} {x4 : Int32} {x5 : Int32} {v6 : Value} {s0 : Int32} {s1 : Int32} {a0 : Nat} {n1 : Nat} (hs0 : h_sh h r0 = some (0, 12)) (hr1 : h_r h r0 39 = some a0) (hs2 : h_sh h a0 = some (1, n1)) (hb3 : vp_in x3 n1) (kt : (s0 + s1) ≤ (h_i h a0 x3.toNatClampNeg) → wpx d P_Md_look 180 [.ref r0, .int x1, .int x2, .int x3, .int x4, .int x5, .int (s0 + s1)] [] h Q) (kf : ¬ ((s0 + s1) ≤ (h_i h a0 x3.toNatClampNeg)) → wpx d P_Md_look 170 [.ref r0, .int x1, .int x2, .int x3, .int x4, .int x5, .int (s0 + s1)] [] h Q) : wpx d P_Md_look 156 [.ref r0, .int x1, .int x2, .int x3, .int x4, .int x5, v6] [.int s1, .int s0] h Q := by
  refine st_iadd (pc' := 157) rfl rfl ?_
  refine st_istore (pc' := 159) (ls' := [.ref r0, .int x1, .int x2, .int x3, .int x4, .int x5, .int (s0 + s1)]) rfl rfl (Nat.le_of_ble_eq_true rfl) rfl ?_
  refine st_iload (pc' := 161) rfl rfl rfl ?_
  refine st_aload (pc' := 162) rfl rfl rfl ?_
  refine st_getfr (x := some a0) (Or.inl rfl) rfl hs0 rfl hr1 (pc' := 165) rfl ?_
  refine st_iload (pc' := 166) rfl rfl rfl ?_
  refine st_iaload rfl hs2 hb3 (j := x3.toNatClampNeg) rfl (pc' := 167) rfl ?_
  exact st_icmp_le (pc' := 170) rfl rfl kt kf
theorem B_Md_look_170 {d : Nat} {h : PH} {Q : PQ} {r0 : Nat} {x1 : Int32} {x2 : Int32} {x3 : Int32} {x4 : Int32} {x5 : Int32} {x6 : Int32} {a0 : Nat} {n1 : Nat} (hs0 : h_sh h r0 = some (0, 12)) (hr1 : h_r h r0 39 = some a0) (hs2 : h_sh h a0 = some (1, n1)) (hb3 : vp_in x3 n1) (k : wpx d P_Md_look 180 [.ref r0, .int 1, .int x2, .int x3, .int x4, .int x5, .int x6] [] (w_i h a0 x3.toNatClampNeg x6) Q) : wpx d P_Md_look 170 [.ref r0, .int x1, .int x2, .int x3, .int x4, .int x5, .int x6] [] h Q := by
  refine st_aload (pc' := 171) rfl rfl rfl ?_
  refine st_getfr (x := some a0) (Or.inl rfl) rfl hs0 rfl hr1 (pc' := 174) rfl ?_
  refine st_iload (pc' := 175) rfl rfl rfl ?_
  refine st_iload (pc' := 177) rfl rfl rfl ?_
  refine st_iastore rfl hs2 hb3 (j := x3.toNatClampNeg) rfl (pc' := 178) rfl ?_
  refine st_ipush (pc' := 179) (v := 1) rfl rfl (by decide) ?_
  refine st_istore (pc' := 180) (ls' := [.ref r0, .int 1, .int x2, .int x3, .int x4, .int x5, .int x6]) rfl rfl (Nat.le_of_ble_eq_true rfl) rfl ?_
  exact k
theorem B_Md_look_180 {d : Nat} {h : PH} {Q : PQ} {r0 : Nat} {x1 : Int32} {x2 : Int32} {x3 : Int32} {x4 : Int32} {v5 : Value} {v6 : Value}  (k : wpx d P_Md_look 74 [.ref r0, .int x1, .int x2, .int x3, .int (x4 + 1), v5, v6] [] h Q) : wpx d P_Md_look 180 [.ref r0, .int x1, .int x2, .int x3, .int x4, v5, v6] [] h Q := by
  refine st_iinc (pc' := 183) (v := 1) (ls' := [.ref r0, .int x1, .int x2, .int x3, .int (x4 + 1), v5, v6]) rfl rfl rfl (by decide) rfl ?_
  exact st_goto rfl k
theorem B_Md_look_186 {d : Nat} {h : PH} {Q : PQ} {r0 : Nat} {x1 : Int32} {x2 : Int32} {x3 : Int32} {x4 : Int32} {v5 : Value} {v6 : Value}  (k : wpx d P_Md_look 63 [.ref r0, .int x1, .int x2, .int (x3 + 1), .int x4, v5, v6] [] h Q) : wpx d P_Md_look 186 [.ref r0, .int x1, .int x2, .int x3, .int x4, v5, v6] [] h Q := by
  refine st_iinc (pc' := 189) (v := 1) (ls' := [.ref r0, .int x1, .int x2, .int (x3 + 1), .int x4, v5, v6]) rfl rfl rfl (by decide) rfl ?_
  exact st_goto rfl k
theorem B_Md_look_192 {d : Nat} {h : PH} {Q : PQ} {r0 : Nat} {x1 : Int32} {x2 : Int32} {x3 : Int32} {v4 : Value} {v5 : Value} {v6 : Value}  (k : wpx d P_Md_look 45 [.ref r0, .int x1, .int (x2 + 1), .int x3, v4, v5, v6] [] h Q) : wpx d P_Md_look 192 [.ref r0, .int x1, .int x2, .int x3, v4, v5, v6] [] h Q := by
  refine st_iinc (pc' := 195) (v := 1) (ls' := [.ref r0, .int x1, .int (x2 + 1), .int x3, v4, v5, v6]) rfl rfl rfl (by decide) rfl ?_
  exact st_goto rfl k
theorem B_Md_look_198 {d : Nat} {h : PH} {Q : PQ} {r0 : Nat} {x1 : Int32} {x2 : Int32} {v3 : Value} {v4 : Value} {v5 : Value} {v6 : Value}  (kt : x1 = 0 → wpx d P_Md_look 204 [.ref r0, .int x1, .int x2, v3, v4, v5, v6] [] h Q) (kf : ¬ (x1 = 0) → wpx d P_Md_look 202 [.ref r0, .int x1, .int x2, v3, v4, v5, v6] [] h Q) : wpx d P_Md_look 198 [.ref r0, .int x1, .int x2, v3, v4, v5, v6] [] h Q := by
  refine st_iload (pc' := 199) rfl rfl rfl ?_
  exact st_if_eq (pc' := 202) rfl rfl kt kf
theorem B_Md_look_202 {d : Nat} {h : PH} {Q : PQ} {r0 : Nat} {x1 : Int32} {x2 : Int32} {v3 : Value} {v4 : Value} {v5 : Value} {v6 : Value}  (k : Q (some (.int (-1))) h) : wpx d P_Md_look 202 [.ref r0, .int x1, .int x2, v3, v4, v5, v6] [] h Q := by
  refine st_ipush (pc' := 203) (v := (-1)) rfl rfl (by decide) ?_
  exact st_ireturn (ty := .int) rfl rfl rfl k
theorem B_Md_look_204 {d : Nat} {h : PH} {Q : PQ} {r0 : Nat} {x1 : Int32} {x2 : Int32} {v3 : Value} {v4 : Value} {v5 : Value} {v6 : Value}  (k : wpx d P_Md_look 208 [.ref r0, .int x1, .int 0, .int 0, v4, v5, v6] [] h Q) : wpx d P_Md_look 204 [.ref r0, .int x1, .int x2, v3, v4, v5, v6] [] h Q := by
  refine st_ipush (pc' := 205) (v := 0) rfl rfl (by decide) ?_
  refine st_istore (pc' := 206) (ls' := [.ref r0, .int x1, .int 0, v3, v4, v5, v6]) rfl rfl (Nat.le_of_ble_eq_true rfl) rfl ?_
  refine st_ipush (pc' := 207) (v := 0) rfl rfl (by decide) ?_
  refine st_istore (pc' := 208) (ls' := [.ref r0, .int x1, .int 0, .int 0, v4, v5, v6]) rfl rfl (Nat.le_of_ble_eq_true rfl) rfl ?_
  exact k
theorem B_Md_look_208 {d : Nat} {h : PH} {Q : PQ} {r0 : Nat} {x1 : Int32} {x2 : Int32} {x3 : Int32} {v4 : Value} {v5 : Value} {v6 : Value} (hs0 : h_sh h r0 = some (0, 12)) (kt : (h_i h r0 4) ≤ x3 → wpx d P_Md_look 330 [.ref r0, .int x1, .int x2, .int x3, v4, v5, v6] [] h Q) (kf : ¬ ((h_i h r0 4) ≤ x3) → wpx d P_Md_look 216 [.ref r0, .int x1, .int x2, .int x3, v4, v5, v6] [] h Q) : wpx d P_Md_look 208 [.ref r0, .int x1, .int x2, .int x3, v4, v5, v6] [] h Q := by
  refine st_iload (pc' := 209) rfl rfl rfl ?_
  refine st_aload (pc' := 210) rfl rfl rfl ?_
  refine st_getfi (Or.inl rfl) rfl hs0 rfl (pc' := 213) rfl ?_
  exact st_icmp_ge (pc' := 216) rfl rfl kt kf
theorem B_Md_look_216 {d : Nat} {h : PH} {Q : PQ} {r0 : Nat} {x1 : Int32} {x2 : Int32} {x3 : Int32} {v4 : Value} {v5 : Value} {v6 : Value}  (k : wpx d P_Md_look 219 [.ref r0, .int x1, .int x2, .int x3, .int 0, v5, v6] [] h Q) : wpx d P_Md_look 216 [.ref r0, .int x1, .int x2, .int x3, v4, v5, v6] [] h Q := by
  refine st_ipush (pc' := 217) (v := 0) rfl rfl (by decide) ?_
  refine st_istore (pc' := 219) (ls' := [.ref r0, .int x1, .int x2, .int x3, .int 0, v5, v6]) rfl rfl (Nat.le_of_ble_eq_true rfl) rfl ?_
  exact k
theorem B_Md_look_219 {d : Nat} {h : PH} {Q : PQ} {r0 : Nat} {x1 : Int32} {x2 : Int32} {x3 : Int32} {x4 : Int32} {v5 : Value} {v6 : Value} (hs0 : h_sh h r0 = some (0, 12)) (kt : (h_i h r0 4) ≤ x4 → wpx d P_Md_look 324 [.ref r0, .int x1, .int x2, .int x3, .int x4, v5, v6] [] h Q) (kf : ¬ ((h_i h r0 4) ≤ x4) → wpx d P_Md_look 228 [.ref r0, .int x1, .int x2, .int x3, .int x4, v5, v6] [] h Q) : wpx d P_Md_look 219 [.ref r0, .int x1, .int x2, .int x3, .int x4, v5, v6] [] h Q := by
  refine st_iload (pc' := 221) rfl rfl rfl ?_
  refine st_aload (pc' := 222) rfl rfl rfl ?_
  refine st_getfi (Or.inl rfl) rfl hs0 rfl (pc' := 225) rfl ?_
  exact st_icmp_ge (pc' := 228) rfl rfl kt kf
theorem B_Md_look_228 {d : Nat} {h : PH} {Q : PQ} {r0 : Nat} {x1 : Int32} {x2 : Int32} {x3 : Int32} {x4 : Int32} {v5 : Value} {v6 : Value}  (kt : x3 = x4 → wpx d P_Md_look 318 [.ref r0, .int x1, .int x2, .int x3, .int x4, v5, v6] [] h Q) (kf : ¬ (x3 = x4) → wpx d P_Md_look 234 [.ref r0, .int x1, .int x2, .int x3, .int x4, v5, v6] [] h Q) : wpx d P_Md_look 228 [.ref r0, .int x1, .int x2, .int x3, .int x4, v5, v6] [] h Q := by
  refine st_iload (pc' := 229) rfl rfl rfl ?_
  refine st_iload (pc' := 231) rfl rfl rfl ?_
  exact st_icmp_eq (pc' := 234) rfl rfl kt kf
theorem B_Md_look_234 {d : Nat} {h : PH} {Q : PQ} {r0 : Nat} {x1 : Int32} {x2 : Int32} {x3 : Int32} {x4 : Int32} {v5 : Value} {v6 : Value} (hs0 : h_sh h r0 = some (0, 12)) (k : wpm d 171 [.int (h_i h r0 6), .int x3] h (fun r h' => wpx d P_Md_look 242 [.ref r0, .int x1, .int x2, .int x3, .int x4, v5, v6] (r.toList ++ []) h' Q)) : wpx d P_Md_look 234 [.ref r0, .int x1, .int x2, .int x3, .int x4, v5, v6] [] h Q := by
  refine st_aload (pc' := 235) rfl rfl rfl ?_
  refine st_getfi (Or.inl rfl) rfl hs0 rfl (pc' := 238) rfl ?_
  refine st_iload (pc' := 239) rfl rfl rfl ?_
  exact st_call (pc' := 242) (as := [.int (h_i h r0 6), .int x3]) (rest := []) rfl rfl (Nat.le_of_ble_eq_true rfl) rfl rfl (Nat.le_of_ble_eq_true rfl) (kd := 0) (o := 12) rfl rfl rfl k
theorem B_Md_look_242 {d : Nat} {h : PH} {Q : PQ} {r0 : Nat} {x1 : Int32} {x2 : Int32} {x3 : Int32} {x4 : Int32} {v5 : Value} {v6 : Value} {s0 : Int32}  (kt : s0 = 0 → wpx d P_Md_look 318 [.ref r0, .int x1, .int x2, .int x3, .int x4, v5, v6] [] h Q) (kf : ¬ (s0 = 0) → wpx d P_Md_look 245 [.ref r0, .int x1, .int x2, .int x3, .int x4, v5, v6] [] h Q) : wpx d P_Md_look 242 [.ref r0, .int x1, .int x2, .int x3, .int x4, v5, v6] [.int s0] h Q := by
  exact st_if_eq (pc' := 245) rfl rfl kt kf
theorem B_Md_look_245 {d : Nat} {h : PH} {Q : PQ} {r0 : Nat} {x1 : Int32} {x2 : Int32} {x3 : Int32} {x4 : Int32} {v5 : Value} {v6 : Value} (hs0 : h_sh h r0 = some (0, 12)) (k : wpm d 171 [.int (h_i h r0 6), .int x4] h (fun r h' => wpx d P_Md_look 254 [.ref r0, .int x1, .int x2, .int x3, .int x4, v5, v6] (r.toList ++ []) h' Q)) : wpx d P_Md_look 245 [.ref r0, .int x1, .int x2, .int x3, .int x4, v5, v6] [] h Q := by
  refine st_aload (pc' := 246) rfl rfl rfl ?_
  refine st_getfi (Or.inl rfl) rfl hs0 rfl (pc' := 249) rfl ?_
  refine st_iload (pc' := 251) rfl rfl rfl ?_
  exact st_call (pc' := 254) (as := [.int (h_i h r0 6), .int x4]) (rest := []) rfl rfl (Nat.le_of_ble_eq_true rfl) rfl rfl (Nat.le_of_ble_eq_true rfl) (kd := 0) (o := 12) rfl rfl rfl k
theorem B_Md_look_254 {d : Nat} {h : PH} {Q : PQ} {r0 : Nat} {x1 : Int32} {x2 : Int32} {x3 : Int32} {x4 : Int32} {v5 : Value} {v6 : Value} {s0 : Int32}  (kt : s0 = 0 → wpx d P_Md_look 318 [.ref r0, .int x1, .int x2, .int x3, .int x4, v5, v6] [] h Q) (kf : ¬ (s0 = 0) → wpx d P_Md_look 257 [.ref r0, .int x1, .int x2, .int x3, .int x4, v5, v6] [] h Q) : wpx d P_Md_look 254 [.ref r0, .int x1, .int x2, .int x3, .int x4, v5, v6] [.int s0] h Q := by
  exact st_if_eq (pc' := 257) rfl rfl kt kf
theorem B_Md_look_257 {d : Nat} {h : PH} {Q : PQ} {r0 : Nat} {x1 : Int32} {x2 : Int32} {x3 : Int32} {x4 : Int32} {v5 : Value} {v6 : Value} (hs0 : h_sh h r0 = some (0, 12)) (k : wpm d 176 [.ref r0, .int x3, .int 0, .int x4, .int 0] h (fun r h' => wpx d P_Md_look 266 [.ref r0, .int x1, .int x2, .int x3, .int x4, v5, v6] (r.toList ++ []) h' Q)) : wpx d P_Md_look 257 [.ref r0, .int x1, .int x2, .int x3, .int x4, v5, v6] [] h Q := by
  refine st_aload (pc' := 258) rfl rfl rfl ?_
  refine st_iload (pc' := 259) rfl rfl rfl ?_
  refine st_ipush (pc' := 260) (v := 0) rfl rfl (by decide) ?_
  refine st_iload (pc' := 262) rfl rfl rfl ?_
  refine st_ipush (pc' := 263) (v := 0) rfl rfl (by decide) ?_
  exact st_call (pc' := 266) (as := [.ref r0, .int x3, .int 0, .int x4, .int 0]) (rest := []) rfl rfl (Nat.le_of_ble_eq_true rfl) rfl rfl (Nat.le_of_ble_eq_true rfl) (kd := 1) (o := 12) rfl rfl (beq_iff_eq.mpr hs0) k
theorem B_Md_look_266 {d : Nat} {h : PH} {Q : PQ} {r0 : Nat} {x1 : Int32} {x2 : Int32} {x3 : Int32} {x4 : Int32} {v5 : Value} {v6 : Value} {s0 : Int32} (hs0 : h_sh h r0 = some (0, 12)) (k : wpm d 200 [.ref r0, .int x3, .int x4] h (fun r h' => wpx d P_Md_look 273 [.ref r0, .int x1, .int x2, .int x3, .int x4, v5, v6] (r.toList ++ [.int s0]) h' Q)) : wpx d P_Md_look 266 [.ref r0, .int x1, .int x2, .int x3, .int x4, v5, v6] [.int s0] h Q := by
  refine st_aload (pc' := 267) rfl rfl rfl ?_
  refine st_iload (pc' := 268) rfl rfl rfl ?_
  refine st_iload (pc' := 270) rfl rfl rfl ?_
  exact st_call (pc' := 273) (as := [.ref r0, .int x3, .int x4]) (rest := [.int s0]) rfl rfl (Nat.le_of_ble_eq_true rfl) rfl rfl (Nat.le_of_ble_eq_true rfl) (kd := 1) (o := 12) rfl rfl (beq_iff_eq.mpr hs0) k
theorem B_Md_look_273 {d : Nat} {h : PH} {Q : PQ} {r0 : Nat} {x1 : Int32} {x2 : Int32} {x3 : Int32} {x4 : Int32} {v5 : Value} {v6 : Value} {s0 : Int32} {s1 : Int32}  (kt : s1 = 0 → wpx d P_Md_look 301 [.ref r0, .int x1, .int x2, .int x3, .int x4, v5, v6] [.int s0] h Q) (kf : ¬ (s1 = 0) → wpx d P_Md_look 276 [.ref r0, .int x1, .int x2, .int x3, .int x4, v5, v6] [.int s0] h Q) : wpx d P_Md_look 273 [.ref r0, .int x1, .int x2, .int x3, .int x4, v5, v6] [.int s1, .int s0] h Q := by
  exact st_if_eq (pc' := 276) rfl rfl kt kf
theorem B_Md_look_276 {d : Nat} {h : PH} {Q : PQ} {r0 : Nat} {x1 : Int32} {x2 : Int32} {x3 : Int32} {x4 : Int32} {v5 : Value} {v6 : Value} {s0 : Int32} {a0 : Nat} {a1 : Nat} {a2 : Nat} {n3 : Nat} {n4 : Nat} {n5 : Nat} (hs0 : h_sh h r0 = some (0, 12)) (hr1 : h_r h r0 39 = some a0) (hr2 : h_r h r0 30 = some a1) (hr3 : h_r h r0 2 = some a2) (hs4 : h_sh h a2 = some (1, n3)) (hb5 : vp_in x3 n3) (hs6 : h_sh h a1 = some (1, n4)) (hb7 : vp_in (((8 : Int32) * x4) + (h_i h a2 x3.toNatClampNeg)) n4) (hs8 : h_sh h a0 = some (1, n5)) (hb9 : vp_in (h_i h a1 (((8 : Int32) * x4) + (h_i h a2 x3.toNatClampNeg)).toNatClampNeg) n5) (k : wpx d P_Md_look 302 [.ref r0, .int x1, .int x2, .int x3, .int x4, v5, v6] [.int (h_i h a0 (h_i h a1 (((8 : Int32) * x4) + (h_i h a2 x3.toNatClampNeg)).toNatClampNeg).toNatClampNeg), .int s0] h Q) : wpx d P_Md_look 276 [.ref r0, .int x1, .int x2, .int x3, .int x4, v5, v6] [.int s0] h Q := by
  refine st_aload (pc' := 277) rfl rfl rfl ?_
  refine st_getfr (x := some a0) (Or.inl rfl) rfl hs0 rfl hr1 (pc' := 280) rfl ?_
  refine st_aload (pc' := 281) rfl rfl rfl ?_
  refine st_getfr (x := some a1) (Or.inl rfl) rfl hs0 rfl hr2 (pc' := 284) rfl ?_
  refine st_ipush (pc' := 286) (v := 8) rfl rfl (by decide) ?_
  refine st_iload (pc' := 288) rfl rfl rfl ?_
  refine st_imul (pc' := 289) rfl rfl ?_
  refine st_aload (pc' := 290) rfl rfl rfl ?_
  refine st_getfr (x := some a2) (Or.inl rfl) rfl hs0 rfl hr3 (pc' := 293) rfl ?_
  refine st_iload (pc' := 294) rfl rfl rfl ?_
  refine st_iaload rfl hs4 hb5 (j := x3.toNatClampNeg) rfl (pc' := 295) rfl ?_
  refine st_iadd (pc' := 296) rfl rfl ?_
  refine st_iaload rfl hs6 hb7 (j := (((8 : Int32) * x4) + (h_i h a2 x3.toNatClampNeg)).toNatClampNeg) rfl (pc' := 297) rfl ?_
  refine st_iaload rfl hs8 hb9 (j := (h_i h a1 (((8 : Int32) * x4) + (h_i h a2 x3.toNatClampNeg)).toNatClampNeg).toNatClampNeg) rfl (pc' := 298) rfl ?_
  exact st_goto rfl k
theorem B_Md_look_301 {d : Nat} {h : PH} {Q : PQ} {r0 : Nat} {x1 : Int32} {x2 : Int32} {x3 : Int32} {x4 : Int32} {v5 : Value} {v6 : Value} {s0 : Int32}  (k : wpx d P_Md_look 302 [.ref r0, .int x1, .int x2, .int x3, .int x4, v5, v6] [.int 0, .int s0] h Q) : wpx d P_Md_look 301 [.ref r0, .int x1, .int x2, .int x3, .int x4, v5, v6] [.int s0] h Q := by
  refine st_ipush (pc' := 302) (v := 0) rfl rfl (by decide) ?_
  exact k
theorem B_Md_look_302 {d : Nat} {h : PH} {Q : PQ} {r0 : Nat} {x1 : Int32} {x2 : Int32} {x3 : Int32} {x4 : Int32} {v5 : Value} {v6 : Value} {s0 : Int32} {s1 : Int32}  (kt : (s0 + s1) ≤ x2 → wpx d P_Md_look 316 [.ref r0, .int x1, .int x2, .int x3, .int x4, .int (s0 + s1), v6] [] h Q) (kf : ¬ ((s0 + s1) ≤ x2) → wpx d P_Md_look 311 [.ref r0, .int x1, .int x2, .int x3, .int x4, .int (s0 + s1), v6] [] h Q) : wpx d P_Md_look 302 [.ref r0, .int x1, .int x2, .int x3, .int x4, v5, v6] [.int s1, .int s0] h Q := by
  refine st_iadd (pc' := 303) rfl rfl ?_
  refine st_istore (pc' := 305) (ls' := [.ref r0, .int x1, .int x2, .int x3, .int x4, .int (s0 + s1), v6]) rfl rfl (Nat.le_of_ble_eq_true rfl) rfl ?_
  refine st_iload (pc' := 307) rfl rfl rfl ?_
  refine st_iload (pc' := 308) rfl rfl rfl ?_
  exact st_icmp_le (pc' := 311) rfl rfl kt kf
theorem B_Md_look_311 {d : Nat} {h : PH} {Q : PQ} {r0 : Nat} {x1 : Int32} {x2 : Int32} {x3 : Int32} {x4 : Int32} {x5 : Int32} {v6 : Value}  (k : wpx d P_Md_look 317 [.ref r0, .int x1, .int x2, .int x3, .int x4, .int x5, v6] [.int x5] h Q) : wpx d P_Md_look 311 [.ref r0, .int x1, .int x2, .int x3, .int x4, .int x5, v6] [] h Q := by
  refine st_iload (pc' := 313) rfl rfl rfl ?_
  exact st_goto rfl k
theorem B_Md_look_316 {d : Nat} {h : PH} {Q : PQ} {r0 : Nat} {x1 : Int32} {x2 : Int32} {x3 : Int32} {x4 : Int32} {x5 : Int32} {v6 : Value}  (k : wpx d P_Md_look 317 [.ref r0, .int x1, .int x2, .int x3, .int x4, .int x5, v6] [.int x2] h Q) : wpx d P_Md_look 316 [.ref r0, .int x1, .int x2, .int x3, .int x4, .int x5, v6] [] h Q := by
  refine st_iload (pc' := 317) rfl rfl rfl ?_
  exact k
theorem B_Md_look_317 {d : Nat} {h : PH} {Q : PQ} {r0 : Nat} {x1 : Int32} {x2 : Int32} {x3 : Int32} {x4 : Int32} {x5 : Int32} {v6 : Value} {s0 : Int32}  (k : wpx d P_Md_look 318 [.ref r0, .int x1, .int s0, .int x3, .int x4, .int x5, v6] [] h Q) : wpx d P_Md_look 317 [.ref r0, .int x1, .int x2, .int x3, .int x4, .int x5, v6] [.int s0] h Q := by
  refine st_istore (pc' := 318) (ls' := [.ref r0, .int x1, .int s0, .int x3, .int x4, .int x5, v6]) rfl rfl (Nat.le_of_ble_eq_true rfl) rfl ?_
  exact k
theorem B_Md_look_318 {d : Nat} {h : PH} {Q : PQ} {r0 : Nat} {x1 : Int32} {x2 : Int32} {x3 : Int32} {x4 : Int32} {v5 : Value} {v6 : Value}  (k : wpx d P_Md_look 219 [.ref r0, .int x1, .int x2, .int x3, .int (x4 + 1), v5, v6] [] h Q) : wpx d P_Md_look 318 [.ref r0, .int x1, .int x2, .int x3, .int x4, v5, v6] [] h Q := by
  refine st_iinc (pc' := 321) (v := 1) (ls' := [.ref r0, .int x1, .int x2, .int x3, .int (x4 + 1), v5, v6]) rfl rfl rfl (by decide) rfl ?_
  exact st_goto rfl k
theorem B_Md_look_324 {d : Nat} {h : PH} {Q : PQ} {r0 : Nat} {x1 : Int32} {x2 : Int32} {x3 : Int32} {x4 : Int32} {v5 : Value} {v6 : Value}  (k : wpx d P_Md_look 208 [.ref r0, .int x1, .int x2, .int (x3 + 1), .int x4, v5, v6] [] h Q) : wpx d P_Md_look 324 [.ref r0, .int x1, .int x2, .int x3, .int x4, v5, v6] [] h Q := by
  refine st_iinc (pc' := 327) (v := 1) (ls' := [.ref r0, .int x1, .int x2, .int (x3 + 1), .int x4, v5, v6]) rfl rfl rfl (by decide) rfl ?_
  exact st_goto rfl k
theorem B_Md_look_330 {d : Nat} {h : PH} {Q : PQ} {r0 : Nat} {x1 : Int32} {x2 : Int32} {x3 : Int32} {v4 : Value} {v5 : Value} {v6 : Value}  (k : Q (some (.int x2)) h) : wpx d P_Md_look 330 [.ref r0, .int x1, .int x2, .int x3, v4, v5, v6] [] h Q := by
  refine st_iload (pc' := 331) rfl rfl rfl ?_
  exact st_ireturn (ty := .int) rfl rfl rfl k
theorem B_Md_common_0 {d : Nat} {h : PH} {Q : PQ} {l0 : Int64} {l2 : Int64} {v4 : Value} {v5 : Value} {v6 : Value} {v7 : Value} {v8 : Value} {v9 : Value}  (k : wpx d P_Md_common 6 [.long l0, .retAddr 2, .long l2, .retAddr 2, .long l0, .retAddr 2, .long l2, .retAddr 2, v8, v9] [] h Q) : wpx d P_Md_common 0 [.long l0, .retAddr 2, .long l2, .retAddr 2, v4, v5, v6, v7, v8, v9] [] h Q := by
  refine st_lload (pc' := 1) rfl rfl rfl rfl ?_
  refine st_lstore (pc' := 3) (ls' := [.long l0, .retAddr 2, .long l2, .retAddr 2, .long l0, .retAddr 2, v6, v7, v8, v9]) rfl rfl (Nat.le_of_ble_eq_true rfl) rfl ?_
  refine st_lload (pc' := 4) rfl rfl rfl rfl ?_
  refine st_lstore (pc' := 6) (ls' := [.long l0, .retAddr 2, .long l2, .retAddr 2, .long l0, .retAddr 2, .long l2, .retAddr 2, v8, v9]) rfl rfl (Nat.le_of_ble_eq_true rfl) rfl ?_
  exact k
theorem B_Md_common_6 {d : Nat} {h : PH} {Q : PQ} {l0 : Int64} {l2 : Int64} {l4 : Int64} {l6 : Int64} {v8 : Value} {v9 : Value}  (kt : (lg_cmp l6 (0 : Int64)) = 0 → wpx d P_Md_common 31 [.long l0, .retAddr 2, .long l2, .retAddr 2, .long l4, .retAddr 2, .long l6, .retAddr 2, v8, v9] [] h Q) (kf : ¬ ((lg_cmp l6 (0 : Int64)) = 0) → wpx d P_Md_common 13 [.long l0, .retAddr 2, .long l2, .retAddr 2, .long l4, .retAddr 2, .long l6, .retAddr 2, v8, v9] [] h Q) : wpx d P_Md_common 6 [.long l0, .retAddr 2, .long l2, .retAddr 2, .long l4, .retAddr 2, .long l6, .retAddr 2, v8, v9] [] h Q := by
  refine st_lload (pc' := 8) rfl rfl rfl rfl ?_
  refine st_lpush (pc' := 9) (v := 0) rfl rfl (by decide) ?_
  refine st_lcmp (pc' := 10) rfl rfl ?_
  exact st_if_eq (pc' := 13) rfl rfl kt kf
theorem B_Md_common_13 {d : Nat} {h : PH} {Q : PQ} {l0 : Int64} {l2 : Int64} {l4 : Int64} {l6 : Int64} {v8 : Value} {v9 : Value} (hz0 : ¬ l6 = 0) (k : wpx d P_Md_common 6 [.long l0, .retAddr 2, .long l2, .retAddr 2, .long l6, .retAddr 2, .long (l4 - l4 / l6 * l6), .retAddr 2, .long (l4 - l4 / l6 * l6), .retAddr 2] [] h Q) : wpx d P_Md_common 13 [.long l0, .retAddr 2, .long l2, .retAddr 2, .long l4, .retAddr 2, .long l6, .retAddr 2, v8, v9] [] h Q := by
  refine st_lload (pc' := 15) rfl rfl rfl rfl ?_
  refine st_lload (pc' := 17) rfl rfl rfl rfl ?_
  refine st_lrem rfl hz0 (pc' := 18) rfl ?_
  refine st_lstore (pc' := 20) (ls' := [.long l0, .retAddr 2, .long l2, .retAddr 2, .long l4, .retAddr 2, .long l6, .retAddr 2, .long (l4 - l4 / l6 * l6), .retAddr 2]) rfl rfl (Nat.le_of_ble_eq_true rfl) rfl ?_
  refine st_lload (pc' := 22) rfl rfl rfl rfl ?_
  refine st_lstore (pc' := 24) (ls' := [.long l0, .retAddr 2, .long l2, .retAddr 2, .long l6, .retAddr 2, .long l6, .retAddr 2, .long (l4 - l4 / l6 * l6), .retAddr 2]) rfl rfl (Nat.le_of_ble_eq_true rfl) rfl ?_
  refine st_lload (pc' := 26) rfl rfl rfl rfl ?_
  refine st_lstore (pc' := 28) (ls' := [.long l0, .retAddr 2, .long l2, .retAddr 2, .long l6, .retAddr 2, .long (l4 - l4 / l6 * l6), .retAddr 2, .long (l4 - l4 / l6 * l6), .retAddr 2]) rfl rfl (Nat.le_of_ble_eq_true rfl) rfl ?_
  exact st_goto rfl k
theorem B_Md_common_31 {d : Nat} {h : PH} {Q : PQ} {l0 : Int64} {l2 : Int64} {l4 : Int64} {l6 : Int64} {v8 : Value} {v9 : Value}  (k : Q (some (.long l4)) h) : wpx d P_Md_common 31 [.long l0, .retAddr 2, .long l2, .retAddr 2, .long l4, .retAddr 2, .long l6, .retAddr 2, v8, v9] [] h Q := by
  refine st_lload (pc' := 33) rfl rfl rfl rfl ?_
  exact st_lreturn rfl k
