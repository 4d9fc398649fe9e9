/-! stretches of methods -/
set_option maxRecDepth 20000 in
theorem B_Lw_law_0 {d : Nat} {h : PH} {Q : PQ} {v1 : Value} {v2 : Value} {v3 : Value}  (k : wpm d 117 [.ref (h_ct h)] (h_new h (0, 11) (fN 11)) (fun r h' => wpx d P_Lw_law 7 [.retAddr 1, v1, v2, v3] (r.toList ++ [.ref (h_ct h)]) h' Q)) : wpx d P_Lw_law 0 [.retAddr 1, v1, v2, v3] [] h Q := by
  refine st_new rfl (pc' := 3) rfl ?_
  refine st_dup (pc' := 4) rfl rfl rfl ?_
  exact st_call (pc' := 7) (as := [.ref (h_ct h)]) (rest := [.ref (h_ct h)]) rfl rfl (Nat.le_of_ble_eq_true rfl) rfl rfl (Nat.le_of_ble_eq_true rfl) (kd := 2) (o := 11) rfl rfl rfl k
set_option maxRecDepth 20000 in
theorem B_Lw_law_7 {d : Nat} {h : PH} {Q : PQ} {v1 : Value} {v2 : Value} {v3 : Value} {q0 : Nat}  (k : wpm d 169 [.ref (h_ct h)] (h_new h (0, 12) (fN 12)) (fun r h' => wpx d P_Lw_law 15 [.retAddr 1, .ref q0, v2, v3] (r.toList ++ [.ref (h_ct h)]) h' Q)) : wpx d P_Lw_law 7 [.retAddr 1, v1, v2, v3] [.ref q0] h Q := by
  refine st_astore (pc' := 8) (ls' := [.retAddr 1, .ref q0, v2, v3]) rfl rfl (Nat.le_of_ble_eq_true rfl) rfl ?_
  refine st_new rfl (pc' := 11) rfl ?_
  refine st_dup (pc' := 12) rfl rfl rfl ?_
  exact st_call (pc' := 15) (as := [.ref (h_ct h)]) (rest := [.ref (h_ct h)]) rfl rfl (Nat.le_of_ble_eq_true rfl) rfl rfl (Nat.le_of_ble_eq_true rfl) (kd := 2) (o := 12) rfl rfl rfl k
set_option maxRecDepth 20000 in
theorem B_Lw_law_15 {d : Nat} {h : PH} {Q : PQ} {r1 : Nat} {v2 : Value} {v3 : Value} {q0 : Nat}  (k : wpx d P_Lw_law 18 [.retAddr 1, .ref r1, .ref q0, .int 0] [] h Q) : wpx d P_Lw_law 15 [.retAddr 1, .ref r1, v2, v3] [.ref q0] h Q := by
  refine st_astore (pc' := 16) (ls' := [.retAddr 1, .ref r1, .ref q0, v3]) rfl rfl (Nat.le_of_ble_eq_true rfl) rfl ?_
  refine st_ipush (pc' := 17) (v := 0) rfl rfl (by decide) ?_
  refine st_istore (pc' := 18) (ls' := [.retAddr 1, .ref r1, .ref q0, .int 0]) rfl rfl (Nat.le_of_ble_eq_true rfl) rfl ?_
  exact k
set_option maxRecDepth 20000 in
theorem B_Lw_law_18 {d : Nat} {h : PH} {Q : PQ} {r1 : Nat} {r2 : Nat} {x3 : Int32}  (kt : ((Int32.ofNat (h_sc h).1) - (6 : Int32)) < x3 → wpx d P_Lw_law 1102 [.retAddr 1, .ref r1, .ref r2, .int x3] [] h Q) (kf : ¬ (((Int32.ofNat (h_sc h).1) - (6 : Int32)) < x3) → wpx d P_Lw_law 27 [.retAddr 1, .ref r1, .ref r2, .int x3] [] h Q) : wpx d P_Lw_law 18 [.retAddr 1, .ref r1, .ref r2, .int x3] [] h Q := by
  refine st_iload (pc' := 19) rfl rfl rfl ?_
  refine st_aloadS (pc' := 20) rfl rfl rfl ?_
  refine st_slen (pc' := 21) rfl rfl ?_
  refine st_ipush (pc' := 23) (v := 6) rfl rfl (by decide) ?_
  refine st_isub (pc' := 24) rfl rfl ?_
  exact st_icmp_gt (pc' := 27) rfl rfl kt kf
set_option maxRecDepth 20000 in
theorem B_Lw_law_27 {d : Nat} {h : PH} {Q : PQ} {r1 : Nat} {r2 : Nat} {x3 : Int32} {lo : Int} {tg : List Nat} {df : Nat} (hb0 : vp_in x3 (h_sc h).1) (hw : swT[3]? = some (lo, tg, df)) (kd : (((h_sc h).2 x3.toNatClampNeg) &&& (63 : Int32)).toInt < lo ∨ lo + (tg.length : Int) ≤ (((h_sc h).2 x3.toNatClampNeg) &&& (63 : Int32)).toInt → wpx d P_Lw_law df [.retAddr 1, .ref r1, .ref r2, .int x3] [] h Q) (k : ∀ t, ¬ ((((h_sc h).2 x3.toNatClampNeg) &&& (63 : Int32)).toInt < lo ∨ lo + (tg.length : Int) ≤ (((h_sc h).2 x3.toNatClampNeg) &&& (63 : Int32)).toInt) → tg[((((h_sc h).2 x3.toNatClampNeg) &&& (63 : Int32)).toInt - lo).toNat]? = some t → wpx d P_Lw_law t [.retAddr 1, .ref r1, .ref r2, .int x3] [] h Q) : wpx d P_Lw_law 27 [.retAddr 1, .ref r1, .ref r2, .int x3] [] h Q := by
  refine st_aloadS (pc' := 28) rfl rfl rfl ?_
  refine st_iload (pc' := 29) rfl rfl rfl ?_
  refine st_sload rfl hb0 (pc' := 30) rfl ?_
  refine st_ipush (pc' := 32) (v := 63) rfl rfl (by decide) ?_
  refine st_iand (pc' := 33) rfl rfl ?_
  exact st_switch rfl hw kd k
set_option maxRecDepth 20000 in
theorem B_Lw_law_184 {d : Nat} {h : PH} {Q : PQ} {r1 : Nat} {r2 : Nat} {x3 : Int32} (hb0 : vp_in (x3 + (1 : Int32)) (h_sc h).1) (hb1 : vp_in (x3 + (2 : Int32)) (h_sc h).1) (hb2 : vp_in (x3 + (3 : Int32)) (h_sc h).1) (hb3 : vp_in (x3 + (4 : Int32)) (h_sc h).1) (hb4 : vp_in (x3 + (5 : Int32)) (h_sc h).1) (hs5 : h_sh h r1 = some (0, 11)) (k : wpm d 118 [.ref r1, .int ((h_sc h).2 (x3 + (1 : Int32)).toNatClampNeg), .int ((h_sc h).2 (x3 + (2 : Int32)).toNatClampNeg), .int ((h_sc h).2 (x3 + (3 : Int32)).toNatClampNeg), .int ((h_sc h).2 (x3 + (4 : Int32)).toNatClampNeg), .int ((h_sc h).2 (x3 + (5 : Int32)).toNatClampNeg)] h (fun r h' => wpx d P_Lw_law 213 [.retAddr 1, .ref r1, .ref r2, .int x3] (r.toList ++ []) h' Q)) : wpx d P_Lw_law 184 [.retAddr 1, .ref r1, .ref r2, .int x3] [] h Q := by
  refine st_aload (pc' := 185) rfl rfl rfl ?_
  refine st_aloadS (pc' := 186) rfl rfl rfl ?_
  refine st_iload (pc' := 187) rfl rfl rfl ?_
  refine st_ipush (pc' := 188) (v := 1) rfl rfl (by decide) ?_
  refine st_iadd (pc' := 189) rfl rfl ?_
  refine st_sload rfl hb0 (pc' := 190) rfl ?_
  refine st_aloadS (pc' := 191) rfl rfl rfl ?_
  refine st_iload (pc' := 192) rfl rfl rfl ?_
  refine st_ipush (pc' := 193) (v := 2) rfl rfl (by decide) ?_
  refine st_iadd (pc' := 194) rfl rfl ?_
  refine st_sload rfl hb1 (pc' := 195) rfl ?_
  refine st_aloadS (pc' := 196) rfl rfl rfl ?_
  refine st_iload (pc' := 197) rfl rfl rfl ?_
  refine st_ipush (pc' := 198) (v := 3) rfl rfl (by decide) ?_
  refine st_iadd (pc' := 199) rfl rfl ?_
  refine st_sload rfl hb2 (pc' := 200) rfl ?_
  refine st_aloadS (pc' := 201) rfl rfl rfl ?_
  refine st_iload (pc' := 202) rfl rfl rfl ?_
  refine st_ipush (pc' := 203) (v := 4) rfl rfl (by decide) ?_
  refine st_iadd (pc' := 204) rfl rfl ?_
  refine st_sload rfl hb3 (pc' := 205) rfl ?_
  refine st_aloadS (pc' := 206) rfl rfl rfl ?_
  refine st_iload (pc' := 207) rfl rfl rfl ?_
  refine st_ipush (pc' := 208) (v := 5) rfl rfl (by decide) ?_
  refine st_iadd (pc' := 209) rfl rfl ?_
  refine st_sload rfl hb4 (pc' := 210) rfl ?_
  exact st_call (pc' := 213) (as := [.ref r1, .int ((h_sc h).2 (x3 + (1 : Int32)).toNatClampNeg), .int ((h_sc h).2 (x3 + (2 : Int32)).toNatClampNeg), .int ((h_sc h).2 (x3 + (3 : Int32)).toNatClampNeg), .int ((h_sc h).2 (x3 + (4 : Int32)).toNatClampNeg), .int ((h_sc h).2 (x3 + (5 : Int32)).toNatClampNeg)]) (rest := []) rfl rfl (Nat.le_of_ble_eq_true rfl) rfl rfl (Nat.le_of_ble_eq_true rfl) (kd := 1) (o := 11) rfl rfl (beq_iff_eq.mpr hs5) k
set_option maxRecDepth 20000 in
theorem B_Lw_law_213 {d : Nat} {h : PH} {Q : PQ} {r1 : Nat} {r2 : Nat} {x3 : Int32} {s0 : Int32} (hb0 : vp_in (x3 + (1 : Int32)) (h_sc h).1) (hb1 : vp_in (x3 + (2 : Int32)) (h_sc h).1) (hb2 : vp_in (x3 + (3 : Int32)) (h_sc h).1) (hb3 : vp_in (x3 + (4 : Int32)) (h_sc h).1) (hb4 : vp_in (x3 + (5 : Int32)) (h_sc h).1) (hs5 : h_sh h r2 = some (0, 12)) (k : wpm d 178 [.ref r2, .int ((h_sc h).2 (x3 + (1 : Int32)).toNatClampNeg), .int ((h_sc h).2 (x3 + (2 : Int32)).toNatClampNeg), .int ((h_sc h).2 (x3 + (3 : Int32)).toNatClampNeg), .int ((h_sc h).2 (x3 + (4 : Int32)).toNatClampNeg), .int ((h_sc h).2 (x3 + (5 : Int32)).toNatClampNeg)] h (fun r h' => wpx d P_Lw_law 242 [.retAddr 1, .ref r1, .ref r2, .int x3] (r.toList ++ [.int s0]) h' Q)) : wpx d P_Lw_law 213 [.retAddr 1, .ref r1, .ref r2, .int x3] [.int s0] h Q := by
  refine st_aload (pc' := 214) rfl rfl rfl ?_
  refine st_aloadS (pc' := 215) rfl rfl rfl ?_
  refine st_iload (pc' := 216) rfl rfl rfl ?_
  refine st_ipush (pc' := 217) (v := 1) rfl rfl (by decide) ?_
  refine st_iadd (pc' := 218) rfl rfl ?_
  refine st_sload rfl hb0 (pc' := 219) rfl ?_
  refine st_aloadS (pc' := 220) rfl rfl rfl ?_
  refine st_iload (pc' := 221) rfl rfl rfl ?_
  refine st_ipush (pc' := 222) (v := 2) rfl rfl (by decide) ?_
  refine st_iadd (pc' := 223) rfl rfl ?_
  refine st_sload rfl hb1 (pc' := 224) rfl ?_
  refine st_aloadS (pc' := 225) rfl rfl rfl ?_
  refine st_iload (pc' := 226) rfl rfl rfl ?_
  refine st_ipush (pc' := 227) (v := 3) rfl rfl (by decide) ?_
  refine st_iadd (pc' := 228) rfl rfl ?_
  refine st_sload rfl hb2 (pc' := 229) rfl ?_
  refine st_aloadS (pc' := 230) rfl rfl rfl ?_
  refine st_iload (pc' := 231) rfl rfl rfl ?_
  refine st_ipush (pc' := 232) (v := 4) rfl rfl (by decide) ?_
  refine st_iadd (pc' := 233) rfl rfl ?_
  refine st_sload rfl hb3 (pc' := 234) rfl ?_
  refine st_aloadS (pc' := 235) rfl rfl rfl ?_
  refine st_iload (pc' := 236) rfl rfl rfl ?_
  refine st_ipush (pc' := 237) (v := 5) rfl rfl (by decide) ?_
  refine st_iadd (pc' := 238) rfl rfl ?_
  refine st_sload rfl hb4 (pc' := 239) rfl ?_
  exact st_call (pc' := 242) (as := [.ref r2, .int ((h_sc h).2 (x3 + (1 : Int32)).toNatClampNeg), .int ((h_sc h).2 (x3 + (2 : Int32)).toNatClampNeg), .int ((h_sc h).2 (x3 + (3 : Int32)).toNatClampNeg), .int ((h_sc h).2 (x3 + (4 : Int32)).toNatClampNeg), .int ((h_sc h).2 (x3 + (5 : Int32)).toNatClampNeg)]) (rest := [.int s0]) rfl rfl (Nat.le_of_ble_eq_true rfl) rfl rfl (Nat.le_of_ble_eq_true rfl) (kd := 1) (o := 12) rfl rfl (beq_iff_eq.mpr hs5) k
set_option maxRecDepth 20000 in
theorem B_Lw_law_242 {d : Nat} {h : PH} {Q : PQ} {r1 : Nat} {r2 : Nat} {x3 : Int32} {s0 : Int32} {s1 : Int32}  (kt : s0 = s1 → wpx d P_Lw_law 1096 [.retAddr 1, .ref r1, .ref r2, .int x3] [] h Q) (kf : ¬ (s0 = s1) → wpx d P_Lw_law 245 [.retAddr 1, .ref r1, .ref r2, .int x3] [] h Q) : wpx d P_Lw_law 242 [.retAddr 1, .ref r1, .ref r2, .int x3] [.int s1, .int s0] h Q := by
  exact st_icmp_eq (pc' := 245) rfl rfl kt kf
set_option maxRecDepth 20000 in
theorem B_Lw_law_245 {d : Nat} {h : PH} {Q : PQ} {r1 : Nat} {r2 : Nat} {x3 : Int32}  (k : Q (some (.int 0)) h) : wpx d P_Lw_law 245 [.retAddr 1, .ref r1, .ref r2, .int x3] [] h Q := by
  refine st_ipush (pc' := 246) (v := 0) rfl rfl (by decide) ?_
  exact st_ireturn (ty := .boolean) rfl rfl (by decide) k
set_option maxRecDepth 20000 in
theorem B_Lw_law_247 {d : Nat} {h : PH} {Q : PQ} {r1 : Nat} {r2 : Nat} {x3 : Int32} (hb0 : vp_in (x3 + (1 : Int32)) (h_sc h).1) (hs1 : h_sh h r1 = some (0, 11)) (k : wpm d 119 [.ref r1, .int ((h_sc h).2 (x3 + (1 : Int32)).toNatClampNeg)] h (fun r h' => wpx d P_Lw_law 256 [.retAddr 1, .ref r1, .ref r2, .int x3] (r.toList ++ []) h' Q)) : wpx d P_Lw_law 247 [.retAddr 1, .ref r1, .ref r2, .int x3] [] h Q := by
  refine st_aload (pc' := 248) rfl rfl rfl ?_
  refine st_aloadS (pc' := 249) rfl rfl rfl ?_
  refine st_iload (pc' := 250) rfl rfl rfl ?_
  refine st_ipush (pc' := 251) (v := 1) rfl rfl (by decide) ?_
  refine st_iadd (pc' := 252) rfl rfl ?_
  refine st_sload rfl hb0 (pc' := 253) rfl ?_
  exact st_call (pc' := 256) (as := [.ref r1, .int ((h_sc h).2 (x3 + (1 : Int32)).toNatClampNeg)]) (rest := []) rfl rfl (Nat.le_of_ble_eq_true rfl) rfl rfl (Nat.le_of_ble_eq_true rfl) (kd := 1) (o := 11) rfl rfl (beq_iff_eq.mpr hs1) k
set_option maxRecDepth 20000 in
theorem B_Lw_law_256 {d : Nat} {h : PH} {Q : PQ} {r1 : Nat} {r2 : Nat} {x3 : Int32} {s0 : Int32} (hb0 : vp_in (x3 + (1 : Int32)) (h_sc h).1) (hs1 : h_sh h r2 = some (0, 12)) (k : wpm d 179 [.ref r2, .int ((h_sc h).2 (x3 + (1 : Int32)).toNatClampNeg)] h (fun r h' => wpx d P_Lw_law 265 [.retAddr 1, .ref r1, .ref r2, .int x3] (r.toList ++ [.int s0]) h' Q)) : wpx d P_Lw_law 256 [.retAddr 1, .ref r1, .ref r2, .int x3] [.int s0] h Q := by
  refine st_aload (pc' := 257) rfl rfl rfl ?_
  refine st_aloadS (pc' := 258) rfl rfl rfl ?_
  refine st_iload (pc' := 259) rfl rfl rfl ?_
  refine st_ipush (pc' := 260) (v := 1) rfl rfl (by decide) ?_
  refine st_iadd (pc' := 261) rfl rfl ?_
  refine st_sload rfl hb0 (pc' := 262) rfl ?_
  exact st_call (pc' := 265) (as := [.ref r2, .int ((h_sc h).2 (x3 + (1 : Int32)).toNatClampNeg)]) (rest := [.int s0]) rfl rfl (Nat.le_of_ble_eq_true rfl) rfl rfl (Nat.le_of_ble_eq_true rfl) (kd := 1) (o := 12) rfl rfl (beq_iff_eq.mpr hs1) k
set_option maxRecDepth 20000 in
theorem B_Lw_law_265 {d : Nat} {h : PH} {Q : PQ} {r1 : Nat} {r2 : Nat} {x3 : Int32} {s0 : Int32} {s1 : Int32}  (kt : s0 = s1 → wpx d P_Lw_law 1096 [.retAddr 1, .ref r1, .ref r2, .int x3] [] h Q) (kf : ¬ (s0 = s1) → wpx d P_Lw_law 268 [.retAddr 1, .ref r1, .ref r2, .int x3] [] h Q) : wpx d P_Lw_law 265 [.retAddr 1, .ref r1, .ref r2, .int x3] [.int s1, .int s0] h Q := by
  exact st_icmp_eq (pc' := 268) rfl rfl kt kf
set_option maxRecDepth 20000 in
theorem B_Lw_law_268 {d : Nat} {h : PH} {Q : PQ} {r1 : Nat} {r2 : Nat} {x3 : Int32}  (k : Q (some (.int 0)) h) : wpx d P_Lw_law 268 [.retAddr 1, .ref r1, .ref r2, .int x3] [] h Q := by
  refine st_ipush (pc' := 269) (v := 0) rfl rfl (by decide) ?_
  exact st_ireturn (ty := .boolean) rfl rfl (by decide) k
set_option maxRecDepth 20000 in
theorem B_Lw_law_270 {d : Nat} {h : PH} {Q : PQ} {r1 : Nat} {r2 : Nat} {x3 : Int32} (hs0 : h_sh h r1 = some (0, 11)) (k : wpm d 120 [.ref r1] h (fun r h' => wpx d P_Lw_law 274 [.retAddr 1, .ref r1, .ref r2, .int x3] (r.toList ++ []) h' Q)) : wpx d P_Lw_law 270 [.retAddr 1, .ref r1, .ref r2, .int x3] [] h Q := by
  refine st_aload (pc' := 271) rfl rfl rfl ?_
  exact st_call (pc' := 274) (as := [.ref r1]) (rest := []) rfl rfl (Nat.le_of_ble_eq_true rfl) rfl rfl (Nat.le_of_ble_eq_true rfl) (kd := 1) (o := 11) rfl rfl (beq_iff_eq.mpr hs0) k
set_option maxRecDepth 20000 in
theorem B_Lw_law_274 {d : Nat} {h : PH} {Q : PQ} {r1 : Nat} {r2 : Nat} {x3 : Int32} {s0 : Int32} (hs0 : h_sh h r2 = some (0, 12)) (k : wpm d 195 [.ref r2] h (fun r h' => wpx d P_Lw_law 278 [.retAddr 1, .ref r1, .ref r2, .int x3] (r.toList ++ [.int s0]) h' Q)) : wpx d P_Lw_law 274 [.retAddr 1, .ref r1, .ref r2, .int x3] [.int s0] h Q := by
  refine st_aload (pc' := 275) rfl rfl rfl ?_
  exact st_call (pc' := 278) (as := [.ref r2]) (rest := [.int s0]) rfl rfl (Nat.le_of_ble_eq_true rfl) rfl rfl (Nat.le_of_ble_eq_true rfl) (kd := 1) (o := 12) rfl rfl (beq_iff_eq.mpr hs0) k
set_option maxRecDepth 20000 in
theorem B_Lw_law_278 {d : Nat} {h : PH} {Q : PQ} {r1 : Nat} {r2 : Nat} {x3 : Int32} {s0 : Int32} {s1 : Int32}  (kt : s0 = s1 → wpx d P_Lw_law 1096 [.retAddr 1, .ref r1, .ref r2, .int x3] [] h Q) (kf : ¬ (s0 = s1) → wpx d P_Lw_law 281 [.retAddr 1, .ref r1, .ref r2, .int x3] [] h Q) : wpx d P_Lw_law 278 [.retAddr 1, .ref r1, .ref r2, .int x3] [.int s1, .int s0] h Q := by
  exact st_icmp_eq (pc' := 281) rfl rfl kt kf
set_option maxRecDepth 20000 in
theorem B_Lw_law_281 {d : Nat} {h : PH} {Q : PQ} {r1 : Nat} {r2 : Nat} {x3 : Int32}  (k : Q (some (.int 0)) h) : wpx d P_Lw_law 281 [.retAddr 1, .ref r1, .ref r2, .int x3] [] h Q := by
  refine st_ipush (pc' := 282) (v := 0) rfl rfl (by decide) ?_
  exact st_ireturn (ty := .boolean) rfl rfl (by decide) k
set_option maxRecDepth 20000 in
theorem B_Lw_law_283 {d : Nat} {h : PH} {Q : PQ} {r1 : Nat} {r2 : Nat} {x3 : Int32} (hb0 : vp_in (x3 + (1 : Int32)) (h_sc h).1) (hs1 : h_sh h r1 = some (0, 11)) (k : wpm d 121 [.ref r1, .int ((h_sc h).2 (x3 + (1 : Int32)).toNatClampNeg)] h (fun r h' => wpx d P_Lw_law 292 [.retAddr 1, .ref r1, .ref r2, .int x3] (r.toList ++ []) h' Q)) : wpx d P_Lw_law 283 [.retAddr 1, .ref r1, .ref r2, .int x3] [] h Q := by
  refine st_aload (pc' := 284) rfl rfl rfl ?_
  refine st_aloadS (pc' := 285) rfl rfl rfl ?_
  refine st_iload (pc' := 286) rfl rfl rfl ?_
  refine st_ipush (pc' := 287) (v := 1) rfl rfl (by decide) ?_
  refine st_iadd (pc' := 288) rfl rfl ?_
  refine st_sload rfl hb0 (pc' := 289) rfl ?_
  exact st_call (pc' := 292) (as := [.ref r1, .int ((h_sc h).2 (x3 + (1 : Int32)).toNatClampNeg)]) (rest := []) rfl rfl (Nat.le_of_ble_eq_true rfl) rfl rfl (Nat.le_of_ble_eq_true rfl) (kd := 1) (o := 11) rfl rfl (beq_iff_eq.mpr hs1) k
set_option maxRecDepth 20000 in
theorem B_Lw_law_292 {d : Nat} {h : PH} {Q : PQ} {r1 : Nat} {r2 : Nat} {x3 : Int32} {s0 : Int32} (hb0 : vp_in (x3 + (1 : Int32)) (h_sc h).1) (hs1 : h_sh h r2 = some (0, 12)) (k : wpm d 196 [.ref r2, .int ((h_sc h).2 (x3 + (1 : Int32)).toNatClampNeg)] h (fun r h' => wpx d P_Lw_law 301 [.retAddr 1, .ref r1, .ref r2, .int x3] (r.toList ++ [.int s0]) h' Q)) : wpx d P_Lw_law 292 [.retAddr 1, .ref r1, .ref r2, .int x3] [.int s0] h Q := by
  refine st_aload (pc' := 293) rfl rfl rfl ?_
  refine st_aloadS (pc' := 294) rfl rfl rfl ?_
  refine st_iload (pc' := 295) rfl rfl rfl ?_
  refine st_ipush (pc' := 296) (v := 1) rfl rfl (by decide) ?_
  refine st_iadd (pc' := 297) rfl rfl ?_
  refine st_sload rfl hb0 (pc' := 298) rfl ?_
  exact st_call (pc' := 301) (as := [.ref r2, .int ((h_sc h).2 (x3 + (1 : Int32)).toNatClampNeg)]) (rest := [.int s0]) rfl rfl (Nat.le_of_ble_eq_true rfl) rfl rfl (Nat.le_of_ble_eq_true rfl) (kd := 1) (o := 12) rfl rfl (beq_iff_eq.mpr hs1) k
set_option maxRecDepth 20000 in
theorem B_Lw_law_301 {d : Nat} {h : PH} {Q : PQ} {r1 : Nat} {r2 : Nat} {x3 : Int32} {s0 : Int32} {s1 : Int32}  (kt : s0 = s1 → wpx d P_Lw_law 1096 [.retAddr 1, .ref r1, .ref r2, .int x3] [] h Q) (kf : ¬ (s0 = s1) → wpx d P_Lw_law 304 [.retAddr 1, .ref r1, .ref r2, .int x3] [] h Q) : wpx d P_Lw_law 301 [.retAddr 1, .ref r1, .ref r2, .int x3] [.int s1, .int s0] h Q := by
  exact st_icmp_eq (pc' := 304) rfl rfl kt kf
set_option maxRecDepth 20000 in
theorem B_Lw_law_304 {d : Nat} {h : PH} {Q : PQ} {r1 : Nat} {r2 : Nat} {x3 : Int32}  (k : Q (some (.int 0)) h) : wpx d P_Lw_law 304 [.retAddr 1, .ref r1, .ref r2, .int x3] [] h Q := by
  refine st_ipush (pc' := 305) (v := 0) rfl rfl (by decide) ?_
  exact st_ireturn (ty := .boolean) rfl rfl (by decide) k
set_option maxRecDepth 20000 in
theorem B_Lw_law_306 {d : Nat} {h : PH} {Q : PQ} {r1 : Nat} {r2 : Nat} {x3 : Int32} (hb0 : vp_in (x3 + (1 : Int32)) (h_sc h).1) (hb1 : vp_in (x3 + (2 : Int32)) (h_sc h).1) (hs2 : h_sh h r1 = some (0, 11)) (k : wpm d 122 [.ref r1, .int ((h_sc h).2 (x3 + (1 : Int32)).toNatClampNeg), .int ((h_sc h).2 (x3 + (2 : Int32)).toNatClampNeg)] h (fun r h' => wpx d P_Lw_law 320 [.retAddr 1, .ref r1, .ref r2, .int x3] (r.toList ++ []) h' Q)) : wpx d P_Lw_law 306 [.retAddr 1, .ref r1, .ref r2, .int x3] [] h Q := by
  refine st_aload (pc' := 307) rfl rfl rfl ?_
  refine st_aloadS (pc' := 308) rfl rfl rfl ?_
  refine st_iload (pc' := 309) rfl rfl rfl ?_
  refine st_ipush (pc' := 310) (v := 1) rfl rfl (by decide) ?_
  refine st_iadd (pc' := 311) rfl rfl ?_
  refine st_sload rfl hb0 (pc' := 312) rfl ?_
  refine st_aloadS (pc' := 313) rfl rfl rfl ?_
  refine st_iload (pc' := 314) rfl rfl rfl ?_
  refine st_ipush (pc' := 315) (v := 2) rfl rfl (by decide) ?_
  refine st_iadd (pc' := 316) rfl rfl ?_
  refine st_sload rfl hb1 (pc' := 317) rfl ?_
  exact st_call (pc' := 320) (as := [.ref r1, .int ((h_sc h).2 (x3 + (1 : Int32)).toNatClampNeg), .int ((h_sc h).2 (x3 + (2 : Int32)).toNatClampNeg)]) (rest := []) rfl rfl (Nat.le_of_ble_eq_true rfl) rfl rfl (Nat.le_of_ble_eq_true rfl) (kd := 1) (o := 11) rfl rfl (beq_iff_eq.mpr hs2) k
set_option maxRecDepth 20000 in
theorem B_Lw_law_320 {d : Nat} {h : PH} {Q : PQ} {r1 : Nat} {r2 : Nat} {x3 : Int32} {s0 : Int32} (hb0 : vp_in (x3 + (1 : Int32)) (h_sc h).1) (hb1 : vp_in (x3 + (2 : Int32)) (h_sc h).1) (hs2 : h_sh h r2 = some (0, 12)) (k : wpm d 203 [.ref r2, .int ((h_sc h).2 (x3 + (1 : Int32)).toNatClampNeg), .int ((h_sc h).2 (x3 + (2 : Int32)).toNatClampNeg)] h (fun r h' => wpx d P_Lw_law 334 [.retAddr 1, .ref r1, .ref r2, .int x3] (r.toList ++ [.int s0]) h' Q)) : wpx d P_Lw_law 320 [.retAddr 1, .ref r1, .ref r2, .int x3] [.int s0] h Q := by
  refine st_aload (pc' := 321) rfl rfl rfl ?_
  refine st_aloadS (pc' := 322) rfl rfl rfl ?_
  refine st_iload (pc' := 323) rfl rfl rfl ?_
  refine st_ipush (pc' := 324) (v := 1) rfl rfl (by decide) ?_
  refine st_iadd (pc' := 325) rfl rfl ?_
  refine st_sload rfl hb0 (pc' := 326) rfl ?_
  refine st_aloadS (pc' := 327) rfl rfl rfl ?_
  refine st_iload (pc' := 328) rfl rfl rfl ?_
  refine st_ipush (pc' := 329) (v := 2) rfl rfl (by decide) ?_
  refine st_iadd (pc' := 330) rfl rfl ?_
  refine st_sload rfl hb1 (pc' := 331) rfl ?_
  exact st_call (pc' := 334) (as := [.ref r2, .int ((h_sc h).2 (x3 + (1 : Int32)).toNatClampNeg), .int ((h_sc h).2 (x3 + (2 : Int32)).toNatClampNeg)]) (rest := [.int s0]) rfl rfl (Nat.le_of_ble_eq_true rfl) rfl rfl (Nat.le_of_ble_eq_true rfl) (kd := 1) (o := 12) rfl rfl (beq_iff_eq.mpr hs2) k
set_option maxRecDepth 20000 in
theorem B_Lw_law_334 {d : Nat} {h : PH} {Q : PQ} {r1 : Nat} {r2 : Nat} {x3 : Int32} {s0 : Int32} {s1 : Int32}  (kt : s0 = s1 → wpx d P_Lw_law 1096 [.retAddr 1, .ref r1, .ref r2, .int x3] [] h Q) (kf : ¬ (s0 = s1) → wpx d P_Lw_law 337 [.retAddr 1, .ref r1, .ref r2, .int x3] [] h Q) : wpx d P_Lw_law 334 [.retAddr 1, .ref r1, .ref r2, .int x3] [.int s1, .int s0] h Q := by
  exact st_icmp_eq (pc' := 337) rfl rfl kt kf
set_option maxRecDepth 20000 in
theorem B_Lw_law_337 {d : Nat} {h : PH} {Q : PQ} {r1 : Nat} {r2 : Nat} {x3 : Int32}  (k : Q (some (.int 0)) h) : wpx d P_Lw_law 337 [.retAddr 1, .ref r1, .ref r2, .int x3] [] h Q := by
  refine st_ipush (pc' := 338) (v := 0) rfl rfl (by decide) ?_
  exact st_ireturn (ty := .boolean) rfl rfl (by decide) k
set_option maxRecDepth 20000 in
theorem B_Lw_law_339 {d : Nat} {h : PH} {Q : PQ} {r1 : Nat} {r2 : Nat} {x3 : Int32} (hb0 : vp_in (x3 + (1 : Int32)) (h_sc h).1) (hs1 : h_sh h r1 = some (0, 11)) (k : wpm d 123 [.ref r1, .int ((h_sc h).2 (x3 + (1 : Int32)).toNatClampNeg)] h (fun r h' => wpx d P_Lw_law 348 [.retAddr 1, .ref r1, .ref r2, .int x3] (r.toList ++ []) h' Q)) : wpx d P_Lw_law 339 [.retAddr 1, .ref r1, .ref r2, .int x3] [] h Q := by
  refine st_aload (pc' := 340) rfl rfl rfl ?_
  refine st_aloadS (pc' := 341) rfl rfl rfl ?_
  refine st_iload (pc' := 342) rfl rfl rfl ?_
  refine st_ipush (pc' := 343) (v := 1) rfl rfl (by decide) ?_
  refine st_iadd (pc' := 344) rfl rfl ?_
  refine st_sload rfl hb0 (pc' := 345) rfl ?_
  exact st_call (pc' := 348) (as := [.ref r1, .int ((h_sc h).2 (x3 + (1 : Int32)).toNatClampNeg)]) (rest := []) rfl rfl (Nat.le_of_ble_eq_true rfl) rfl rfl (Nat.le_of_ble_eq_true rfl) (kd := 1) (o := 11) rfl rfl (beq_iff_eq.mpr hs1) k
set_option maxRecDepth 20000 in
theorem B_Lw_law_348 {d : Nat} {h : PH} {Q : PQ} {r1 : Nat} {r2 : Nat} {x3 : Int32} {s0 : Int32} (hb0 : vp_in (x3 + (1 : Int32)) (h_sc h).1) (hs1 : h_sh h r2 = some (0, 12)) (k : wpm d 204 [.ref r2, .int ((h_sc h).2 (x3 + (1 : Int32)).toNatClampNeg)] h (fun r h' => wpx d P_Lw_law 357 [.retAddr 1, .ref r1, .ref r2, .int x3] (r.toList ++ [.int s0]) h' Q)) : wpx d P_Lw_law 348 [.retAddr 1, .ref r1, .ref r2, .int x3] [.int s0] h Q := by
  refine st_aload (pc' := 349) rfl rfl rfl ?_
  refine st_aloadS (pc' := 350) rfl rfl rfl ?_
  refine st_iload (pc' := 351) rfl rfl rfl ?_
  refine st_ipush (pc' := 352) (v := 1) rfl rfl (by decide) ?_
  refine st_iadd (pc' := 353) rfl rfl ?_
  refine st_sload rfl hb0 (pc' := 354) rfl ?_
  exact st_call (pc' := 357) (as := [.ref r2, .int ((h_sc h).2 (x3 + (1 : Int32)).toNatClampNeg)]) (rest := [.int s0]) rfl rfl (Nat.le_of_ble_eq_true rfl) rfl rfl (Nat.le_of_ble_eq_true rfl) (kd := 1) (o := 12) rfl rfl (beq_iff_eq.mpr hs1) k
set_option maxRecDepth 20000 in
theorem B_Lw_law_357 {d : Nat} {h : PH} {Q : PQ} {r1 : Nat} {r2 : Nat} {x3 : Int32} {s0 : Int32} {s1 : Int32}  (kt : s0 = s1 → wpx d P_Lw_law 1096 [.retAddr 1, .ref r1, .ref r2, .int x3] [] h Q) (kf : ¬ (s0 = s1) → wpx d P_Lw_law 360 [.retAddr 1, .ref r1, .ref r2, .int x3] [] h Q) : wpx d P_Lw_law 357 [.retAddr 1, .ref r1, .ref r2, .int x3] [.int s1, .int s0] h Q := by
  exact st_icmp_eq (pc' := 360) rfl rfl kt kf
set_option maxRecDepth 20000 in
theorem B_Lw_law_360 {d : Nat} {h : PH} {Q : PQ} {r1 : Nat} {r2 : Nat} {x3 : Int32}  (k : Q (some (.int 0)) h) : wpx d P_Lw_law 360 [.retAddr 1, .ref r1, .ref r2, .int x3] [] h Q := by
  refine st_ipush (pc' := 361) (v := 0) rfl rfl (by decide) ?_
  exact st_ireturn (ty := .boolean) rfl rfl (by decide) k
set_option maxRecDepth 20000 in
theorem B_Lw_law_362 {d : Nat} {h : PH} {Q : PQ} {r1 : Nat} {r2 : Nat} {x3 : Int32} (hb0 : vp_in (x3 + (1 : Int32)) (h_sc h).1) (hb1 : vp_in (x3 + (2 : Int32)) (h_sc h).1) (hs2 : h_sh h r1 = some (0, 11)) (k : wpm d 124 [.ref r1, .int ((h_sc h).2 (x3 + (1 : Int32)).toNatClampNeg), .int ((h_sc h).2 (x3 + (2 : Int32)).toNatClampNeg)] h (fun r h' => wpx d P_Lw_law 376 [.retAddr 1, .ref r1, .ref r2, .int x3] (r.toList ++ []) h' Q)) : wpx d P_Lw_law 362 [.retAddr 1, .ref r1, .ref r2, .int x3] [] h Q := by
  refine st_aload (pc' := 363) rfl rfl rfl ?_
  refine st_aloadS (pc' := 364) rfl rfl rfl ?_
  refine st_iload (pc' := 365) rfl rfl rfl ?_
  refine st_ipush (pc' := 366) (v := 1) rfl rfl (by decide) ?_
  refine st_iadd (pc' := 367) rfl rfl ?_
  refine st_sload rfl hb0 (pc' := 368) rfl ?_
  refine st_aloadS (pc' := 369) rfl rfl rfl ?_
  refine st_iload (pc' := 370) rfl rfl rfl ?_
  refine st_ipush (pc' := 371) (v := 2) rfl rfl (by decide) ?_
  refine st_iadd (pc' := 372) rfl rfl ?_
  refine st_sload rfl hb1 (pc' := 373) rfl ?_
  exact st_call (pc' := 376) (as := [.ref r1, .int ((h_sc h).2 (x3 + (1 : Int32)).toNatClampNeg), .int ((h_sc h).2 (x3 + (2 : Int32)).toNatClampNeg)]) (rest := []) rfl rfl (Nat.le_of_ble_eq_true rfl) rfl rfl (Nat.le_of_ble_eq_true rfl) (kd := 1) (o := 11) rfl rfl (beq_iff_eq.mpr hs2) k
set_option maxRecDepth 20000 in
theorem B_Lw_law_376 {d : Nat} {h : PH} {Q : PQ} {r1 : Nat} {r2 : Nat} {x3 : Int32} {s0 : Int32} (hb0 : vp_in (x3 + (1 : Int32)) (h_sc h).1) (hb1 : vp_in (x3 + (2 : Int32)) (h_sc h).1) (hs2 : h_sh h r2 = some (0, 12)) (k : wpm d 205 [.ref r2, .int ((h_sc h).2 (x3 + (1 : Int32)).toNatClampNeg), .int ((h_sc h).2 (x3 + (2 : Int32)).toNatClampNeg)] h (fun r h' => wpx d P_Lw_law 390 [.retAddr 1, .ref r1, .ref r2, .int x3] (r.toList ++ [.int s0]) h' Q)) : wpx d P_Lw_law 376 [.retAddr 1, .ref r1, .ref r2, .int x3] [.int s0] h Q := by
  refine st_aload (pc' := 377) rfl rfl rfl ?_
  refine st_aloadS (pc' := 378) rfl rfl rfl ?_
  refine st_iload (pc' := 379) rfl rfl rfl ?_
  refine st_ipush (pc' := 380) (v := 1) rfl rfl (by decide) ?_
  refine st_iadd (pc' := 381) rfl rfl ?_
  refine st_sload rfl hb0 (pc' := 382) rfl ?_
  refine st_aloadS (pc' := 383) rfl rfl rfl ?_
  refine st_iload (pc' := 384) rfl rfl rfl ?_
  refine st_ipush (pc' := 385) (v := 2) rfl rfl (by decide) ?_
  refine st_iadd (pc' := 386) rfl rfl ?_
  refine st_sload rfl hb1 (pc' := 387) rfl ?_
  exact st_call (pc' := 390) (as := [.ref r2, .int ((h_sc h).2 (x3 + (1 : Int32)).toNatClampNeg), .int ((h_sc h).2 (x3 + (2 : Int32)).toNatClampNeg)]) (rest := [.int s0]) rfl rfl (Nat.le_of_ble_eq_true rfl) rfl rfl (Nat.le_of_ble_eq_true rfl) (kd := 1) (o := 12) rfl rfl (beq_iff_eq.mpr hs2) k
set_option maxRecDepth 20000 in
theorem B_Lw_law_390 {d : Nat} {h : PH} {Q : PQ} {r1 : Nat} {r2 : Nat} {x3 : Int32} {s0 : Int32} {s1 : Int32}  (kt : s0 = s1 → wpx d P_Lw_law 1096 [.retAddr 1, .ref r1, .ref r2, .int x3] [] h Q) (kf : ¬ (s0 = s1) → wpx d P_Lw_law 393 [.retAddr 1, .ref r1, .ref r2, .int x3] [] h Q) : wpx d P_Lw_law 390 [.retAddr 1, .ref r1, .ref r2, .int x3] [.int s1, .int s0] h Q := by
  exact st_icmp_eq (pc' := 393) rfl rfl kt kf
set_option maxRecDepth 20000 in
theorem B_Lw_law_393 {d : Nat} {h : PH} {Q : PQ} {r1 : Nat} {r2 : Nat} {x3 : Int32}  (k : Q (some (.int 0)) h) : wpx d P_Lw_law 393 [.retAddr 1, .ref r1, .ref r2, .int x3] [] h Q := by
  refine st_ipush (pc' := 394) (v := 0) rfl rfl (by decide) ?_
  exact st_ireturn (ty := .boolean) rfl rfl (by decide) k
set_option maxRecDepth 20000 in
theorem B_Lw_law_395 {d : Nat} {h : PH} {Q : PQ} {r1 : Nat} {r2 : Nat} {x3 : Int32} (hs0 : h_sh h r1 = some (0, 11)) (k : wpm d 125 [.ref r1] h (fun r h' => wpx d P_Lw_law 399 [.retAddr 1, .ref r1, .ref r2, .int x3] (r.toList ++ []) h' Q)) : wpx d P_Lw_law 395 [.retAddr 1, .ref r1, .ref r2, .int x3] [] h Q := by
  refine st_aload (pc' := 396) rfl rfl rfl ?_
  exact st_call (pc' := 399) (as := [.ref r1]) (rest := []) rfl rfl (Nat.le_of_ble_eq_true rfl) rfl rfl (Nat.le_of_ble_eq_true rfl) (kd := 1) (o := 11) rfl rfl (beq_iff_eq.mpr hs0) k
set_option maxRecDepth 20000 in
theorem B_Lw_law_399 {d : Nat} {h : PH} {Q : PQ} {r1 : Nat} {r2 : Nat} {x3 : Int32} {s0 : Int32} (hs0 : h_sh h r2 = some (0, 12)) (k : wpm d 213 [.ref r2] h (fun r h' => wpx d P_Lw_law 403 [.retAddr 1, .ref r1, .ref r2, .int x3] (r.toList ++ [.int s0]) h' Q)) : wpx d P_Lw_law 399 [.retAddr 1, .ref r1, .ref r2, .int x3] [.int s0] h Q := by
  refine st_aload (pc' := 400) rfl rfl rfl ?_
  exact st_call (pc' := 403) (as := [.ref r2]) (rest := [.int s0]) rfl rfl (Nat.le_of_ble_eq_true rfl) rfl rfl (Nat.le_of_ble_eq_true rfl) (kd := 1) (o := 12) rfl rfl (beq_iff_eq.mpr hs0) k
set_option maxRecDepth 20000 in
theorem B_Lw_law_403 {d : Nat} {h : PH} {Q : PQ} {r1 : Nat} {r2 : Nat} {x3 : Int32} {s0 : Int32} {s1 : Int32}  (kt : s0 = s1 → wpx d P_Lw_law 1096 [.retAddr 1, .ref r1, .ref r2, .int x3] [] h Q) (kf : ¬ (s0 = s1) → wpx d P_Lw_law 406 [.retAddr 1, .ref r1, .ref r2, .int x3] [] h Q) : wpx d P_Lw_law 403 [.retAddr 1, .ref r1, .ref r2, .int x3] [.int s1, .int s0] h Q := by
  exact st_icmp_eq (pc' := 406) rfl rfl kt kf
set_option maxRecDepth 20000 in
theorem B_Lw_law_406 {d : Nat} {h : PH} {Q : PQ} {r1 : Nat} {r2 : Nat} {x3 : Int32}  (k : Q (some (.int 0)) h) : wpx d P_Lw_law 406 [.retAddr 1, .ref r1, .ref r2, .int x3] [] h Q := by
  refine st_ipush (pc' := 407) (v := 0) rfl rfl (by decide) ?_
  exact st_ireturn (ty := .boolean) rfl rfl (by decide) k
set_option maxRecDepth 20000 in
theorem B_Lw_law_408 {d : Nat} {h : PH} {Q : PQ} {r1 : Nat} {r2 : Nat} {x3 : Int32} (hb0 : vp_in (x3 + (1 : Int32)) (h_sc h).1) (hs1 : h_sh h r1 = some (0, 11)) (k : wpm d 126 [.ref r1, .int ((h_sc h).2 (x3 + (1 : Int32)).toNatClampNeg)] h (fun r h' => wpx d P_Lw_law 417 [.retAddr 1, .ref r1, .ref r2, .int x3] (r.toList ++ []) h' Q)) : wpx d P_Lw_law 408 [.retAddr 1, .ref r1, .ref r2, .int x3] [] h Q := by
  refine st_aload (pc' := 409) rfl rfl rfl ?_
  refine st_aloadS (pc' := 410) rfl rfl rfl ?_
  refine st_iload (pc' := 411) rfl rfl rfl ?_
  refine st_ipush (pc' := 412) (v := 1) rfl rfl (by decide) ?_
  refine st_iadd (pc' := 413) rfl rfl ?_
  refine st_sload rfl hb0 (pc' := 414) rfl ?_
  exact st_call (pc' := 417) (as := [.ref r1, .int ((h_sc h).2 (x3 + (1 : Int32)).toNatClampNeg)]) (rest := []) rfl rfl (Nat.le_of_ble_eq_true rfl) rfl rfl (Nat.le_of_ble_eq_true rfl) (kd := 1) (o := 11) rfl rfl (beq_iff_eq.mpr hs1) k
set_option maxRecDepth 20000 in
theorem B_Lw_law_417 {d : Nat} {h : PH} {Q : PQ} {r1 : Nat} {r2 : Nat} {x3 : Int32} {s0 : Int32} (hb0 : vp_in (x3 + (1 : Int32)) (h_sc h).1) (hs1 : h_sh h r2 = some (0, 12)) (k : wpm d 214 [.ref r2, .int ((h_sc h).2 (x3 + (1 : Int32)).toNatClampNeg)] h (fun r h' => wpx d P_Lw_law 426 [.retAddr 1, .ref r1, .ref r2, .int x3] (r.toList ++ [.int s0]) h' Q)) : wpx d P_Lw_law 417 [.retAddr 1, .ref r1, .ref r2, .int x3] [.int s0] h Q := by
  refine st_aload (pc' := 418) rfl rfl rfl ?_
  refine st_aloadS (pc' := 419) rfl rfl rfl ?_
  refine st_iload (pc' := 420) rfl rfl rfl ?_
  refine st_ipush (pc' := 421) (v := 1) rfl rfl (by decide) ?_
  refine st_iadd (pc' := 422) rfl rfl ?_
  refine st_sload rfl hb0 (pc' := 423) rfl ?_
  exact st_call (pc' := 426) (as := [.ref r2, .int ((h_sc h).2 (x3 + (1 : Int32)).toNatClampNeg)]) (rest := [.int s0]) rfl rfl (Nat.le_of_ble_eq_true rfl) rfl rfl (Nat.le_of_ble_eq_true rfl) (kd := 1) (o := 12) rfl rfl (beq_iff_eq.mpr hs1) k
set_option maxRecDepth 20000 in
theorem B_Lw_law_426 {d : Nat} {h : PH} {Q : PQ} {r1 : Nat} {r2 : Nat} {x3 : Int32} {s0 : Int32} {s1 : Int32}  (kt : s0 = s1 → wpx d P_Lw_law 1096 [.retAddr 1, .ref r1, .ref r2, .int x3] [] h Q) (kf : ¬ (s0 = s1) → wpx d P_Lw_law 429 [.retAddr 1, .ref r1, .ref r2, .int x3] [] h Q) : wpx d P_Lw_law 426 [.retAddr 1, .ref r1, .ref r2, .int x3] [.int s1, .int s0] h Q := by
  exact st_icmp_eq (pc' := 429) rfl rfl kt kf
set_option maxRecDepth 20000 in
theorem B_Lw_law_429 {d : Nat} {h : PH} {Q : PQ} {r1 : Nat} {r2 : Nat} {x3 : Int32}  (k : Q (some (.int 0)) h) : wpx d P_Lw_law 429 [.retAddr 1, .ref r1, .ref r2, .int x3] [] h Q := by
  refine st_ipush (pc' := 430) (v := 0) rfl rfl (by decide) ?_
  exact st_ireturn (ty := .boolean) rfl rfl (by decide) k
set_option maxRecDepth 20000 in
theorem B_Lw_law_431 {d : Nat} {h : PH} {Q : PQ} {r1 : Nat} {r2 : Nat} {x3 : Int32} (hb0 : vp_in (x3 + (1 : Int32)) (h_sc h).1) (hb1 : vp_in (x3 + (2 : Int32)) (h_sc h).1) (hb2 : vp_in (x3 + (3 : Int32)) (h_sc h).1) (hs3 : h_sh h r1 = some (0, 11)) (k : wpm d 127 [.ref r1, .int ((h_sc h).2 (x3 + (1 : Int32)).toNatClampNeg), .int ((h_sc h).2 (x3 + (2 : Int32)).toNatClampNeg), .int ((h_sc h).2 (x3 + (3 : Int32)).toNatClampNeg)] h (fun r h' => wpx d P_Lw_law 450 [.retAddr 1, .ref r1, .ref r2, .int x3] (r.toList ++ []) h' Q)) : wpx d P_Lw_law 431 [.retAddr 1, .ref r1, .ref r2, .int x3] [] h Q := by
  refine st_aload (pc' := 432) rfl rfl rfl ?_
  refine st_aloadS (pc' := 433) rfl rfl rfl ?_
  refine st_iload (pc' := 434) rfl rfl rfl ?_
  refine st_ipush (pc' := 435) (v := 1) rfl rfl (by decide) ?_
  refine st_iadd (pc' := 436) rfl rfl ?_
  refine st_sload rfl hb0 (pc' := 437) rfl ?_
  refine st_aloadS (pc' := 438) rfl rfl rfl ?_
  refine st_iload (pc' := 439) rfl rfl rfl ?_
  refine st_ipush (pc' := 440) (v := 2) rfl rfl (by decide) ?_
  refine st_iadd (pc' := 441) rfl rfl ?_
  refine st_sload rfl hb1 (pc' := 442) rfl ?_
  refine st_aloadS (pc' := 443) rfl rfl rfl ?_
  refine st_iload (pc' := 444) rfl rfl rfl ?_
  refine st_ipush (pc' := 445) (v := 3) rfl rfl (by decide) ?_
  refine st_iadd (pc' := 446) rfl rfl ?_
  refine st_sload rfl hb2 (pc' := 447) rfl ?_
  exact st_call (pc' := 450) (as := [.ref r1, .int ((h_sc h).2 (x3 + (1 : Int32)).toNatClampNeg), .int ((h_sc h).2 (x3 + (2 : Int32)).toNatClampNeg), .int ((h_sc h).2 (x3 + (3 : Int32)).toNatClampNeg)]) (rest := []) rfl rfl (Nat.le_of_ble_eq_true rfl) rfl rfl (Nat.le_of_ble_eq_true rfl) (kd := 1) (o := 11) rfl rfl (beq_iff_eq.mpr hs3) k
set_option maxRecDepth 20000 in
theorem B_Lw_law_450 {d : Nat} {h : PH} {Q : PQ} {r1 : Nat} {r2 : Nat} {x3 : Int32} {s0 : Int32} (hb0 : vp_in (x3 + (1 : Int32)) (h_sc h).1) (hb1 : vp_in (x3 + (2 : Int32)) (h_sc h).1) (hb2 : vp_in (x3 + (3 : Int32)) (h_sc h).1) (hs3 : h_sh h r2 = some (0, 12)) (k : wpm d 215 [.ref r2, .int ((h_sc h).2 (x3 + (1 : Int32)).toNatClampNeg), .int ((h_sc h).2 (x3 + (2 : Int32)).toNatClampNeg), .int ((h_sc h).2 (x3 + (3 : Int32)).toNatClampNeg)] h (fun r h' => wpx d P_Lw_law 469 [.retAddr 1, .ref r1, .ref r2, .int x3] (r.toList ++ [.int s0]) h' Q)) : wpx d P_Lw_law 450 [.retAddr 1, .ref r1, .ref r2, .int x3] [.int s0] h Q := by
  refine st_aload (pc' := 451) rfl rfl rfl ?_
  refine st_aloadS (pc' := 452) rfl rfl rfl ?_
  refine st_iload (pc' := 453) rfl rfl rfl ?_
  refine st_ipush (pc' := 454) (v := 1) rfl rfl (by decide) ?_
  refine st_iadd (pc' := 455) rfl rfl ?_
  refine st_sload rfl hb0 (pc' := 456) rfl ?_
  refine st_aloadS (pc' := 457) rfl rfl rfl ?_
  refine st_iload (pc' := 458) rfl rfl rfl ?_
  refine st_ipush (pc' := 459) (v := 2) rfl rfl (by decide) ?_
  refine st_iadd (pc' := 460) rfl rfl ?_
  refine st_sload rfl hb1 (pc' := 461) rfl ?_
  refine st_aloadS (pc' := 462) rfl rfl rfl ?_
  refine st_iload (pc' := 463) rfl rfl rfl ?_
  refine st_ipush (pc' := 464) (v := 3) rfl rfl (by decide) ?_
  refine st_iadd (pc' := 465) rfl rfl ?_
  refine st_sload rfl hb2 (pc' := 466) rfl ?_
  exact st_call (pc' := 469) (as := [.ref r2, .int ((h_sc h).2 (x3 + (1 : Int32)).toNatClampNeg), .int ((h_sc h).2 (x3 + (2 : Int32)).toNatClampNeg), .int ((h_sc h).2 (x3 + (3 : Int32)).toNatClampNeg)]) (rest := [.int s0]) rfl rfl (Nat.le_of_ble_eq_true rfl) rfl rfl (Nat.le_of_ble_eq_true rfl) (kd := 1) (o := 12) rfl rfl (beq_iff_eq.mpr hs3) k
set_option maxRecDepth 20000 in
theorem B_Lw_law_469 {d : Nat} {h : PH} {Q : PQ} {r1 : Nat} {r2 : Nat} {x3 : Int32} {s0 : Int32} {s1 : Int32}  (kt : s0 = s1 → wpx d P_Lw_law 1096 [.retAddr 1, .ref r1, .ref r2, .int x3] [] h Q) (kf : ¬ (s0 = s1) → wpx d P_Lw_law 472 [.retAddr 1, .ref r1, .ref r2, .int x3] [] h Q) : wpx d P_Lw_law 469 [.retAddr 1, .ref r1, .ref r2, .int x3] [.int s1, .int s0] h Q := by
  exact st_icmp_eq (pc' := 472) rfl rfl kt kf
set_option maxRecDepth 20000 in
theorem B_Lw_law_472 {d : Nat} {h : PH} {Q : PQ} {r1 : Nat} {r2 : Nat} {x3 : Int32}  (k : Q (some (.int 0)) h) : wpx d P_Lw_law 472 [.retAddr 1, .ref r1, .ref r2, .int x3] [] h Q := by
  refine st_ipush (pc' := 473) (v := 0) rfl rfl (by decide) ?_
  exact st_ireturn (ty := .boolean) rfl rfl (by decide) k
set_option maxRecDepth 20000 in
theorem B_Lw_law_474 {d : Nat} {h : PH} {Q : PQ} {r1 : Nat} {r2 : Nat} {x3 : Int32} (hs0 : h_sh h r1 = some (0, 11)) (k : wpm d 128 [.ref r1] h (fun r h' => wpx d P_Lw_law 478 [.retAddr 1, .ref r1, .ref r2, .int x3] (r.toList ++ []) h' Q)) : wpx d P_Lw_law 474 [.retAddr 1, .ref r1, .ref r2, .int x3] [] h Q := by
  refine st_aload (pc' := 475) rfl rfl rfl ?_
  exact st_call (pc' := 478) (as := [.ref r1]) (rest := []) rfl rfl (Nat.le_of_ble_eq_true rfl) rfl rfl (Nat.le_of_ble_eq_true rfl) (kd := 1) (o := 11) rfl rfl (beq_iff_eq.mpr hs0) k
set_option maxRecDepth 20000 in
theorem B_Lw_law_478 {d : Nat} {h : PH} {Q : PQ} {r1 : Nat} {r2 : Nat} {x3 : Int32} {s0 : Int32} (hs0 : h_sh h r2 = some (0, 12)) (k : wpm d 216 [.ref r2] h (fun r h' => wpx d P_Lw_law 482 [.retAddr 1, .ref r1, .ref r2, .int x3] (r.toList ++ [.int s0]) h' Q)) : wpx d P_Lw_law 478 [.retAddr 1, .ref r1, .ref r2, .int x3] [.int s0] h Q := by
  refine st_aload (pc' := 479) rfl rfl rfl ?_
  exact st_call (pc' := 482) (as := [.ref r2]) (rest := [.int s0]) rfl rfl (Nat.le_of_ble_eq_true rfl) rfl rfl (Nat.le_of_ble_eq_true rfl) (kd := 1) (o := 12) rfl rfl (beq_iff_eq.mpr hs0) k
set_option maxRecDepth 20000 in
theorem B_Lw_law_482 {d : Nat} {h : PH} {Q : PQ} {r1 : Nat} {r2 : Nat} {x3 : Int32} {s0 : Int32} {s1 : Int32}  (kt : s0 = s1 → wpx d P_Lw_law 1096 [.retAddr 1, .ref r1, .ref r2, .int x3] [] h Q) (kf : ¬ (s0 = s1) → wpx d P_Lw_law 485 [.retAddr 1, .ref r1, .ref r2, .int x3] [] h Q) : wpx d P_Lw_law 482 [.retAddr 1, .ref r1, .ref r2, .int x3] [.int s1, .int s0] h Q := by
  exact st_icmp_eq (pc' := 485) rfl rfl kt kf
set_option maxRecDepth 20000 in
theorem B_Lw_law_485 {d : Nat} {h : PH} {Q : PQ} {r1 : Nat} {r2 : Nat} {x3 : Int32}  (k : Q (some (.int 0)) h) : wpx d P_Lw_law 485 [.retAddr 1, .ref r1, .ref r2, .int x3] [] h Q := by
  refine st_ipush (pc' := 486) (v := 0) rfl rfl (by decide) ?_
  exact st_ireturn (ty := .boolean) rfl rfl (by decide) k
set_option maxRecDepth 20000 in
theorem B_Lw_law_487 {d : Nat} {h : PH} {Q : PQ} {r1 : Nat} {r2 : Nat} {x3 : Int32} (hs0 : h_sh h r1 = some (0, 11)) (k : wpm d 129 [.ref r1] h (fun r h' => wpx d P_Lw_law 491 [.retAddr 1, .ref r1, .ref r2, .int x3] (r.toList ++ []) h' Q)) : wpx d P_Lw_law 487 [.retAddr 1, .ref r1, .ref r2, .int x3] [] h Q := by
  refine st_aload (pc' := 488) rfl rfl rfl ?_
  exact st_call (pc' := 491) (as := [.ref r1]) (rest := []) rfl rfl (Nat.le_of_ble_eq_true rfl) rfl rfl (Nat.le_of_ble_eq_true rfl) (kd := 1) (o := 11) rfl rfl (beq_iff_eq.mpr hs0) k
set_option maxRecDepth 20000 in
theorem B_Lw_law_491 {d : Nat} {h : PH} {Q : PQ} {r1 : Nat} {r2 : Nat} {x3 : Int32} {s0 : Int32} (hs0 : h_sh h r2 = some (0, 12)) (k : wpm d 222 [.ref r2] h (fun r h' => wpx d P_Lw_law 495 [.retAddr 1, .ref r1, .ref r2, .int x3] (r.toList ++ [.int s0]) h' Q)) : wpx d P_Lw_law 491 [.retAddr 1, .ref r1, .ref r2, .int x3] [.int s0] h Q := by
  refine st_aload (pc' := 492) rfl rfl rfl ?_
  exact st_call (pc' := 495) (as := [.ref r2]) (rest := [.int s0]) rfl rfl (Nat.le_of_ble_eq_true rfl) rfl rfl (Nat.le_of_ble_eq_true rfl) (kd := 1) (o := 12) rfl rfl (beq_iff_eq.mpr hs0) k
set_option maxRecDepth 20000 in
theorem B_Lw_law_495 {d : Nat} {h : PH} {Q : PQ} {r1 : Nat} {r2 : Nat} {x3 : Int32} {s0 : Int32} {s1 : Int32}  (kt : s0 = s1 → wpx d P_Lw_law 1096 [.retAddr 1, .ref r1, .ref r2, .int x3] [] h Q) (kf : ¬ (s0 = s1) → wpx d P_Lw_law 498 [.retAddr 1, .ref r1, .ref r2, .int x3] [] h Q) : wpx d P_Lw_law 495 [.retAddr 1, .ref r1, .ref r2, .int x3] [.int s1, .int s0] h Q := by
  exact st_icmp_eq (pc' := 498) rfl rfl kt kf
set_option maxRecDepth 20000 in
theorem B_Lw_law_498 {d : Nat} {h : PH} {Q : PQ} {r1 : Nat} {r2 : Nat} {x3 : Int32}  (k : Q (some (.int 0)) h) : wpx d P_Lw_law 498 [.retAddr 1, .ref r1, .ref r2, .int x3] [] h Q := by
  refine st_ipush (pc' := 499) (v := 0) rfl rfl (by decide) ?_
  exact st_ireturn (ty := .boolean) rfl rfl (by decide) k
set_option maxRecDepth 20000 in
theorem B_Lw_law_500 {d : Nat} {h : PH} {Q : PQ} {r1 : Nat} {r2 : Nat} {x3 : Int32} (hs0 : h_sh h r1 = some (0, 11)) (k : wpm d 130 [.ref r1] h (fun r h' => wpx d P_Lw_law 504 [.retAddr 1, .ref r1, .ref r2, .int x3] (r.toList ++ []) h' Q)) : wpx d P_Lw_law 500 [.retAddr 1, .ref r1, .ref r2, .int x3] [] h Q := by
  refine st_aload (pc' := 501) rfl rfl rfl ?_
  exact st_call (pc' := 504) (as := [.ref r1]) (rest := []) rfl rfl (Nat.le_of_ble_eq_true rfl) rfl rfl (Nat.le_of_ble_eq_true rfl) (kd := 1) (o := 11) rfl rfl (beq_iff_eq.mpr hs0) k
set_option maxRecDepth 20000 in
theorem B_Lw_law_504 {d : Nat} {h : PH} {Q : PQ} {r1 : Nat} {r2 : Nat} {x3 : Int32} {s0 : Int32} (hs0 : h_sh h r2 = some (0, 12)) (k : wpm d 223 [.ref r2] h (fun r h' => wpx d P_Lw_law 508 [.retAddr 1, .ref r1, .ref r2, .int x3] (r.toList ++ [.int s0]) h' Q)) : wpx d P_Lw_law 504 [.retAddr 1, .ref r1, .ref r2, .int x3] [.int s0] h Q := by
  refine st_aload (pc' := 505) rfl rfl rfl ?_
  exact st_call (pc' := 508) (as := [.ref r2]) (rest := [.int s0]) rfl rfl (Nat.le_of_ble_eq_true rfl) rfl rfl (Nat.le_of_ble_eq_true rfl) (kd := 1) (o := 12) rfl rfl (beq_iff_eq.mpr hs0) k
set_option maxRecDepth 20000 in
theorem B_Lw_law_508 {d : Nat} {h : PH} {Q : PQ} {r1 : Nat} {r2 : Nat} {x3 : Int32} {s0 : Int32} {s1 : Int32}  (kt : s0 = s1 → wpx d P_Lw_law 1096 [.retAddr 1, .ref r1, .ref r2, .int x3] [] h Q) (kf : ¬ (s0 = s1) → wpx d P_Lw_law 511 [.retAddr 1, .ref r1, .ref r2, .int x3] [] h Q) : wpx d P_Lw_law 508 [.retAddr 1, .ref r1, .ref r2, .int x3] [.int s1, .int s0] h Q := by
  exact st_icmp_eq (pc' := 511) rfl rfl kt kf
set_option maxRecDepth 20000 in
theorem B_Lw_law_511 {d : Nat} {h : PH} {Q : PQ} {r1 : Nat} {r2 : Nat} {x3 : Int32}  (k : Q (some (.int 0)) h) : wpx d P_Lw_law 511 [.retAddr 1, .ref r1, .ref r2, .int x3] [] h Q := by
  refine st_ipush (pc' := 512) (v := 0) rfl rfl (by decide) ?_
  exact st_ireturn (ty := .boolean) rfl rfl (by decide) k
set_option maxRecDepth 20000 in
theorem B_Lw_law_513 {d : Nat} {h : PH} {Q : PQ} {r1 : Nat} {r2 : Nat} {x3 : Int32} (hb0 : vp_in (x3 + (1 : Int32)) (h_sc h).1) (hs1 : h_sh h r1 = some (0, 11)) (k : wpm d 131 [.ref r1, .int ((h_sc h).2 (x3 + (1 : Int32)).toNatClampNeg)] h (fun r h' => wpx d P_Lw_law 522 [.retAddr 1, .ref r1, .ref r2, .int x3] (r.toList ++ []) h' Q)) : wpx d P_Lw_law 513 [.retAddr 1, .ref r1, .ref r2, .int x3] [] h Q := by
  refine st_aload (pc' := 514) rfl rfl rfl ?_
  refine st_aloadS (pc' := 515) rfl rfl rfl ?_
  refine st_iload (pc' := 516) rfl rfl rfl ?_
  refine st_ipush (pc' := 517) (v := 1) rfl rfl (by decide) ?_
  refine st_iadd (pc' := 518) rfl rfl ?_
  refine st_sload rfl hb0 (pc' := 519) rfl ?_
  exact st_call (pc' := 522) (as := [.ref r1, .int ((h_sc h).2 (x3 + (1 : Int32)).toNatClampNeg)]) (rest := []) rfl rfl (Nat.le_of_ble_eq_true rfl) rfl rfl (Nat.le_of_ble_eq_true rfl) (kd := 1) (o := 11) rfl rfl (beq_iff_eq.mpr hs1) k
set_option maxRecDepth 20000 in
theorem B_Lw_law_522 {d : Nat} {h : PH} {Q : PQ} {r1 : Nat} {r2 : Nat} {x3 : Int32} {t0 : Int64} (hb0 : vp_in (x3 + (1 : Int32)) (h_sc h).1) (hs1 : h_sh h r2 = some (0, 12)) (k : wpm d 225 [.ref r2, .int ((h_sc h).2 (x3 + (1 : Int32)).toNatClampNeg)] h (fun r h' => wpx d P_Lw_law 531 [.retAddr 1, .ref r1, .ref r2, .int x3] (r.toList ++ [.long t0]) h' Q)) : wpx d P_Lw_law 522 [.retAddr 1, .ref r1, .ref r2, .int x3] [.long t0] h Q := by
  refine st_aload (pc' := 523) rfl rfl rfl ?_
  refine st_aloadS (pc' := 524) rfl rfl rfl ?_
  refine st_iload (pc' := 525) rfl rfl rfl ?_
  refine st_ipush (pc' := 526) (v := 1) rfl rfl (by decide) ?_
  refine st_iadd (pc' := 527) rfl rfl ?_
  refine st_sload rfl hb0 (pc' := 528) rfl ?_
  exact st_call (pc' := 531) (as := [.ref r2, .int ((h_sc h).2 (x3 + (1 : Int32)).toNatClampNeg)]) (rest := [.long t0]) rfl rfl (Nat.le_of_ble_eq_true rfl) rfl rfl (Nat.le_of_ble_eq_true rfl) (kd := 1) (o := 12) rfl rfl (beq_iff_eq.mpr hs1) k
set_option maxRecDepth 20000 in
theorem B_Lw_law_531 {d : Nat} {h : PH} {Q : PQ} {r1 : Nat} {r2 : Nat} {x3 : Int32} {t0 : Int64} {t1 : Int64}  (kt : (lg_cmp t0 t1) = 0 → wpx d P_Lw_law 1096 [.retAddr 1, .ref r1, .ref r2, .int x3] [] h Q) (kf : ¬ ((lg_cmp t0 t1) = 0) → wpx d P_Lw_law 535 [.retAddr 1, .ref r1, .ref r2, .int x3] [] h Q) : wpx d P_Lw_law 531 [.retAddr 1, .ref r1, .ref r2, .int x3] [.long t1, .long t0] h Q := by
  refine st_lcmp (pc' := 532) rfl rfl ?_
  exact st_if_eq (pc' := 535) rfl rfl kt kf
set_option maxRecDepth 20000 in
theorem B_Lw_law_535 {d : Nat} {h : PH} {Q : PQ} {r1 : Nat} {r2 : Nat} {x3 : Int32}  (k : Q (some (.int 0)) h) : wpx d P_Lw_law 535 [.retAddr 1, .ref r1, .ref r2, .int x3] [] h Q := by
  refine st_ipush (pc' := 536) (v := 0) rfl rfl (by decide) ?_
  exact st_ireturn (ty := .boolean) rfl rfl (by decide) k
set_option maxRecDepth 20000 in
theorem B_Lw_law_537 {d : Nat} {h : PH} {Q : PQ} {r1 : Nat} {r2 : Nat} {x3 : Int32} (hs0 : h_sh h r1 = some (0, 11)) (k : wpm d 132 [.ref r1] h (fun r h' => wpx d P_Lw_law 541 [.retAddr 1, .ref r1, .ref r2, .int x3] (r.toList ++ []) h' Q)) : wpx d P_Lw_law 537 [.retAddr 1, .ref r1, .ref r2, .int x3] [] h Q := by
  refine st_aload (pc' := 538) rfl rfl rfl ?_
  exact st_call (pc' := 541) (as := [.ref r1]) (rest := []) rfl rfl (Nat.le_of_ble_eq_true rfl) rfl rfl (Nat.le_of_ble_eq_true rfl) (kd := 1) (o := 11) rfl rfl (beq_iff_eq.mpr hs0) k
set_option maxRecDepth 20000 in
theorem B_Lw_law_541 {d : Nat} {h : PH} {Q : PQ} {r1 : Nat} {r2 : Nat} {x3 : Int32} {s0 : Int32} (hs0 : h_sh h r2 = some (0, 12)) (k : wpm d 228 [.ref r2] h (fun r h' => wpx d P_Lw_law 545 [.retAddr 1, .ref r1, .ref r2, .int x3] (r.toList ++ [.int s0]) h' Q)) : wpx d P_Lw_law 541 [.retAddr 1, .ref r1, .ref r2, .int x3] [.int s0] h Q := by
  refine st_aload (pc' := 542) rfl rfl rfl ?_
  exact st_call (pc' := 545) (as := [.ref r2]) (rest := [.int s0]) rfl rfl (Nat.le_of_ble_eq_true rfl) rfl rfl (Nat.le_of_ble_eq_true rfl) (kd := 1) (o := 12) rfl rfl (beq_iff_eq.mpr hs0) k
set_option maxRecDepth 20000 in
theorem B_Lw_law_545 {d : Nat} {h : PH} {Q : PQ} {r1 : Nat} {r2 : Nat} {x3 : Int32} {s0 : Int32} {s1 : Int32}  (kt : s0 = s1 → wpx d P_Lw_law 1096 [.retAddr 1, .ref r1, .ref r2, .int x3] [] h Q) (kf : ¬ (s0 = s1) → wpx d P_Lw_law 548 [.retAddr 1, .ref r1, .ref r2, .int x3] [] h Q) : wpx d P_Lw_law 545 [.retAddr 1, .ref r1, .ref r2, .int x3] [.int s1, .int s0] h Q := by
  exact st_icmp_eq (pc' := 548) rfl rfl kt kf
set_option maxRecDepth 20000 in
theorem B_Lw_law_548 {d : Nat} {h : PH} {Q : PQ} {r1 : Nat} {r2 : Nat} {x3 : Int32}  (k : Q (some (.int 0)) h) : wpx d P_Lw_law 548 [.retAddr 1, .ref r1, .ref r2, .int x3] [] h Q := by
  refine st_ipush (pc' := 549) (v := 0) rfl rfl (by decide) ?_
  exact st_ireturn (ty := .boolean) rfl rfl (by decide) k
set_option maxRecDepth 20000 in
theorem B_Lw_law_550 {d : Nat} {h : PH} {Q : PQ} {r1 : Nat} {r2 : Nat} {x3 : Int32} (hb0 : vp_in (x3 + (1 : Int32)) (h_sc h).1) (hs1 : h_sh h r1 = some (0, 11)) (k : wpm d 133 [.ref r1, .int ((h_sc h).2 (x3 + (1 : Int32)).toNatClampNeg)] h (fun r h' => wpx d P_Lw_law 559 [.retAddr 1, .ref r1, .ref r2, .int x3] (r.toList ++ []) h' Q)) : wpx d P_Lw_law 550 [.retAddr 1, .ref r1, .ref r2, .int x3] [] h Q := by
  refine st_aload (pc' := 551) rfl rfl rfl ?_
  refine st_aloadS (pc' := 552) rfl rfl rfl ?_
  refine st_iload (pc' := 553) rfl rfl rfl ?_
  refine st_ipush (pc' := 554) (v := 1) rfl rfl (by decide) ?_
  refine st_iadd (pc' := 555) rfl rfl ?_
  refine st_sload rfl hb0 (pc' := 556) rfl ?_
  exact st_call (pc' := 559) (as := [.ref r1, .int ((h_sc h).2 (x3 + (1 : Int32)).toNatClampNeg)]) (rest := []) rfl rfl (Nat.le_of_ble_eq_true rfl) rfl rfl (Nat.le_of_ble_eq_true rfl) (kd := 1) (o := 11) rfl rfl (beq_iff_eq.mpr hs1) k
set_option maxRecDepth 20000 in
theorem B_Lw_law_559 {d : Nat} {h : PH} {Q : PQ} {r1 : Nat} {r2 : Nat} {x3 : Int32} {s0 : Int32} (hb0 : vp_in (x3 + (1 : Int32)) (h_sc h).1) (hs1 : h_sh h r2 = some (0, 12)) (k : wpm d 229 [.ref r2, .int ((h_sc h).2 (x3 + (1 : Int32)).toNatClampNeg)] h (fun r h' => wpx d P_Lw_law 568 [.retAddr 1, .ref r1, .ref r2, .int x3] (r.toList ++ [.int s0]) h' Q)) : wpx d P_Lw_law 559 [.retAddr 1, .ref r1, .ref r2, .int x3] [.int s0] h Q := by
  refine st_aload (pc' := 560) rfl rfl rfl ?_
  refine st_aloadS (pc' := 561) rfl rfl rfl ?_
  refine st_iload (pc' := 562) rfl rfl rfl ?_
  refine st_ipush (pc' := 563) (v := 1) rfl rfl (by decide) ?_
  refine st_iadd (pc' := 564) rfl rfl ?_
  refine st_sload rfl hb0 (pc' := 565) rfl ?_
  exact st_call (pc' := 568) (as := [.ref r2, .int ((h_sc h).2 (x3 + (1 : Int32)).toNatClampNeg)]) (rest := [.int s0]) rfl rfl (Nat.le_of_ble_eq_true rfl) rfl rfl (Nat.le_of_ble_eq_true rfl) (kd := 1) (o := 12) rfl rfl (beq_iff_eq.mpr hs1) k
set_option maxRecDepth 20000 in
theorem B_Lw_law_568 {d : Nat} {h : PH} {Q : PQ} {r1 : Nat} {r2 : Nat} {x3 : Int32} {s0 : Int32} {s1 : Int32}  (kt : s0 = s1 → wpx d P_Lw_law 1096 [.retAddr 1, .ref r1, .ref r2, .int x3] [] h Q) (kf : ¬ (s0 = s1) → wpx d P_Lw_law 571 [.retAddr 1, .ref r1, .ref r2, .int x3] [] h Q) : wpx d P_Lw_law 568 [.retAddr 1, .ref r1, .ref r2, .int x3] [.int s1, .int s0] h Q := by
  exact st_icmp_eq (pc' := 571) rfl rfl kt kf
set_option maxRecDepth 20000 in
theorem B_Lw_law_571 {d : Nat} {h : PH} {Q : PQ} {r1 : Nat} {r2 : Nat} {x3 : Int32}  (k : Q (some (.int 0)) h) : wpx d P_Lw_law 571 [.retAddr 1, .ref r1, .ref r2, .int x3] [] h Q := by
  refine st_ipush (pc' := 572) (v := 0) rfl rfl (by decide) ?_
  exact st_ireturn (ty := .boolean) rfl rfl (by decide) k
set_option maxRecDepth 20000 in
theorem B_Lw_law_573 {d : Nat} {h : PH} {Q : PQ} {r1 : Nat} {r2 : Nat} {x3 : Int32} (hs0 : h_sh h r1 = some (0, 11)) (k : wpm d 134 [.ref r1] h (fun r h' => wpx d P_Lw_law 577 [.retAddr 1, .ref r1, .ref r2, .int x3] (r.toList ++ []) h' Q)) : wpx d P_Lw_law 573 [.retAddr 1, .ref r1, .ref r2, .int x3] [] h Q := by
  refine st_aload (pc' := 574) rfl rfl rfl ?_
  exact st_call (pc' := 577) (as := [.ref r1]) (rest := []) rfl rfl (Nat.le_of_ble_eq_true rfl) rfl rfl (Nat.le_of_ble_eq_true rfl) (kd := 1) (o := 11) rfl rfl (beq_iff_eq.mpr hs0) k
set_option maxRecDepth 20000 in
theorem B_Lw_law_577 {d : Nat} {h : PH} {Q : PQ} {r1 : Nat} {r2 : Nat} {x3 : Int32} {t0 : Int64} (hs0 : h_sh h r2 = some (0, 12)) (k : wpm d 230 [.ref r2] h (fun r h' => wpx d P_Lw_law 581 [.retAddr 1, .ref r1, .ref r2, .int x3] (r.toList ++ [.long t0]) h' Q)) : wpx d P_Lw_law 577 [.retAddr 1, .ref r1, .ref r2, .int x3] [.long t0] h Q := by
  refine st_aload (pc' := 578) rfl rfl rfl ?_
  exact st_call (pc' := 581) (as := [.ref r2]) (rest := [.long t0]) rfl rfl (Nat.le_of_ble_eq_true rfl) rfl rfl (Nat.le_of_ble_eq_true rfl) (kd := 1) (o := 12) rfl rfl (beq_iff_eq.mpr hs0) k
set_option maxRecDepth 20000 in
theorem B_Lw_law_581 {d : Nat} {h : PH} {Q : PQ} {r1 : Nat} {r2 : Nat} {x3 : Int32} {t0 : Int64} {t1 : Int64}  (kt : (lg_cmp t0 t1) = 0 → wpx d P_Lw_law 1096 [.retAddr 1, .ref r1, .ref r2, .int x3] [] h Q) (kf : ¬ ((lg_cmp t0 t1) = 0) → wpx d P_Lw_law 585 [.retAddr 1, .ref r1, .ref r2, .int x3] [] h Q) : wpx d P_Lw_law 581 [.retAddr 1, .ref r1, .ref r2, .int x3] [.long t1, .long t0] h Q := by
  refine st_lcmp (pc' := 582) rfl rfl ?_
  exact st_if_eq (pc' := 585) rfl rfl kt kf
set_option maxRecDepth 20000 in
theorem B_Lw_law_585 {d : Nat} {h : PH} {Q : PQ} {r1 : Nat} {r2 : Nat} {x3 : Int32}  (k : Q (some (.int 0)) h) : wpx d P_Lw_law 585 [.retAddr 1, .ref r1, .ref r2, .int x3] [] h Q := by
  refine st_ipush (pc' := 586) (v := 0) rfl rfl (by decide) ?_
  exact st_ireturn (ty := .boolean) rfl rfl (by decide) k
set_option maxRecDepth 20000 in
theorem B_Lw_law_587 {d : Nat} {h : PH} {Q : PQ} {r1 : Nat} {r2 : Nat} {x3 : Int32} (hb0 : vp_in (x3 + (1 : Int32)) (h_sc h).1) (hb1 : vp_in (x3 + (2 : Int32)) (h_sc h).1) (hs2 : h_sh h r1 = some (0, 11)) (k : wpm d 135 [.ref r1, .int ((h_sc h).2 (x3 + (1 : Int32)).toNatClampNeg), .int ((h_sc h).2 (x3 + (2 : Int32)).toNatClampNeg)] h (fun r h' => wpx d P_Lw_law 601 [.retAddr 1, .ref r1, .ref r2, .int x3] (r.toList ++ []) h' Q)) : wpx d P_Lw_law 587 [.retAddr 1, .ref r1, .ref r2, .int x3] [] h Q := by
  refine st_aload (pc' := 588) rfl rfl rfl ?_
  refine st_aloadS (pc' := 589) rfl rfl rfl ?_
  refine st_iload (pc' := 590) rfl rfl rfl ?_
  refine st_ipush (pc' := 591) (v := 1) rfl rfl (by decide) ?_
  refine st_iadd (pc' := 592) rfl rfl ?_
  refine st_sload rfl hb0 (pc' := 593) rfl ?_
  refine st_aloadS (pc' := 594) rfl rfl rfl ?_
  refine st_iload (pc' := 595) rfl rfl rfl ?_
  refine st_ipush (pc' := 596) (v := 2) rfl rfl (by decide) ?_
  refine st_iadd (pc' := 597) rfl rfl ?_
  refine st_sload rfl hb1 (pc' := 598) rfl ?_
  exact st_call (pc' := 601) (as := [.ref r1, .int ((h_sc h).2 (x3 + (1 : Int32)).toNatClampNeg), .int ((h_sc h).2 (x3 + (2 : Int32)).toNatClampNeg)]) (rest := []) rfl rfl (Nat.le_of_ble_eq_true rfl) rfl rfl (Nat.le_of_ble_eq_true rfl) (kd := 1) (o := 11) rfl rfl (beq_iff_eq.mpr hs2) k
set_option maxRecDepth 20000 in
theorem B_Lw_law_601 {d : Nat} {h : PH} {Q : PQ} {r1 : Nat} {r2 : Nat} {x3 : Int32} {s0 : Int32} (hb0 : vp_in (x3 + (1 : Int32)) (h_sc h).1) (hb1 : vp_in (x3 + (2 : Int32)) (h_sc h).1) (hs2 : h_sh h r2 = some (0, 12)) (k : wpm d 232 [.ref r2, .int ((h_sc h).2 (x3 + (1 : Int32)).toNatClampNeg), .int ((h_sc h).2 (x3 + (2 : Int32)).toNatClampNeg)] h (fun r h' => wpx d P_Lw_law 615 [.retAddr 1, .ref r1, .ref r2, .int x3] (r.toList ++ [.int s0]) h' Q)) : wpx d P_Lw_law 601 [.retAddr 1, .ref r1, .ref r2, .int x3] [.int s0] h Q := by
  refine st_aload (pc' := 602) rfl rfl rfl ?_
  refine st_aloadS (pc' := 603) rfl rfl rfl ?_
  refine st_iload (pc' := 604) rfl rfl rfl ?_
  refine st_ipush (pc' := 605) (v := 1) rfl rfl (by decide) ?_
  refine st_iadd (pc' := 606) rfl rfl ?_
  refine st_sload rfl hb0 (pc' := 607) rfl ?_
  refine st_aloadS (pc' := 608) rfl rfl rfl ?_
  refine st_iload (pc' := 609) rfl rfl rfl ?_
  refine st_ipush (pc' := 610) (v := 2) rfl rfl (by decide) ?_
  refine st_iadd (pc' := 611) rfl rfl ?_
  refine st_sload rfl hb1 (pc' := 612) rfl ?_
  exact st_call (pc' := 615) (as := [.ref r2, .int ((h_sc h).2 (x3 + (1 : Int32)).toNatClampNeg), .int ((h_sc h).2 (x3 + (2 : Int32)).toNatClampNeg)]) (rest := [.int s0]) rfl rfl (Nat.le_of_ble_eq_true rfl) rfl rfl (Nat.le_of_ble_eq_true rfl) (kd := 1) (o := 12) rfl rfl (beq_iff_eq.mpr hs2) k
set_option maxRecDepth 20000 in
theorem B_Lw_law_615 {d : Nat} {h : PH} {Q : PQ} {r1 : Nat} {r2 : Nat} {x3 : Int32} {s0 : Int32} {s1 : Int32}  (kt : s0 = s1 → wpx d P_Lw_law 1096 [.retAddr 1, .ref r1, .ref r2, .int x3] [] h Q) (kf : ¬ (s0 = s1) → wpx d P_Lw_law 618 [.retAddr 1, .ref r1, .ref r2, .int x3] [] h Q) : wpx d P_Lw_law 615 [.retAddr 1, .ref r1, .ref r2, .int x3] [.int s1, .int s0] h Q := by
  exact st_icmp_eq (pc' := 618) rfl rfl kt kf
set_option maxRecDepth 20000 in
theorem B_Lw_law_618 {d : Nat} {h : PH} {Q : PQ} {r1 : Nat} {r2 : Nat} {x3 : Int32}  (k : Q (some (.int 0)) h) : wpx d P_Lw_law 618 [.retAddr 1, .ref r1, .ref r2, .int x3] [] h Q := by
  refine st_ipush (pc' := 619) (v := 0) rfl rfl (by decide) ?_
  exact st_ireturn (ty := .boolean) rfl rfl (by decide) k
set_option maxRecDepth 20000 in
theorem B_Lw_law_620 {d : Nat} {h : PH} {Q : PQ} {r1 : Nat} {r2 : Nat} {x3 : Int32} (hs0 : h_sh h r1 = some (0, 11)) (k : wpm d 136 [.ref r1] h (fun r h' => wpx d P_Lw_law 624 [.retAddr 1, .ref r1, .ref r2, .int x3] (r.toList ++ []) h' Q)) : wpx d P_Lw_law 620 [.retAddr 1, .ref r1, .ref r2, .int x3] [] h Q := by
  refine st_aload (pc' := 621) rfl rfl rfl ?_
  exact st_call (pc' := 624) (as := [.ref r1]) (rest := []) rfl rfl (Nat.le_of_ble_eq_true rfl) rfl rfl (Nat.le_of_ble_eq_true rfl) (kd := 1) (o := 11) rfl rfl (beq_iff_eq.mpr hs0) k
set_option maxRecDepth 20000 in
theorem B_Lw_law_624 {d : Nat} {h : PH} {Q : PQ} {r1 : Nat} {r2 : Nat} {x3 : Int32} {s0 : Int32} (hs0 : h_sh h r2 = some (0, 12)) (k : wpm d 233 [.ref r2] h (fun r h' => wpx d P_Lw_law 628 [.retAddr 1, .ref r1, .ref r2, .int x3] (r.toList ++ [.int s0]) h' Q)) : wpx d P_Lw_law 624 [.retAddr 1, .ref r1, .ref r2, .int x3] [.int s0] h Q := by
  refine st_aload (pc' := 625) rfl rfl rfl ?_
  exact st_call (pc' := 628) (as := [.ref r2]) (rest := [.int s0]) rfl rfl (Nat.le_of_ble_eq_true rfl) rfl rfl (Nat.le_of_ble_eq_true rfl) (kd := 1) (o := 12) rfl rfl (beq_iff_eq.mpr hs0) k
set_option maxRecDepth 20000 in
theorem B_Lw_law_628 {d : Nat} {h : PH} {Q : PQ} {r1 : Nat} {r2 : Nat} {x3 : Int32} {s0 : Int32} {s1 : Int32}  (kt : s0 = s1 → wpx d P_Lw_law 1096 [.retAddr 1, .ref r1, .ref r2, .int x3] [] h Q) (kf : ¬ (s0 = s1) → wpx d P_Lw_law 631 [.retAddr 1, .ref r1, .ref r2, .int x3] [] h Q) : wpx d P_Lw_law 628 [.retAddr 1, .ref r1, .ref r2, .int x3] [.int s1, .int s0] h Q := by
  exact st_icmp_eq (pc' := 631) rfl rfl kt kf
set_option maxRecDepth 20000 in
theorem B_Lw_law_631 {d : Nat} {h : PH} {Q : PQ} {r1 : Nat} {r2 : Nat} {x3 : Int32}  (k : Q (some (.int 0)) h) : wpx d P_Lw_law 631 [.retAddr 1, .ref r1, .ref r2, .int x3] [] h Q := by
  refine st_ipush (pc' := 632) (v := 0) rfl rfl (by decide) ?_
  exact st_ireturn (ty := .boolean) rfl rfl (by decide) k
set_option maxRecDepth 20000 in
theorem B_Lw_law_633 {d : Nat} {h : PH} {Q : PQ} {r1 : Nat} {r2 : Nat} {x3 : Int32} (hb0 : vp_in (x3 + (1 : Int32)) (h_sc h).1) (hs1 : h_sh h r1 = some (0, 11)) (k : wpm d 137 [.ref r1, .int ((h_sc h).2 (x3 + (1 : Int32)).toNatClampNeg)] h (fun r h' => wpx d P_Lw_law 642 [.retAddr 1, .ref r1, .ref r2, .int x3] (r.toList ++ []) h' Q)) : wpx d P_Lw_law 633 [.retAddr 1, .ref r1, .ref r2, .int x3] [] h Q := by
  refine st_aload (pc' := 634) rfl rfl rfl ?_
  refine st_aloadS (pc' := 635) rfl rfl rfl ?_
  refine st_iload (pc' := 636) rfl rfl rfl ?_
  refine st_ipush (pc' := 637) (v := 1) rfl rfl (by decide) ?_
  refine st_iadd (pc' := 638) rfl rfl ?_
  refine st_sload rfl hb0 (pc' := 639) rfl ?_
  exact st_call (pc' := 642) (as := [.ref r1, .int ((h_sc h).2 (x3 + (1 : Int32)).toNatClampNeg)]) (rest := []) rfl rfl (Nat.le_of_ble_eq_true rfl) rfl rfl (Nat.le_of_ble_eq_true rfl) (kd := 1) (o := 11) rfl rfl (beq_iff_eq.mpr hs1) k
set_option maxRecDepth 20000 in
theorem B_Lw_law_642 {d : Nat} {h : PH} {Q : PQ} {r1 : Nat} {r2 : Nat} {x3 : Int32} {s0 : Int32} (hb0 : vp_in (x3 + (1 : Int32)) (h_sc h).1) (hs1 : h_sh h r2 = some (0, 12)) (k : wpm d 235 [.ref r2, .int ((h_sc h).2 (x3 + (1 : Int32)).toNatClampNeg)] h (fun r h' => wpx d P_Lw_law 651 [.retAddr 1, .ref r1, .ref r2, .int x3] (r.toList ++ [.int s0]) h' Q)) : wpx d P_Lw_law 642 [.retAddr 1, .ref r1, .ref r2, .int x3] [.int s0] h Q := by
  refine st_aload (pc' := 643) rfl rfl rfl ?_
  refine st_aloadS (pc' := 644) rfl rfl rfl ?_
  refine st_iload (pc' := 645) rfl rfl rfl ?_
  refine st_ipush (pc' := 646) (v := 1) rfl rfl (by decide) ?_
  refine st_iadd (pc' := 647) rfl rfl ?_
  refine st_sload rfl hb0 (pc' := 648) rfl ?_
  exact st_call (pc' := 651) (as := [.ref r2, .int ((h_sc h).2 (x3 + (1 : Int32)).toNatClampNeg)]) (rest := [.int s0]) rfl rfl (Nat.le_of_ble_eq_true rfl) rfl rfl (Nat.le_of_ble_eq_true rfl) (kd := 1) (o := 12) rfl rfl (beq_iff_eq.mpr hs1) k
set_option maxRecDepth 20000 in
theorem B_Lw_law_651 {d : Nat} {h : PH} {Q : PQ} {r1 : Nat} {r2 : Nat} {x3 : Int32} {s0 : Int32} {s1 : Int32}  (kt : s0 = s1 → wpx d P_Lw_law 1096 [.retAddr 1, .ref r1, .ref r2, .int x3] [] h Q) (kf : ¬ (s0 = s1) → wpx d P_Lw_law 654 [.retAddr 1, .ref r1, .ref r2, .int x3] [] h Q) : wpx d P_Lw_law 651 [.retAddr 1, .ref r1, .ref r2, .int x3] [.int s1, .int s0] h Q := by
  exact st_icmp_eq (pc' := 654) rfl rfl kt kf
set_option maxRecDepth 20000 in
theorem B_Lw_law_654 {d : Nat} {h : PH} {Q : PQ} {r1 : Nat} {r2 : Nat} {x3 : Int32}  (k : Q (some (.int 0)) h) : wpx d P_Lw_law 654 [.retAddr 1, .ref r1, .ref r2, .int x3] [] h Q := by
  refine st_ipush (pc' := 655) (v := 0) rfl rfl (by decide) ?_
  exact st_ireturn (ty := .boolean) rfl rfl (by decide) k
set_option maxRecDepth 20000 in
theorem B_Lw_law_656 {d : Nat} {h : PH} {Q : PQ} {r1 : Nat} {r2 : Nat} {x3 : Int32} (hb0 : vp_in (x3 + (1 : Int32)) (h_sc h).1) (hb1 : vp_in (x3 + (2 : Int32)) (h_sc h).1) (hs2 : h_sh h r1 = some (0, 11)) (k : wpm d 138 [.ref r1, .int ((h_sc h).2 (x3 + (1 : Int32)).toNatClampNeg), .int ((h_sc h).2 (x3 + (2 : Int32)).toNatClampNeg)] h (fun r h' => wpx d P_Lw_law 670 [.retAddr 1, .ref r1, .ref r2, .int x3] (r.toList ++ []) h' Q)) : wpx d P_Lw_law 656 [.retAddr 1, .ref r1, .ref r2, .int x3] [] h Q := by
  refine st_aload (pc' := 657) rfl rfl rfl ?_
  refine st_aloadS (pc' := 658) rfl rfl rfl ?_
  refine st_iload (pc' := 659) rfl rfl rfl ?_
  refine st_ipush (pc' := 660) (v := 1) rfl rfl (by decide) ?_
  refine st_iadd (pc' := 661) rfl rfl ?_
  refine st_sload rfl hb0 (pc' := 662) rfl ?_
  refine st_aloadS (pc' := 663) rfl rfl rfl ?_
  refine st_iload (pc' := 664) rfl rfl rfl ?_
  refine st_ipush (pc' := 665) (v := 2) rfl rfl (by decide) ?_
  refine st_iadd (pc' := 666) rfl rfl ?_
  refine st_sload rfl hb1 (pc' := 667) rfl ?_
  exact st_call (pc' := 670) (as := [.ref r1, .int ((h_sc h).2 (x3 + (1 : Int32)).toNatClampNeg), .int ((h_sc h).2 (x3 + (2 : Int32)).toNatClampNeg)]) (rest := []) rfl rfl (Nat.le_of_ble_eq_true rfl) rfl rfl (Nat.le_of_ble_eq_true rfl) (kd := 1) (o := 11) rfl rfl (beq_iff_eq.mpr hs2) k
set_option maxRecDepth 20000 in
theorem B_Lw_law_670 {d : Nat} {h : PH} {Q : PQ} {r1 : Nat} {r2 : Nat} {x3 : Int32} {s0 : Int32} (hb0 : vp_in (x3 + (1 : Int32)) (h_sc h).1) (hb1 : vp_in (x3 + (2 : Int32)) (h_sc h).1) (hs2 : h_sh h r2 = some (0, 12)) (k : wpm d 236 [.ref r2, .int ((h_sc h).2 (x3 + (1 : Int32)).toNatClampNeg), .int ((h_sc h).2 (x3 + (2 : Int32)).toNatClampNeg)] h (fun r h' => wpx d P_Lw_law 684 [.retAddr 1, .ref r1, .ref r2, .int x3] (r.toList ++ [.int s0]) h' Q)) : wpx d P_Lw_law 670 [.retAddr 1, .ref r1, .ref r2, .int x3] [.int s0] h Q := by
  refine st_aload (pc' := 671) rfl rfl rfl ?_
  refine st_aloadS (pc' := 672) rfl rfl rfl ?_
  refine st_iload (pc' := 673) rfl rfl rfl ?_
  refine st_ipush (pc' := 674) (v := 1) rfl rfl (by decide) ?_
  refine st_iadd (pc' := 675) rfl rfl ?_
  refine st_sload rfl hb0 (pc' := 676) rfl ?_
  refine st_aloadS (pc' := 677) rfl rfl rfl ?_
  refine st_iload (pc' := 678) rfl rfl rfl ?_
  refine st_ipush (pc' := 679) (v := 2) rfl rfl (by decide) ?_
  refine st_iadd (pc' := 680) rfl rfl ?_
  refine st_sload rfl hb1 (pc' := 681) rfl ?_
  exact st_call (pc' := 684) (as := [.ref r2, .int ((h_sc h).2 (x3 + (1 : Int32)).toNatClampNeg), .int ((h_sc h).2 (x3 + (2 : Int32)).toNatClampNeg)]) (rest := [.int s0]) rfl rfl (Nat.le_of_ble_eq_true rfl) rfl rfl (Nat.le_of_ble_eq_true rfl) (kd := 1) (o := 12) rfl rfl (beq_iff_eq.mpr hs2) k
set_option maxRecDepth 20000 in
theorem B_Lw_law_684 {d : Nat} {h : PH} {Q : PQ} {r1 : Nat} {r2 : Nat} {x3 : Int32} {s0 : Int32} {s1 : Int32}  (kt : s0 = s1 → wpx d P_Lw_law 1096 [.retAddr 1, .ref r1, .ref r2, .int x3] [] h Q) (kf : ¬ (s0 = s1) → wpx d P_Lw_law 687 [.retAddr 1, .ref r1, .ref r2, .int x3] [] h Q) : wpx d P_Lw_law 684 [.retAddr 1, .ref r1, .ref r2, .int x3] [.int s1, .int s0] h Q := by
  exact st_icmp_eq (pc' := 687) rfl rfl kt kf
set_option maxRecDepth 20000 in
theorem B_Lw_law_687 {d : Nat} {h : PH} {Q : PQ} {r1 : Nat} {r2 : Nat} {x3 : Int32}  (k : Q (some (.int 0)) h) : wpx d P_Lw_law 687 [.retAddr 1, .ref r1, .ref r2, .int x3] [] h Q := by
  refine st_ipush (pc' := 688) (v := 0) rfl rfl (by decide) ?_
  exact st_ireturn (ty := .boolean) rfl rfl (by decide) k
set_option maxRecDepth 20000 in
theorem B_Lw_law_689 {d : Nat} {h : PH} {Q : PQ} {r1 : Nat} {r2 : Nat} {x3 : Int32} (hb0 : vp_in (x3 + (1 : Int32)) (h_sc h).1) (hs1 : h_sh h r1 = some (0, 11)) (k : wpm d 139 [.ref r1, .int ((h_sc h).2 (x3 + (1 : Int32)).toNatClampNeg)] h (fun r h' => wpx d P_Lw_law 698 [.retAddr 1, .ref r1, .ref r2, .int x3] (r.toList ++ []) h' Q)) : wpx d P_Lw_law 689 [.retAddr 1, .ref r1, .ref r2, .int x3] [] h Q := by
  refine st_aload (pc' := 690) rfl rfl rfl ?_
  refine st_aloadS (pc' := 691) rfl rfl rfl ?_
  refine st_iload (pc' := 692) rfl rfl rfl ?_
  refine st_ipush (pc' := 693) (v := 1) rfl rfl (by decide) ?_
  refine st_iadd (pc' := 694) rfl rfl ?_
  refine st_sload rfl hb0 (pc' := 695) rfl ?_
  exact st_call (pc' := 698) (as := [.ref r1, .int ((h_sc h).2 (x3 + (1 : Int32)).toNatClampNeg)]) (rest := []) rfl rfl (Nat.le_of_ble_eq_true rfl) rfl rfl (Nat.le_of_ble_eq_true rfl) (kd := 1) (o := 11) rfl rfl (beq_iff_eq.mpr hs1) k
set_option maxRecDepth 20000 in
theorem B_Lw_law_698 {d : Nat} {h : PH} {Q : PQ} {r1 : Nat} {r2 : Nat} {x3 : Int32} {s0 : Int32} (hb0 : vp_in (x3 + (1 : Int32)) (h_sc h).1) (hs1 : h_sh h r2 = some (0, 12)) (k : wpm d 241 [.ref r2, .int ((h_sc h).2 (x3 + (1 : Int32)).toNatClampNeg)] h (fun r h' => wpx d P_Lw_law 707 [.retAddr 1, .ref r1, .ref r2, .int x3] (r.toList ++ [.int s0]) h' Q)) : wpx d P_Lw_law 698 [.retAddr 1, .ref r1, .ref r2, .int x3] [.int s0] h Q := by
  refine st_aload (pc' := 699) rfl rfl rfl ?_
  refine st_aloadS (pc' := 700) rfl rfl rfl ?_
  refine st_iload (pc' := 701) rfl rfl rfl ?_
  refine st_ipush (pc' := 702) (v := 1) rfl rfl (by decide) ?_
  refine st_iadd (pc' := 703) rfl rfl ?_
  refine st_sload rfl hb0 (pc' := 704) rfl ?_
  exact st_call (pc' := 707) (as := [.ref r2, .int ((h_sc h).2 (x3 + (1 : Int32)).toNatClampNeg)]) (rest := [.int s0]) rfl rfl (Nat.le_of_ble_eq_true rfl) rfl rfl (Nat.le_of_ble_eq_true rfl) (kd := 1) (o := 12) rfl rfl (beq_iff_eq.mpr hs1) k
set_option maxRecDepth 20000 in
theorem B_Lw_law_707 {d : Nat} {h : PH} {Q : PQ} {r1 : Nat} {r2 : Nat} {x3 : Int32} {s0 : Int32} {s1 : Int32}  (kt : s0 = s1 → wpx d P_Lw_law 1096 [.retAddr 1, .ref r1, .ref r2, .int x3] [] h Q) (kf : ¬ (s0 = s1) → wpx d P_Lw_law 710 [.retAddr 1, .ref r1, .ref r2, .int x3] [] h Q) : wpx d P_Lw_law 707 [.retAddr 1, .ref r1, .ref r2, .int x3] [.int s1, .int s0] h Q := by
  exact st_icmp_eq (pc' := 710) rfl rfl kt kf
set_option maxRecDepth 20000 in
theorem B_Lw_law_710 {d : Nat} {h : PH} {Q : PQ} {r1 : Nat} {r2 : Nat} {x3 : Int32}  (k : Q (some (.int 0)) h) : wpx d P_Lw_law 710 [.retAddr 1, .ref r1, .ref r2, .int x3] [] h Q := by
  refine st_ipush (pc' := 711) (v := 0) rfl rfl (by decide) ?_
  exact st_ireturn (ty := .boolean) rfl rfl (by decide) k
set_option maxRecDepth 20000 in
theorem B_Lw_law_712 {d : Nat} {h : PH} {Q : PQ} {r1 : Nat} {r2 : Nat} {x3 : Int32} (hs0 : h_sh h r1 = some (0, 11)) (k : wpm d 140 [.ref r1] h (fun r h' => wpx d P_Lw_law 716 [.retAddr 1, .ref r1, .ref r2, .int x3] (r.toList ++ []) h' Q)) : wpx d P_Lw_law 712 [.retAddr 1, .ref r1, .ref r2, .int x3] [] h Q := by
  refine st_aload (pc' := 713) rfl rfl rfl ?_
  exact st_call (pc' := 716) (as := [.ref r1]) (rest := []) rfl rfl (Nat.le_of_ble_eq_true rfl) rfl rfl (Nat.le_of_ble_eq_true rfl) (kd := 1) (o := 11) rfl rfl (beq_iff_eq.mpr hs0) k
set_option maxRecDepth 20000 in
theorem B_Lw_law_716 {d : Nat} {h : PH} {Q : PQ} {r1 : Nat} {r2 : Nat} {x3 : Int32} {s0 : Int32} (hs0 : h_sh h r2 = some (0, 12)) (k : wpm d 242 [.ref r2] h (fun r h' => wpx d P_Lw_law 720 [.retAddr 1, .ref r1, .ref r2, .int x3] (r.toList ++ [.int s0]) h' Q)) : wpx d P_Lw_law 716 [.retAddr 1, .ref r1, .ref r2, .int x3] [.int s0] h Q := by
  refine st_aload (pc' := 717) rfl rfl rfl ?_
  exact st_call (pc' := 720) (as := [.ref r2]) (rest := [.int s0]) rfl rfl (Nat.le_of_ble_eq_true rfl) rfl rfl (Nat.le_of_ble_eq_true rfl) (kd := 1) (o := 12) rfl rfl (beq_iff_eq.mpr hs0) k
set_option maxRecDepth 20000 in
theorem B_Lw_law_720 {d : Nat} {h : PH} {Q : PQ} {r1 : Nat} {r2 : Nat} {x3 : Int32} {s0 : Int32} {s1 : Int32}  (kt : s0 = s1 → wpx d P_Lw_law 1096 [.retAddr 1, .ref r1, .ref r2, .int x3] [] h Q) (kf : ¬ (s0 = s1) → wpx d P_Lw_law 723 [.retAddr 1, .ref r1, .ref r2, .int x3] [] h Q) : wpx d P_Lw_law 720 [.retAddr 1, .ref r1, .ref r2, .int x3] [.int s1, .int s0] h Q := by
  exact st_icmp_eq (pc' := 723) rfl rfl kt kf
set_option maxRecDepth 20000 in
theorem B_Lw_law_723 {d : Nat} {h : PH} {Q : PQ} {r1 : Nat} {r2 : Nat} {x3 : Int32}  (k : Q (some (.int 0)) h) : wpx d P_Lw_law 723 [.retAddr 1, .ref r1, .ref r2, .int x3] [] h Q := by
  refine st_ipush (pc' := 724) (v := 0) rfl rfl (by decide) ?_
  exact st_ireturn (ty := .boolean) rfl rfl (by decide) k
set_option maxRecDepth 20000 in
theorem B_Lw_law_725 {d : Nat} {h : PH} {Q : PQ} {r1 : Nat} {r2 : Nat} {x3 : Int32} (hb0 : vp_in (x3 + (1 : Int32)) (h_sc h).1) (hb1 : vp_in (x3 + (2 : Int32)) (h_sc h).1) (hb2 : vp_in (x3 + (3 : Int32)) (h_sc h).1) (hb3 : vp_in (x3 + (4 : Int32)) (h_sc h).1) (hs4 : h_sh h r1 = some (0, 11)) (k : wpm d 141 [.ref r1, .int ((h_sc h).2 (x3 + (1 : Int32)).toNatClampNeg), .int ((h_sc h).2 (x3 + (2 : Int32)).toNatClampNeg), .int ((h_sc h).2 (x3 + (3 : Int32)).toNatClampNeg), .int ((h_sc h).2 (x3 + (4 : Int32)).toNatClampNeg)] h (fun r h' => wpx d P_Lw_law 749 [.retAddr 1, .ref r1, .ref r2, .int x3] (r.toList ++ []) h' Q)) : wpx d P_Lw_law 725 [.retAddr 1, .ref r1, .ref r2, .int x3] [] h Q := by
  refine st_aload (pc' := 726) rfl rfl rfl ?_
  refine st_aloadS (pc' := 727) rfl rfl rfl ?_
  refine st_iload (pc' := 728) rfl rfl rfl ?_
  refine st_ipush (pc' := 729) (v := 1) rfl rfl (by decide) ?_
  refine st_iadd (pc' := 730) rfl rfl ?_
  refine st_sload rfl hb0 (pc' := 731) rfl ?_
  refine st_aloadS (pc' := 732) rfl rfl rfl ?_
  refine st_iload (pc' := 733) rfl rfl rfl ?_
  refine st_ipush (pc' := 734) (v := 2) rfl rfl (by decide) ?_
  refine st_iadd (pc' := 735) rfl rfl ?_
  refine st_sload rfl hb1 (pc' := 736) rfl ?_
  refine st_aloadS (pc' := 737) rfl rfl rfl ?_
  refine st_iload (pc' := 738) rfl rfl rfl ?_
  refine st_ipush (pc' := 739) (v := 3) rfl rfl (by decide) ?_
  refine st_iadd (pc' := 740) rfl rfl ?_
  refine st_sload rfl hb2 (pc' := 741) rfl ?_
  refine st_aloadS (pc' := 742) rfl rfl rfl ?_
  refine st_iload (pc' := 743) rfl rfl rfl ?_
  refine st_ipush (pc' := 744) (v := 4) rfl rfl (by decide) ?_
  refine st_iadd (pc' := 745) rfl rfl ?_
  refine st_sload rfl hb3 (pc' := 746) rfl ?_
  exact st_call (pc' := 749) (as := [.ref r1, .int ((h_sc h).2 (x3 + (1 : Int32)).toNatClampNeg), .int ((h_sc h).2 (x3 + (2 : Int32)).toNatClampNeg), .int ((h_sc h).2 (x3 + (3 : Int32)).toNatClampNeg), .int ((h_sc h).2 (x3 + (4 : Int32)).toNatClampNeg)]) (rest := []) rfl rfl (Nat.le_of_ble_eq_true rfl) rfl rfl (Nat.le_of_ble_eq_true rfl) (kd := 1) (o := 11) rfl rfl (beq_iff_eq.mpr hs4) k
set_option maxRecDepth 20000 in
theorem B_Lw_law_749 {d : Nat} {h : PH} {Q : PQ} {r1 : Nat} {r2 : Nat} {x3 : Int32} {s0 : Int32} (hb0 : vp_in (x3 + (1 : Int32)) (h_sc h).1) (hb1 : vp_in (x3 + (2 : Int32)) (h_sc h).1) (hb2 : vp_in (x3 + (3 : Int32)) (h_sc h).1) (hb3 : vp_in (x3 + (4 : Int32)) (h_sc h).1) (hs4 : h_sh h r2 = some (0, 12)) (k : wpm d 245 [.ref r2, .int ((h_sc h).2 (x3 + (1 : Int32)).toNatClampNeg), .int ((h_sc h).2 (x3 + (2 : Int32)).toNatClampNeg), .int ((h_sc h).2 (x3 + (3 : Int32)).toNatClampNeg), .int ((h_sc h).2 (x3 + (4 : Int32)).toNatClampNeg)] h (fun r h' => wpx d P_Lw_law 773 [.retAddr 1, .ref r1, .ref r2, .int x3] (r.toList ++ [.int s0]) h' Q)) : wpx d P_Lw_law 749 [.retAddr 1, .ref r1, .ref r2, .int x3] [.int s0] h Q := by
  refine st_aload (pc' := 750) rfl rfl rfl ?_
  refine st_aloadS (pc' := 751) rfl rfl rfl ?_
  refine st_iload (pc' := 752) rfl rfl rfl ?_
  refine st_ipush (pc' := 753) (v := 1) rfl rfl (by decide) ?_
  refine st_iadd (pc' := 754) rfl rfl ?_
  refine st_sload rfl hb0 (pc' := 755) rfl ?_
  refine st_aloadS (pc' := 756) rfl rfl rfl ?_
  refine st_iload (pc' := 757) rfl rfl rfl ?_
  refine st_ipush (pc' := 758) (v := 2) rfl rfl (by decide) ?_
  refine st_iadd (pc' := 759) rfl rfl ?_
  refine st_sload rfl hb1 (pc' := 760) rfl ?_
  refine st_aloadS (pc' := 761) rfl rfl rfl ?_
  refine st_iload (pc' := 762) rfl rfl rfl ?_
  refine st_ipush (pc' := 763) (v := 3) rfl rfl (by decide) ?_
  refine st_iadd (pc' := 764) rfl rfl ?_
  refine st_sload rfl hb2 (pc' := 765) rfl ?_
  refine st_aloadS (pc' := 766) rfl rfl rfl ?_
  refine st_iload (pc' := 767) rfl rfl rfl ?_
  refine st_ipush (pc' := 768) (v := 4) rfl rfl (by decide) ?_
  refine st_iadd (pc' := 769) rfl rfl ?_
  refine st_sload rfl hb3 (pc' := 770) rfl ?_
  exact st_call (pc' := 773) (as := [.ref r2, .int ((h_sc h).2 (x3 + (1 : Int32)).toNatClampNeg), .int ((h_sc h).2 (x3 + (2 : Int32)).toNatClampNeg), .int ((h_sc h).2 (x3 + (3 : Int32)).toNatClampNeg), .int ((h_sc h).2 (x3 + (4 : Int32)).toNatClampNeg)]) (rest := [.int s0]) rfl rfl (Nat.le_of_ble_eq_true rfl) rfl rfl (Nat.le_of_ble_eq_true rfl) (kd := 1) (o := 12) rfl rfl (beq_iff_eq.mpr hs4) k
set_option maxRecDepth 20000 in
theorem B_Lw_law_773 {d : Nat} {h : PH} {Q : PQ} {r1 : Nat} {r2 : Nat} {x3 : Int32} {s0 : Int32} {s1 : Int32}  (kt : s0 = s1 → wpx d P_Lw_law 1096 [.retAddr 1, .ref r1, .ref r2, .int x3] [] h Q) (kf : ¬ (s0 = s1) → wpx d P_Lw_law 776 [.retAddr 1, .ref r1, .ref r2, .int x3] [] h Q) : wpx d P_Lw_law 773 [.retAddr 1, .ref r1, .ref r2, .int x3] [.int s1, .int s0] h Q := by
  exact st_icmp_eq (pc' := 776) rfl rfl kt kf
set_option maxRecDepth 20000 in
theorem B_Lw_law_776 {d : Nat} {h : PH} {Q : PQ} {r1 : Nat} {r2 : Nat} {x3 : Int32}  (k : Q (some (.int 0)) h) : wpx d P_Lw_law 776 [.retAddr 1, .ref r1, .ref r2, .int x3] [] h Q := by
  refine st_ipush (pc' := 777) (v := 0) rfl rfl (by decide) ?_
  exact st_ireturn (ty := .boolean) rfl rfl (by decide) k
set_option maxRecDepth 20000 in
theorem B_Lw_law_778 {d : Nat} {h : PH} {Q : PQ} {r1 : Nat} {r2 : Nat} {x3 : Int32} (hb0 : vp_in (x3 + (1 : Int32)) (h_sc h).1) (hb1 : vp_in (x3 + (2 : Int32)) (h_sc h).1) (hs2 : h_sh h r1 = some (0, 11)) (k : wpm d 142 [.ref r1, .int ((h_sc h).2 (x3 + (1 : Int32)).toNatClampNeg), .int ((h_sc h).2 (x3 + (2 : Int32)).toNatClampNeg)] h (fun r h' => wpx d P_Lw_law 792 [.retAddr 1, .ref r1, .ref r2, .int x3] (r.toList ++ []) h' Q)) : wpx d P_Lw_law 778 [.retAddr 1, .ref r1, .ref r2, .int x3] [] h Q := by
  refine st_aload (pc' := 779) rfl rfl rfl ?_
  refine st_aloadS (pc' := 780) rfl rfl rfl ?_
  refine st_iload (pc' := 781) rfl rfl rfl ?_
  refine st_ipush (pc' := 782) (v := 1) rfl rfl (by decide) ?_
  refine st_iadd (pc' := 783) rfl rfl ?_
  refine st_sload rfl hb0 (pc' := 784) rfl ?_
  refine st_aloadS (pc' := 785) rfl rfl rfl ?_
  refine st_iload (pc' := 786) rfl rfl rfl ?_
  refine st_ipush (pc' := 787) (v := 2) rfl rfl (by decide) ?_
  refine st_iadd (pc' := 788) rfl rfl ?_
  refine st_sload rfl hb1 (pc' := 789) rfl ?_
  exact st_call (pc' := 792) (as := [.ref r1, .int ((h_sc h).2 (x3 + (1 : Int32)).toNatClampNeg), .int ((h_sc h).2 (x3 + (2 : Int32)).toNatClampNeg)]) (rest := []) rfl rfl (Nat.le_of_ble_eq_true rfl) rfl rfl (Nat.le_of_ble_eq_true rfl) (kd := 1) (o := 11) rfl rfl (beq_iff_eq.mpr hs2) k
set_option maxRecDepth 20000 in
theorem B_Lw_law_792 {d : Nat} {h : PH} {Q : PQ} {r1 : Nat} {r2 : Nat} {x3 : Int32} {s0 : Int32} (hb0 : vp_in (x3 + (1 : Int32)) (h_sc h).1) (hb1 : vp_in (x3 + (2 : Int32)) (h_sc h).1) (hs2 : h_sh h r2 = some (0, 12)) (k : wpm d 246 [.ref r2, .int ((h_sc h).2 (x3 + (1 : Int32)).toNatClampNeg), .int ((h_sc h).2 (x3 + (2 : Int32)).toNatClampNeg)] h (fun r h' => wpx d P_Lw_law 806 [.retAddr 1, .ref r1, .ref r2, .int x3] (r.toList ++ [.int s0]) h' Q)) : wpx d P_Lw_law 792 [.retAddr 1, .ref r1, .ref r2, .int x3] [.int s0] h Q := by
  refine st_aload (pc' := 793) rfl rfl rfl ?_
  refine st_aloadS (pc' := 794) rfl rfl rfl ?_
  refine st_iload (pc' := 795) rfl rfl rfl ?_
  refine st_ipush (pc' := 796) (v := 1) rfl rfl (by decide) ?_
  refine st_iadd (pc' := 797) rfl rfl ?_
  refine st_sload rfl hb0 (pc' := 798) rfl ?_
  refine st_aloadS (pc' := 799) rfl rfl rfl ?_
  refine st_iload (pc' := 800) rfl rfl rfl ?_
  refine st_ipush (pc' := 801) (v := 2) rfl rfl (by decide) ?_
  refine st_iadd (pc' := 802) rfl rfl ?_
  refine st_sload rfl hb1 (pc' := 803) rfl ?_
  exact st_call (pc' := 806) (as := [.ref r2, .int ((h_sc h).2 (x3 + (1 : Int32)).toNatClampNeg), .int ((h_sc h).2 (x3 + (2 : Int32)).toNatClampNeg)]) (rest := [.int s0]) rfl rfl (Nat.le_of_ble_eq_true rfl) rfl rfl (Nat.le_of_ble_eq_true rfl) (kd := 1) (o := 12) rfl rfl (beq_iff_eq.mpr hs2) k
set_option maxRecDepth 20000 in
theorem B_Lw_law_806 {d : Nat} {h : PH} {Q : PQ} {r1 : Nat} {r2 : Nat} {x3 : Int32} {s0 : Int32} {s1 : Int32}  (kt : s0 = s1 → wpx d P_Lw_law 1096 [.retAddr 1, .ref r1, .ref r2, .int x3] [] h Q) (kf : ¬ (s0 = s1) → wpx d P_Lw_law 809 [.retAddr 1, .ref r1, .ref r2, .int x3] [] h Q) : wpx d P_Lw_law 806 [.retAddr 1, .ref r1, .ref r2, .int x3] [.int s1, .int s0] h Q := by
  exact st_icmp_eq (pc' := 809) rfl rfl kt kf
set_option maxRecDepth 20000 in
theorem B_Lw_law_809 {d : Nat} {h : PH} {Q : PQ} {r1 : Nat} {r2 : Nat} {x3 : Int32}  (k : Q (some (.int 0)) h) : wpx d P_Lw_law 809 [.retAddr 1, .ref r1, .ref r2, .int x3] [] h Q := by
  refine st_ipush (pc' := 810) (v := 0) rfl rfl (by decide) ?_
  exact st_ireturn (ty := .boolean) rfl rfl (by decide) k
set_option maxRecDepth 20000 in
theorem B_Lw_law_811 {d : Nat} {h : PH} {Q : PQ} {r1 : Nat} {r2 : Nat} {x3 : Int32} (hb0 : vp_in (x3 + (1 : Int32)) (h_sc h).1) (hb1 : vp_in (x3 + (2 : Int32)) (h_sc h).1) (hs2 : h_sh h r1 = some (0, 11)) (k : wpm d 143 [.ref r1, .int ((h_sc h).2 (x3 + (1 : Int32)).toNatClampNeg), .int ((h_sc h).2 (x3 + (2 : Int32)).toNatClampNeg)] h (fun r h' => wpx d P_Lw_law 825 [.retAddr 1, .ref r1, .ref r2, .int x3] (r.toList ++ []) h' Q)) : wpx d P_Lw_law 811 [.retAddr 1, .ref r1, .ref r2, .int x3] [] h Q := by
  refine st_aload (pc' := 812) rfl rfl rfl ?_
  refine st_aloadS (pc' := 813) rfl rfl rfl ?_
  refine st_iload (pc' := 814) rfl rfl rfl ?_
  refine st_ipush (pc' := 815) (v := 1) rfl rfl (by decide) ?_
  refine st_iadd (pc' := 816) rfl rfl ?_
  refine st_sload rfl hb0 (pc' := 817) rfl ?_
  refine st_aloadS (pc' := 818) rfl rfl rfl ?_
  refine st_iload (pc' := 819) rfl rfl rfl ?_
  refine st_ipush (pc' := 820) (v := 2) rfl rfl (by decide) ?_
  refine st_iadd (pc' := 821) rfl rfl ?_
  refine st_sload rfl hb1 (pc' := 822) rfl ?_
  exact st_call (pc' := 825) (as := [.ref r1, .int ((h_sc h).2 (x3 + (1 : Int32)).toNatClampNeg), .int ((h_sc h).2 (x3 + (2 : Int32)).toNatClampNeg)]) (rest := []) rfl rfl (Nat.le_of_ble_eq_true rfl) rfl rfl (Nat.le_of_ble_eq_true rfl) (kd := 1) (o := 11) rfl rfl (beq_iff_eq.mpr hs2) k
set_option maxRecDepth 20000 in
theorem B_Lw_law_825 {d : Nat} {h : PH} {Q : PQ} {r1 : Nat} {r2 : Nat} {x3 : Int32} {t0 : Int64} (hb0 : vp_in (x3 + (1 : Int32)) (h_sc h).1) (hb1 : vp_in (x3 + (2 : Int32)) (h_sc h).1) (hs2 : h_sh h r2 = some (0, 12)) (k : wpm d 257 [.ref r2, .int ((h_sc h).2 (x3 + (1 : Int32)).toNatClampNeg), .int ((h_sc h).2 (x3 + (2 : Int32)).toNatClampNeg)] h (fun r h' => wpx d P_Lw_law 839 [.retAddr 1, .ref r1, .ref r2, .int x3] (r.toList ++ [.long t0]) h' Q)) : wpx d P_Lw_law 825 [.retAddr 1, .ref r1, .ref r2, .int x3] [.long t0] h Q := by
  refine st_aload (pc' := 826) rfl rfl rfl ?_
  refine st_aloadS (pc' := 827) rfl rfl rfl ?_
  refine st_iload (pc' := 828) rfl rfl rfl ?_
  refine st_ipush (pc' := 829) (v := 1) rfl rfl (by decide) ?_
  refine st_iadd (pc' := 830) rfl rfl ?_
  refine st_sload rfl hb0 (pc' := 831) rfl ?_
  refine st_aloadS (pc' := 832) rfl rfl rfl ?_
  refine st_iload (pc' := 833) rfl rfl rfl ?_
  refine st_ipush (pc' := 834) (v := 2) rfl rfl (by decide) ?_
  refine st_iadd (pc' := 835) rfl rfl ?_
  refine st_sload rfl hb1 (pc' := 836) rfl ?_
  exact st_call (pc' := 839) (as := [.ref r2, .int ((h_sc h).2 (x3 + (1 : Int32)).toNatClampNeg), .int ((h_sc h).2 (x3 + (2 : Int32)).toNatClampNeg)]) (rest := [.long t0]) rfl rfl (Nat.le_of_ble_eq_true rfl) rfl rfl (Nat.le_of_ble_eq_true rfl) (kd := 1) (o := 12) rfl rfl (beq_iff_eq.mpr hs2) k
set_option maxRecDepth 20000 in
theorem B_Lw_law_839 {d : Nat} {h : PH} {Q : PQ} {r1 : Nat} {r2 : Nat} {x3 : Int32} {t0 : Int64} {t1 : Int64}  (kt : (lg_cmp t0 t1) = 0 → wpx d P_Lw_law 1096 [.retAddr 1, .ref r1, .ref r2, .int x3] [] h Q) (kf : ¬ ((lg_cmp t0 t1) = 0) → wpx d P_Lw_law 843 [.retAddr 1, .ref r1, .ref r2, .int x3] [] h Q) : wpx d P_Lw_law 839 [.retAddr 1, .ref r1, .ref r2, .int x3] [.long t1, .long t0] h Q := by
  refine st_lcmp (pc' := 840) rfl rfl ?_
  exact st_if_eq (pc' := 843) rfl rfl kt kf
set_option maxRecDepth 20000 in
theorem B_Lw_law_843 {d : Nat} {h : PH} {Q : PQ} {r1 : Nat} {r2 : Nat} {x3 : Int32}  (k : Q (some (.int 0)) h) : wpx d P_Lw_law 843 [.retAddr 1, .ref r1, .ref r2, .int x3] [] h Q := by
  refine st_ipush (pc' := 844) (v := 0) rfl rfl (by decide) ?_
  exact st_ireturn (ty := .boolean) rfl rfl (by decide) k
set_option maxRecDepth 20000 in
theorem B_Lw_law_845 {d : Nat} {h : PH} {Q : PQ} {r1 : Nat} {r2 : Nat} {x3 : Int32} (hb0 : vp_in (x3 + (1 : Int32)) (h_sc h).1) (hb1 : vp_in (x3 + (2 : Int32)) (h_sc h).1) (hb2 : vp_in (x3 + (3 : Int32)) (h_sc h).1) (hs3 : h_sh h r1 = some (0, 11)) (k : wpm d 144 [.ref r1, .int ((h_sc h).2 (x3 + (1 : Int32)).toNatClampNeg), .long (((((h_sc h).2 (x3 + (2 : Int32)).toNatClampNeg).toInt64) <<< ((32 : Int32).toInt64 &&& 63)) ||| ((((h_sc h).2 (x3 + (3 : Int32)).toNatClampNeg).toInt64) &&& (4294967295 : Int64)))] h (fun r h' => wpx d P_Lw_law 874 [.retAddr 1, .ref r1, .ref r2, .int x3] (r.toList ++ []) h' Q)) : wpx d P_Lw_law 845 [.retAddr 1, .ref r1, .ref r2, .int x3] [] h Q := by
  refine st_aload (pc' := 846) rfl rfl rfl ?_
  refine st_aloadS (pc' := 847) rfl rfl rfl ?_
  refine st_iload (pc' := 848) rfl rfl rfl ?_
  refine st_ipush (pc' := 849) (v := 1) rfl rfl (by decide) ?_
  refine st_iadd (pc' := 850) rfl rfl ?_
  refine st_sload rfl hb0 (pc' := 851) rfl ?_
  refine st_aloadS (pc' := 852) rfl rfl rfl ?_
  refine st_iload (pc' := 853) rfl rfl rfl ?_
  refine st_ipush (pc' := 854) (v := 2) rfl rfl (by decide) ?_
  refine st_iadd (pc' := 855) rfl rfl ?_
  refine st_sload rfl hb1 (pc' := 856) rfl ?_
  refine st_i2l (pc' := 857) rfl rfl ?_
  refine st_ipush (pc' := 859) (v := 32) rfl rfl (by decide) ?_
  refine st_lshl (pc' := 860) rfl rfl ?_
  refine st_aloadS (pc' := 861) rfl rfl rfl ?_
  refine st_iload (pc' := 862) rfl rfl rfl ?_
  refine st_ipush (pc' := 863) (v := 3) rfl rfl (by decide) ?_
  refine st_iadd (pc' := 864) rfl rfl ?_
  refine st_sload rfl hb2 (pc' := 865) rfl ?_
  refine st_i2l (pc' := 866) rfl rfl ?_
  refine st_ldc2 (pc' := 869) (v := 4294967295) rfl rfl (by decide) ?_
  refine st_land (pc' := 870) rfl rfl ?_
  refine st_lor (pc' := 871) rfl rfl ?_
  exact st_call (pc' := 874) (as := [.ref r1, .int ((h_sc h).2 (x3 + (1 : Int32)).toNatClampNeg), .long (((((h_sc h).2 (x3 + (2 : Int32)).toNatClampNeg).toInt64) <<< ((32 : Int32).toInt64 &&& 63)) ||| ((((h_sc h).2 (x3 + (3 : Int32)).toNatClampNeg).toInt64) &&& (4294967295 : Int64)))]) (rest := []) rfl rfl (Nat.le_of_ble_eq_true rfl) rfl rfl (Nat.le_of_ble_eq_true rfl) (kd := 1) (o := 11) rfl rfl (beq_iff_eq.mpr hs3) k
set_option maxRecDepth 20000 in
theorem B_Lw_law_874 {d : Nat} {h : PH} {Q : PQ} {r1 : Nat} {r2 : Nat} {x3 : Int32} {s0 : Int32} (hb0 : vp_in (x3 + (1 : Int32)) (h_sc h).1) (hb1 : vp_in (x3 + (2 : Int32)) (h_sc h).1) (hb2 : vp_in (x3 + (3 : Int32)) (h_sc h).1) (hs3 : h_sh h r2 = some (0, 12)) (k : wpm d 260 [.ref r2, .int ((h_sc h).2 (x3 + (1 : Int32)).toNatClampNeg), .long (((((h_sc h).2 (x3 + (2 : Int32)).toNatClampNeg).toInt64) <<< ((32 : Int32).toInt64 &&& 63)) ||| ((((h_sc h).2 (x3 + (3 : Int32)).toNatClampNeg).toInt64) &&& (4294967295 : Int64)))] h (fun r h' => wpx d P_Lw_law 903 [.retAddr 1, .ref r1, .ref r2, .int x3] (r.toList ++ [.int s0]) h' Q)) : wpx d P_Lw_law 874 [.retAddr 1, .ref r1, .ref r2, .int x3] [.int s0] h Q := by
  refine st_aload (pc' := 875) rfl rfl rfl ?_
  refine st_aloadS (pc' := 876) rfl rfl rfl ?_
  refine st_iload (pc' := 877) rfl rfl rfl ?_
  refine st_ipush (pc' := 878) (v := 1) rfl rfl (by decide) ?_
  refine st_iadd (pc' := 879) rfl rfl ?_
  refine st_sload rfl hb0 (pc' := 880) rfl ?_
  refine st_aloadS (pc' := 881) rfl rfl rfl ?_
  refine st_iload (pc' := 882) rfl rfl rfl ?_
  refine st_ipush (pc' := 883) (v := 2) rfl rfl (by decide) ?_
  refine st_iadd (pc' := 884) rfl rfl ?_
  refine st_sload rfl hb1 (pc' := 885) rfl ?_
  refine st_i2l (pc' := 886) rfl rfl ?_
  refine st_ipush (pc' := 888) (v := 32) rfl rfl (by decide) ?_
  refine st_lshl (pc' := 889) rfl rfl ?_
  refine st_aloadS (pc' := 890) rfl rfl rfl ?_
  refine st_iload (pc' := 891) rfl rfl rfl ?_
  refine st_ipush (pc' := 892) (v := 3) rfl rfl (by decide) ?_
  refine st_iadd (pc' := 893) rfl rfl ?_
  refine st_sload rfl hb2 (pc' := 894) rfl ?_
  refine st_i2l (pc' := 895) rfl rfl ?_
  refine st_ldc2 (pc' := 898) (v := 4294967295) rfl rfl (by decide) ?_
  refine st_land (pc' := 899) rfl rfl ?_
  refine st_lor (pc' := 900) rfl rfl ?_
  exact st_call (pc' := 903) (as := [.ref r2, .int ((h_sc h).2 (x3 + (1 : Int32)).toNatClampNeg), .long (((((h_sc h).2 (x3 + (2 : Int32)).toNatClampNeg).toInt64) <<< ((32 : Int32).toInt64 &&& 63)) ||| ((((h_sc h).2 (x3 + (3 : Int32)).toNatClampNeg).toInt64) &&& (4294967295 : Int64)))]) (rest := [.int s0]) rfl rfl (Nat.le_of_ble_eq_true rfl) rfl rfl (Nat.le_of_ble_eq_true rfl) (kd := 1) (o := 12) rfl rfl (beq_iff_eq.mpr hs3) k
set_option maxRecDepth 20000 in
theorem B_Lw_law_903 {d : Nat} {h : PH} {Q : PQ} {r1 : Nat} {r2 : Nat} {x3 : Int32} {s0 : Int32} {s1 : Int32}  (kt : s0 = s1 → wpx d P_Lw_law 1096 [.retAddr 1, .ref r1, .ref r2, .int x3] [] h Q) (kf : ¬ (s0 = s1) → wpx d P_Lw_law 906 [.retAddr 1, .ref r1, .ref r2, .int x3] [] h Q) : wpx d P_Lw_law 903 [.retAddr 1, .ref r1, .ref r2, .int x3] [.int s1, .int s0] h Q := by
  exact st_icmp_eq (pc' := 906) rfl rfl kt kf
set_option maxRecDepth 20000 in
theorem B_Lw_law_906 {d : Nat} {h : PH} {Q : PQ} {r1 : Nat} {r2 : Nat} {x3 : Int32}  (k : Q (some (.int 0)) h) : wpx d P_Lw_law 906 [.retAddr 1, .ref r1, .ref r2, .int x3] [] h Q := by
  refine st_ipush (pc' := 907) (v := 0) rfl rfl (by decide) ?_
  exact st_ireturn (ty := .boolean) rfl rfl (by decide) k
set_option maxRecDepth 20000 in
theorem B_Lw_law_908 {d : Nat} {h : PH} {Q : PQ} {r1 : Nat} {r2 : Nat} {x3 : Int32} (hs0 : h_sh h r1 = some (0, 11)) (k : wpm d 145 [.ref r1] h (fun r h' => wpx d P_Lw_law 912 [.retAddr 1, .ref r1, .ref r2, .int x3] (r.toList ++ []) h' Q)) : wpx d P_Lw_law 908 [.retAddr 1, .ref r1, .ref r2, .int x3] [] h Q := by
  refine st_aload (pc' := 909) rfl rfl rfl ?_
  exact st_call (pc' := 912) (as := [.ref r1]) (rest := []) rfl rfl (Nat.le_of_ble_eq_true rfl) rfl rfl (Nat.le_of_ble_eq_true rfl) (kd := 1) (o := 11) rfl rfl (beq_iff_eq.mpr hs0) k
set_option maxRecDepth 20000 in
theorem B_Lw_law_912 {d : Nat} {h : PH} {Q : PQ} {r1 : Nat} {r2 : Nat} {x3 : Int32} {t0 : Int64} (hs0 : h_sh h r2 = some (0, 12)) (k : wpm d 261 [.ref r2] h (fun r h' => wpx d P_Lw_law 916 [.retAddr 1, .ref r1, .ref r2, .int x3] (r.toList ++ [.long t0]) h' Q)) : wpx d P_Lw_law 912 [.retAddr 1, .ref r1, .ref r2, .int x3] [.long t0] h Q := by
  refine st_aload (pc' := 913) rfl rfl rfl ?_
  exact st_call (pc' := 916) (as := [.ref r2]) (rest := [.long t0]) rfl rfl (Nat.le_of_ble_eq_true rfl) rfl rfl (Nat.le_of_ble_eq_true rfl) (kd := 1) (o := 12) rfl rfl (beq_iff_eq.mpr hs0) k
set_option maxRecDepth 20000 in
theorem B_Lw_law_916 {d : Nat} {h : PH} {Q : PQ} {r1 : Nat} {r2 : Nat} {x3 : Int32} {t0 : Int64} {t1 : Int64}  (kt : (lg_cmp t0 t1) = 0 → wpx d P_Lw_law 1096 [.retAddr 1, .ref r1, .ref r2, .int x3] [] h Q) (kf : ¬ ((lg_cmp t0 t1) = 0) → wpx d P_Lw_law 920 [.retAddr 1, .ref r1, .ref r2, .int x3] [] h Q) : wpx d P_Lw_law 916 [.retAddr 1, .ref r1, .ref r2, .int x3] [.long t1, .long t0] h Q := by
  refine st_lcmp (pc' := 917) rfl rfl ?_
  exact st_if_eq (pc' := 920) rfl rfl kt kf
set_option maxRecDepth 20000 in
theorem B_Lw_law_920 {d : Nat} {h : PH} {Q : PQ} {r1 : Nat} {r2 : Nat} {x3 : Int32}  (k : Q (some (.int 0)) h) : wpx d P_Lw_law 920 [.retAddr 1, .ref r1, .ref r2, .int x3] [] h Q := by
  refine st_ipush (pc' := 921) (v := 0) rfl rfl (by decide) ?_
  exact st_ireturn (ty := .boolean) rfl rfl (by decide) k
set_option maxRecDepth 20000 in
theorem B_Lw_law_922 {d : Nat} {h : PH} {Q : PQ} {r1 : Nat} {r2 : Nat} {x3 : Int32} (hb0 : vp_in (x3 + (1 : Int32)) (h_sc h).1) (hs1 : h_sh h r1 = some (0, 11)) (k : wpm d 146 [.ref r1, .int ((h_sc h).2 (x3 + (1 : Int32)).toNatClampNeg)] h (fun r h' => wpx d P_Lw_law 931 [.retAddr 1, .ref r1, .ref r2, .int x3] (r.toList ++ []) h' Q)) : wpx d P_Lw_law 922 [.retAddr 1, .ref r1, .ref r2, .int x3] [] h Q := by
  refine st_aload (pc' := 923) rfl rfl rfl ?_
  refine st_aloadS (pc' := 924) rfl rfl rfl ?_
  refine st_iload (pc' := 925) rfl rfl rfl ?_
  refine st_ipush (pc' := 926) (v := 1) rfl rfl (by decide) ?_
  refine st_iadd (pc' := 927) rfl rfl ?_
  refine st_sload rfl hb0 (pc' := 928) rfl ?_
  exact st_call (pc' := 931) (as := [.ref r1, .int ((h_sc h).2 (x3 + (1 : Int32)).toNatClampNeg)]) (rest := []) rfl rfl (Nat.le_of_ble_eq_true rfl) rfl rfl (Nat.le_of_ble_eq_true rfl) (kd := 1) (o := 11) rfl rfl (beq_iff_eq.mpr hs1) k
set_option maxRecDepth 20000 in
theorem B_Lw_law_931 {d : Nat} {h : PH} {Q : PQ} {r1 : Nat} {r2 : Nat} {x3 : Int32} {s0 : Int32} (hb0 : vp_in (x3 + (1 : Int32)) (h_sc h).1) (hs1 : h_sh h r2 = some (0, 12)) (k : wpm d 268 [.ref r2, .int ((h_sc h).2 (x3 + (1 : Int32)).toNatClampNeg)] h (fun r h' => wpx d P_Lw_law 940 [.retAddr 1, .ref r1, .ref r2, .int x3] (r.toList ++ [.int s0]) h' Q)) : wpx d P_Lw_law 931 [.retAddr 1, .ref r1, .ref r2, .int x3] [.int s0] h Q := by
  refine st_aload (pc' := 932) rfl rfl rfl ?_
  refine st_aloadS (pc' := 933) rfl rfl rfl ?_
  refine st_iload (pc' := 934) rfl rfl rfl ?_
  refine st_ipush (pc' := 935) (v := 1) rfl rfl (by decide) ?_
  refine st_iadd (pc' := 936) rfl rfl ?_
  refine st_sload rfl hb0 (pc' := 937) rfl ?_
  exact st_call (pc' := 940) (as := [.ref r2, .int ((h_sc h).2 (x3 + (1 : Int32)).toNatClampNeg)]) (rest := [.int s0]) rfl rfl (Nat.le_of_ble_eq_true rfl) rfl rfl (Nat.le_of_ble_eq_true rfl) (kd := 1) (o := 12) rfl rfl (beq_iff_eq.mpr hs1) k
set_option maxRecDepth 20000 in
theorem B_Lw_law_940 {d : Nat} {h : PH} {Q : PQ} {r1 : Nat} {r2 : Nat} {x3 : Int32} {s0 : Int32} {s1 : Int32}  (kt : s0 = s1 → wpx d P_Lw_law 1096 [.retAddr 1, .ref r1, .ref r2, .int x3] [] h Q) (kf : ¬ (s0 = s1) → wpx d P_Lw_law 943 [.retAddr 1, .ref r1, .ref r2, .int x3] [] h Q) : wpx d P_Lw_law 940 [.retAddr 1, .ref r1, .ref r2, .int x3] [.int s1, .int s0] h Q := by
  exact st_icmp_eq (pc' := 943) rfl rfl kt kf
set_option maxRecDepth 20000 in
theorem B_Lw_law_943 {d : Nat} {h : PH} {Q : PQ} {r1 : Nat} {r2 : Nat} {x3 : Int32}  (k : Q (some (.int 0)) h) : wpx d P_Lw_law 943 [.retAddr 1, .ref r1, .ref r2, .int x3] [] h Q := by
  refine st_ipush (pc' := 944) (v := 0) rfl rfl (by decide) ?_
  exact st_ireturn (ty := .boolean) rfl rfl (by decide) k
set_option maxRecDepth 20000 in
theorem B_Lw_law_945 {d : Nat} {h : PH} {Q : PQ} {r1 : Nat} {r2 : Nat} {x3 : Int32} (hb0 : vp_in (x3 + (1 : Int32)) (h_sc h).1) (hb1 : vp_in (x3 + (2 : Int32)) (h_sc h).1) (hb2 : vp_in (x3 + (3 : Int32)) (h_sc h).1) (hs3 : h_sh h r1 = some (0, 11)) (k : wpm d 147 [.ref r1, .int ((h_sc h).2 (x3 + (1 : Int32)).toNatClampNeg), .int ((h_sc h).2 (x3 + (2 : Int32)).toNatClampNeg), .int ((h_sc h).2 (x3 + (3 : Int32)).toNatClampNeg)] h (fun r h' => wpx d P_Lw_law 964 [.retAddr 1, .ref r1, .ref r2, .int x3] (r.toList ++ []) h' Q)) : wpx d P_Lw_law 945 [.retAddr 1, .ref r1, .ref r2, .int x3] [] h Q := by
  refine st_aload (pc' := 946) rfl rfl rfl ?_
  refine st_aloadS (pc' := 947) rfl rfl rfl ?_
  refine st_iload (pc' := 948) rfl rfl rfl ?_
  refine st_ipush (pc' := 949) (v := 1) rfl rfl (by decide) ?_
  refine st_iadd (pc' := 950) rfl rfl ?_
  refine st_sload rfl hb0 (pc' := 951) rfl ?_
  refine st_aloadS (pc' := 952) rfl rfl rfl ?_
  refine st_iload (pc' := 953) rfl rfl rfl ?_
  refine st_ipush (pc' := 954) (v := 2) rfl rfl (by decide) ?_
  refine st_iadd (pc' := 955) rfl rfl ?_
  refine st_sload rfl hb1 (pc' := 956) rfl ?_
  refine st_aloadS (pc' := 957) rfl rfl rfl ?_
  refine st_iload (pc' := 958) rfl rfl rfl ?_
  refine st_ipush (pc' := 959) (v := 3) rfl rfl (by decide) ?_
  refine st_iadd (pc' := 960) rfl rfl ?_
  refine st_sload rfl hb2 (pc' := 961) rfl ?_
  exact st_call (pc' := 964) (as := [.ref r1, .int ((h_sc h).2 (x3 + (1 : Int32)).toNatClampNeg), .int ((h_sc h).2 (x3 + (2 : Int32)).toNatClampNeg), .int ((h_sc h).2 (x3 + (3 : Int32)).toNatClampNeg)]) (rest := []) rfl rfl (Nat.le_of_ble_eq_true rfl) rfl rfl (Nat.le_of_ble_eq_true rfl) (kd := 1) (o := 11) rfl rfl (beq_iff_eq.mpr hs3) k
set_option maxRecDepth 20000 in
theorem B_Lw_law_964 {d : Nat} {h : PH} {Q : PQ} {r1 : Nat} {r2 : Nat} {x3 : Int32} {s0 : Int32} (hb0 : vp_in (x3 + (1 : Int32)) (h_sc h).1) (hb1 : vp_in (x3 + (2 : Int32)) (h_sc h).1) (hb2 : vp_in (x3 + (3 : Int32)) (h_sc h).1) (hs3 : h_sh h r2 = some (0, 12)) (k : wpm d 269 [.ref r2, .int ((h_sc h).2 (x3 + (1 : Int32)).toNatClampNeg), .int ((h_sc h).2 (x3 + (2 : Int32)).toNatClampNeg), .int ((h_sc h).2 (x3 + (3 : Int32)).toNatClampNeg)] h (fun r h' => wpx d P_Lw_law 983 [.retAddr 1, .ref r1, .ref r2, .int x3] (r.toList ++ [.int s0]) h' Q)) : wpx d P_Lw_law 964 [.retAddr 1, .ref r1, .ref r2, .int x3] [.int s0] h Q := by
  refine st_aload (pc' := 965) rfl rfl rfl ?_
  refine st_aloadS (pc' := 966) rfl rfl rfl ?_
  refine st_iload (pc' := 967) rfl rfl rfl ?_
  refine st_ipush (pc' := 968) (v := 1) rfl rfl (by decide) ?_
  refine st_iadd (pc' := 969) rfl rfl ?_
  refine st_sload rfl hb0 (pc' := 970) rfl ?_
  refine st_aloadS (pc' := 971) rfl rfl rfl ?_
  refine st_iload (pc' := 972) rfl rfl rfl ?_
  refine st_ipush (pc' := 973) (v := 2) rfl rfl (by decide) ?_
  refine st_iadd (pc' := 974) rfl rfl ?_
  refine st_sload rfl hb1 (pc' := 975) rfl ?_
  refine st_aloadS (pc' := 976) rfl rfl rfl ?_
  refine st_iload (pc' := 977) rfl rfl rfl ?_
  refine st_ipush (pc' := 978) (v := 3) rfl rfl (by decide) ?_
  refine st_iadd (pc' := 979) rfl rfl ?_
  refine st_sload rfl hb2 (pc' := 980) rfl ?_
  exact st_call (pc' := 983) (as := [.ref r2, .int ((h_sc h).2 (x3 + (1 : Int32)).toNatClampNeg), .int ((h_sc h).2 (x3 + (2 : Int32)).toNatClampNeg), .int ((h_sc h).2 (x3 + (3 : Int32)).toNatClampNeg)]) (rest := [.int s0]) rfl rfl (Nat.le_of_ble_eq_true rfl) rfl rfl (Nat.le_of_ble_eq_true rfl) (kd := 1) (o := 12) rfl rfl (beq_iff_eq.mpr hs3) k
set_option maxRecDepth 20000 in
theorem B_Lw_law_983 {d : Nat} {h : PH} {Q : PQ} {r1 : Nat} {r2 : Nat} {x3 : Int32} {s0 : Int32} {s1 : Int32}  (kt : s0 = s1 → wpx d P_Lw_law 1096 [.retAddr 1, .ref r1, .ref r2, .int x3] [] h Q) (kf : ¬ (s0 = s1) → wpx d P_Lw_law 986 [.retAddr 1, .ref r1, .ref r2, .int x3] [] h Q) : wpx d P_Lw_law 983 [.retAddr 1, .ref r1, .ref r2, .int x3] [.int s1, .int s0] h Q := by
  exact st_icmp_eq (pc' := 986) rfl rfl kt kf
set_option maxRecDepth 20000 in
theorem B_Lw_law_986 {d : Nat} {h : PH} {Q : PQ} {r1 : Nat} {r2 : Nat} {x3 : Int32}  (k : Q (some (.int 0)) h) : wpx d P_Lw_law 986 [.retAddr 1, .ref r1, .ref r2, .int x3] [] h Q := by
  refine st_ipush (pc' := 987) (v := 0) rfl rfl (by decide) ?_
  exact st_ireturn (ty := .boolean) rfl rfl (by decide) k
set_option maxRecDepth 20000 in
theorem B_Lw_law_988 {d : Nat} {h : PH} {Q : PQ} {r1 : Nat} {r2 : Nat} {x3 : Int32} (hb0 : vp_in (x3 + (1 : Int32)) (h_sc h).1) (hs1 : h_sh h r1 = some (0, 11)) (k : wpm d 148 [.ref r1, .int ((h_sc h).2 (x3 + (1 : Int32)).toNatClampNeg)] h (fun r h' => wpx d P_Lw_law 997 [.retAddr 1, .ref r1, .ref r2, .int x3] (r.toList ++ []) h' Q)) : wpx d P_Lw_law 988 [.retAddr 1, .ref r1, .ref r2, .int x3] [] h Q := by
  refine st_aload (pc' := 989) rfl rfl rfl ?_
  refine st_aloadS (pc' := 990) rfl rfl rfl ?_
  refine st_iload (pc' := 991) rfl rfl rfl ?_
  refine st_ipush (pc' := 992) (v := 1) rfl rfl (by decide) ?_
  refine st_iadd (pc' := 993) rfl rfl ?_
  refine st_sload rfl hb0 (pc' := 994) rfl ?_
  exact st_call (pc' := 997) (as := [.ref r1, .int ((h_sc h).2 (x3 + (1 : Int32)).toNatClampNeg)]) (rest := []) rfl rfl (Nat.le_of_ble_eq_true rfl) rfl rfl (Nat.le_of_ble_eq_true rfl) (kd := 1) (o := 11) rfl rfl (beq_iff_eq.mpr hs1) k
set_option maxRecDepth 20000 in
theorem B_Lw_law_997 {d : Nat} {h : PH} {Q : PQ} {r1 : Nat} {r2 : Nat} {x3 : Int32} {s0 : Int32} (hb0 : vp_in (x3 + (1 : Int32)) (h_sc h).1) (hs1 : h_sh h r2 = some (0, 12)) (k : wpm d 277 [.ref r2, .int ((h_sc h).2 (x3 + (1 : Int32)).toNatClampNeg)] h (fun r h' => wpx d P_Lw_law 1006 [.retAddr 1, .ref r1, .ref r2, .int x3] (r.toList ++ [.int s0]) h' Q)) : wpx d P_Lw_law 997 [.retAddr 1, .ref r1, .ref r2, .int x3] [.int s0] h Q := by
  refine st_aload (pc' := 998) rfl rfl rfl ?_
  refine st_aloadS (pc' := 999) rfl rfl rfl ?_
  refine st_iload (pc' := 1000) rfl rfl rfl ?_
  refine st_ipush (pc' := 1001) (v := 1) rfl rfl (by decide) ?_
  refine st_iadd (pc' := 1002) rfl rfl ?_
  refine st_sload rfl hb0 (pc' := 1003) rfl ?_
  exact st_call (pc' := 1006) (as := [.ref r2, .int ((h_sc h).2 (x3 + (1 : Int32)).toNatClampNeg)]) (rest := [.int s0]) rfl rfl (Nat.le_of_ble_eq_true rfl) rfl rfl (Nat.le_of_ble_eq_true rfl) (kd := 1) (o := 12) rfl rfl (beq_iff_eq.mpr hs1) k
set_option maxRecDepth 20000 in
theorem B_Lw_law_1006 {d : Nat} {h : PH} {Q : PQ} {r1 : Nat} {r2 : Nat} {x3 : Int32} {s0 : Int32} {s1 : Int32}  (kt : s0 = s1 → wpx d P_Lw_law 1096 [.retAddr 1, .ref r1, .ref r2, .int x3] [] h Q) (kf : ¬ (s0 = s1) → wpx d P_Lw_law 1009 [.retAddr 1, .ref r1, .ref r2, .int x3] [] h Q) : wpx d P_Lw_law 1006 [.retAddr 1, .ref r1, .ref r2, .int x3] [.int s1, .int s0] h Q := by
  exact st_icmp_eq (pc' := 1009) rfl rfl kt kf
set_option maxRecDepth 20000 in
theorem B_Lw_law_1009 {d : Nat} {h : PH} {Q : PQ} {r1 : Nat} {r2 : Nat} {x3 : Int32}  (k : Q (some (.int 0)) h) : wpx d P_Lw_law 1009 [.retAddr 1, .ref r1, .ref r2, .int x3] [] h Q := by
  refine st_ipush (pc' := 1010) (v := 0) rfl rfl (by decide) ?_
  exact st_ireturn (ty := .boolean) rfl rfl (by decide) k
set_option maxRecDepth 20000 in
theorem B_Lw_law_1011 {d : Nat} {h : PH} {Q : PQ} {r1 : Nat} {r2 : Nat} {x3 : Int32} (hb0 : vp_in (x3 + (1 : Int32)) (h_sc h).1) (hs1 : h_sh h r1 = some (0, 11)) (k : wpm d 149 [.ref r1, .int ((h_sc h).2 (x3 + (1 : Int32)).toNatClampNeg)] h (fun r h' => wpx d P_Lw_law 1020 [.retAddr 1, .ref r1, .ref r2, .int x3] (r.toList ++ []) h' Q)) : wpx d P_Lw_law 1011 [.retAddr 1, .ref r1, .ref r2, .int x3] [] h Q := by
  refine st_aload (pc' := 1012) rfl rfl rfl ?_
  refine st_aloadS (pc' := 1013) rfl rfl rfl ?_
  refine st_iload (pc' := 1014) rfl rfl rfl ?_
  refine st_ipush (pc' := 1015) (v := 1) rfl rfl (by decide) ?_
  refine st_iadd (pc' := 1016) rfl rfl ?_
  refine st_sload rfl hb0 (pc' := 1017) rfl ?_
  exact st_call (pc' := 1020) (as := [.ref r1, .int ((h_sc h).2 (x3 + (1 : Int32)).toNatClampNeg)]) (rest := []) rfl rfl (Nat.le_of_ble_eq_true rfl) rfl rfl (Nat.le_of_ble_eq_true rfl) (kd := 1) (o := 11) rfl rfl (beq_iff_eq.mpr hs1) k
set_option maxRecDepth 20000 in
theorem B_Lw_law_1020 {d : Nat} {h : PH} {Q : PQ} {r1 : Nat} {r2 : Nat} {x3 : Int32} {s0 : Int32} (hb0 : vp_in (x3 + (1 : Int32)) (h_sc h).1) (hs1 : h_sh h r2 = some (0, 12)) (k : wpm d 279 [.ref r2, .int ((h_sc h).2 (x3 + (1 : Int32)).toNatClampNeg)] h (fun r h' => wpx d P_Lw_law 1029 [.retAddr 1, .ref r1, .ref r2, .int x3] (r.toList ++ [.int s0]) h' Q)) : wpx d P_Lw_law 1020 [.retAddr 1, .ref r1, .ref r2, .int x3] [.int s0] h Q := by
  refine st_aload (pc' := 1021) rfl rfl rfl ?_
  refine st_aloadS (pc' := 1022) rfl rfl rfl ?_
  refine st_iload (pc' := 1023) rfl rfl rfl ?_
  refine st_ipush (pc' := 1024) (v := 1) rfl rfl (by decide) ?_
  refine st_iadd (pc' := 1025) rfl rfl ?_
  refine st_sload rfl hb0 (pc' := 1026) rfl ?_
  exact st_call (pc' := 1029) (as := [.ref r2, .int ((h_sc h).2 (x3 + (1 : Int32)).toNatClampNeg)]) (rest := [.int s0]) rfl rfl (Nat.le_of_ble_eq_true rfl) rfl rfl (Nat.le_of_ble_eq_true rfl) (kd := 1) (o := 12) rfl rfl (beq_iff_eq.mpr hs1) k
set_option maxRecDepth 20000 in
theorem B_Lw_law_1029 {d : Nat} {h : PH} {Q : PQ} {r1 : Nat} {r2 : Nat} {x3 : Int32} {s0 : Int32} {s1 : Int32}  (kt : s0 = s1 → wpx d P_Lw_law 1096 [.retAddr 1, .ref r1, .ref r2, .int x3] [] h Q) (kf : ¬ (s0 = s1) → wpx d P_Lw_law 1032 [.retAddr 1, .ref r1, .ref r2, .int x3] [] h Q) : wpx d P_Lw_law 1029 [.retAddr 1, .ref r1, .ref r2, .int x3] [.int s1, .int s0] h Q := by
  exact st_icmp_eq (pc' := 1032) rfl rfl kt kf
set_option maxRecDepth 20000 in
theorem B_Lw_law_1032 {d : Nat} {h : PH} {Q : PQ} {r1 : Nat} {r2 : Nat} {x3 : Int32}  (k : Q (some (.int 0)) h) : wpx d P_Lw_law 1032 [.retAddr 1, .ref r1, .ref r2, .int x3] [] h Q := by
  refine st_ipush (pc' := 1033) (v := 0) rfl rfl (by decide) ?_
  exact st_ireturn (ty := .boolean) rfl rfl (by decide) k
set_option maxRecDepth 20000 in
theorem B_Lw_law_1034 {d : Nat} {h : PH} {Q : PQ} {r1 : Nat} {r2 : Nat} {x3 : Int32} (hb0 : vp_in (x3 + (1 : Int32)) (h_sc h).1) (hb1 : vp_in (x3 + (2 : Int32)) (h_sc h).1) (kt : ((h_sc h).2 (x3 + (2 : Int32)).toNatClampNeg) = 0 → wpx d P_Lw_law 1052 [.retAddr 1, .ref r1, .ref r2, .int x3] [.int ((h_sc h).2 (x3 + (1 : Int32)).toNatClampNeg), .ref r1] h Q) (kf : ¬ (((h_sc h).2 (x3 + (2 : Int32)).toNatClampNeg) = 0) → wpx d P_Lw_law 1048 [.retAddr 1, .ref r1, .ref r2, .int x3] [.int ((h_sc h).2 (x3 + (1 : Int32)).toNatClampNeg), .ref r1] h Q) : wpx d P_Lw_law 1034 [.retAddr 1, .ref r1, .ref r2, .int x3] [] h Q := by
  refine st_aload (pc' := 1035) rfl rfl rfl ?_
  refine st_aloadS (pc' := 1036) rfl rfl rfl ?_
  refine st_iload (pc' := 1037) rfl rfl rfl ?_
  refine st_ipush (pc' := 1038) (v := 1) rfl rfl (by decide) ?_
  refine st_iadd (pc' := 1039) rfl rfl ?_
  refine st_sload rfl hb0 (pc' := 1040) rfl ?_
  refine st_aloadS (pc' := 1041) rfl rfl rfl ?_
  refine st_iload (pc' := 1042) rfl rfl rfl ?_
  refine st_ipush (pc' := 1043) (v := 2) rfl rfl (by decide) ?_
  refine st_iadd (pc' := 1044) rfl rfl ?_
  refine st_sload rfl hb1 (pc' := 1045) rfl ?_
  exact st_if_eq (pc' := 1048) rfl rfl kt kf
set_option maxRecDepth 20000 in
theorem B_Lw_law_1048 {d : Nat} {h : PH} {Q : PQ} {r1 : Nat} {r2 : Nat} {x3 : Int32} {q0 : Nat} {s1 : Int32}  (k : wpx d P_Lw_law 1053 [.retAddr 1, .ref r1, .ref r2, .int x3] [.int 1, .int s1, .ref q0] h Q) : wpx d P_Lw_law 1048 [.retAddr 1, .ref r1, .ref r2, .int x3] [.int s1, .ref q0] h Q := by
  refine st_ipush (pc' := 1049) (v := 1) rfl rfl (by decide) ?_
  exact st_goto rfl k
set_option maxRecDepth 20000 in
theorem B_Lw_law_1052 {d : Nat} {h : PH} {Q : PQ} {r1 : Nat} {r2 : Nat} {x3 : Int32} {q0 : Nat} {s1 : Int32}  (k : wpx d P_Lw_law 1053 [.retAddr 1, .ref r1, .ref r2, .int x3] [.int 0, .int s1, .ref q0] h Q) : wpx d P_Lw_law 1052 [.retAddr 1, .ref r1, .ref r2, .int x3] [.int s1, .ref q0] h Q := by
  refine st_ipush (pc' := 1053) (v := 0) rfl rfl (by decide) ?_
  exact k
set_option maxRecDepth 20000 in
theorem B_Lw_law_1053 {d : Nat} {h : PH} {Q : PQ} {r1 : Nat} {r2 : Nat} {x3 : Int32} {q0 : Nat} {s1 : Int32} {s2 : Int32} (hs0 : h_sh h q0 = some (0, 11)) (k : wpm d 150 [.ref q0, .int s1, .int s2] h (fun r h' => wpx d P_Lw_law 1056 [.retAddr 1, .ref r1, .ref r2, .int x3] (r.toList ++ []) h' Q)) : wpx d P_Lw_law 1053 [.retAddr 1, .ref r1, .ref r2, .int x3] [.int s2, .int s1, .ref q0] h Q := by
  exact st_call (pc' := 1056) (as := [.ref q0, .int s1, .int s2]) (rest := []) rfl rfl (Nat.le_of_ble_eq_true rfl) rfl rfl (Nat.le_of_ble_eq_true rfl) (kd := 1) (o := 11) rfl rfl (beq_iff_eq.mpr hs0) k
set_option maxRecDepth 20000 in
theorem B_Lw_law_1056 {d : Nat} {h : PH} {Q : PQ} {r1 : Nat} {r2 : Nat} {x3 : Int32} {s0 : Int32} (hb0 : vp_in (x3 + (1 : Int32)) (h_sc h).1) (hb1 : vp_in (x3 + (2 : Int32)) (h_sc h).1) (kt : ((h_sc h).2 (x3 + (2 : Int32)).toNatClampNeg) = 0 → wpx d P_Lw_law 1074 [.retAddr 1, .ref r1, .ref r2, .int x3] [.int ((h_sc h).2 (x3 + (1 : Int32)).toNatClampNeg), .ref r2, .int s0] h Q) (kf : ¬ (((h_sc h).2 (x3 + (2 : Int32)).toNatClampNeg) = 0) → wpx d P_Lw_law 1070 [.retAddr 1, .ref r1, .ref r2, .int x3] [.int ((h_sc h).2 (x3 + (1 : Int32)).toNatClampNeg), .ref r2, .int s0] h Q) : wpx d P_Lw_law 1056 [.retAddr 1, .ref r1, .ref r2, .int x3] [.int s0] h Q := by
  refine st_aload (pc' := 1057) rfl rfl rfl ?_
  refine st_aloadS (pc' := 1058) rfl rfl rfl ?_
  refine st_iload (pc' := 1059) rfl rfl rfl ?_
  refine st_ipush (pc' := 1060) (v := 1) rfl rfl (by decide) ?_
  refine st_iadd (pc' := 1061) rfl rfl ?_
  refine st_sload rfl hb0 (pc' := 1062) rfl ?_
  refine st_aloadS (pc' := 1063) rfl rfl rfl ?_
  refine st_iload (pc' := 1064) rfl rfl rfl ?_
  refine st_ipush (pc' := 1065) (v := 2) rfl rfl (by decide) ?_
  refine st_iadd (pc' := 1066) rfl rfl ?_
  refine st_sload rfl hb1 (pc' := 1067) rfl ?_
  exact st_if_eq (pc' := 1070) rfl rfl kt kf
set_option maxRecDepth 20000 in
theorem B_Lw_law_1070 {d : Nat} {h : PH} {Q : PQ} {r1 : Nat} {r2 : Nat} {x3 : Int32} {s0 : Int32} {q1 : Nat} {s2 : Int32}  (k : wpx d P_Lw_law 1075 [.retAddr 1, .ref r1, .ref r2, .int x3] [.int 1, .int s2, .ref q1, .int s0] h Q) : wpx d P_Lw_law 1070 [.retAddr 1, .ref r1, .ref r2, .int x3] [.int s2, .ref q1, .int s0] h Q := by
  refine st_ipush (pc' := 1071) (v := 1) rfl rfl (by decide) ?_
  exact st_goto rfl k
set_option maxRecDepth 20000 in
theorem B_Lw_law_1074 {d : Nat} {h : PH} {Q : PQ} {r1 : Nat} {r2 : Nat} {x3 : Int32} {s0 : Int32} {q1 : Nat} {s2 : Int32}  (k : wpx d P_Lw_law 1075 [.retAddr 1, .ref r1, .ref r2, .int x3] [.int 0, .int s2, .ref q1, .int s0] h Q) : wpx d P_Lw_law 1074 [.retAddr 1, .ref r1, .ref r2, .int x3] [.int s2, .ref q1, .int s0] h Q := by
  refine st_ipush (pc' := 1075) (v := 0) rfl rfl (by decide) ?_
  exact k
set_option maxRecDepth 20000 in
theorem B_Lw_law_1075 {d : Nat} {h : PH} {Q : PQ} {r1 : Nat} {r2 : Nat} {x3 : Int32} {s0 : Int32} {q1 : Nat} {s2 : Int32} {s3 : Int32} (hs0 : h_sh h q1 = some (0, 12)) (k : wpm d 280 [.ref q1, .int s2, .int s3] h (fun r h' => wpx d P_Lw_law 1078 [.retAddr 1, .ref r1, .ref r2, .int x3] (r.toList ++ [.int s0]) h' Q)) : wpx d P_Lw_law 1075 [.retAddr 1, .ref r1, .ref r2, .int x3] [.int s3, .int s2, .ref q1, .int s0] h Q := by
  exact st_call (pc' := 1078) (as := [.ref q1, .int s2, .int s3]) (rest := [.int s0]) rfl rfl (Nat.le_of_ble_eq_true rfl) rfl rfl (Nat.le_of_ble_eq_true rfl) (kd := 1) (o := 12) rfl rfl (beq_iff_eq.mpr hs0) k
set_option maxRecDepth 20000 in
theorem B_Lw_law_1078 {d : Nat} {h : PH} {Q : PQ} {r1 : Nat} {r2 : Nat} {x3 : Int32} {s0 : Int32} {s1 : Int32}  (kt : s0 = s1 → wpx d P_Lw_law 1096 [.retAddr 1, .ref r1, .ref r2, .int x3] [] h Q) (kf : ¬ (s0 = s1) → wpx d P_Lw_law 1081 [.retAddr 1, .ref r1, .ref r2, .int x3] [] h Q) : wpx d P_Lw_law 1078 [.retAddr 1, .ref r1, .ref r2, .int x3] [.int s1, .int s0] h Q := by
  exact st_icmp_eq (pc' := 1081) rfl rfl kt kf
set_option maxRecDepth 20000 in
theorem B_Lw_law_1081 {d : Nat} {h : PH} {Q : PQ} {r1 : Nat} {r2 : Nat} {x3 : Int32}  (k : Q (some (.int 0)) h) : wpx d P_Lw_law 1081 [.retAddr 1, .ref r1, .ref r2, .int x3] [] h Q := by
  refine st_ipush (pc' := 1082) (v := 0) rfl rfl (by decide) ?_
  exact st_ireturn (ty := .boolean) rfl rfl (by decide) k
set_option maxRecDepth 20000 in
theorem B_Lw_law_1083 {d : Nat} {h : PH} {Q : PQ} {r1 : Nat} {r2 : Nat} {x3 : Int32} (hs0 : h_sh h r1 = some (0, 11)) (k : wpm d 151 [.ref r1] h (fun r h' => wpx d P_Lw_law 1087 [.retAddr 1, .ref r1, .ref r2, .int x3] (r.toList ++ []) h' Q)) : wpx d P_Lw_law 1083 [.retAddr 1, .ref r1, .ref r2, .int x3] [] h Q := by
  refine st_aload (pc' := 1084) rfl rfl rfl ?_
  exact st_call (pc' := 1087) (as := [.ref r1]) (rest := []) rfl rfl (Nat.le_of_ble_eq_true rfl) rfl rfl (Nat.le_of_ble_eq_true rfl) (kd := 1) (o := 11) rfl rfl (beq_iff_eq.mpr hs0) k
set_option maxRecDepth 20000 in
theorem B_Lw_law_1087 {d : Nat} {h : PH} {Q : PQ} {r1 : Nat} {r2 : Nat} {x3 : Int32} {s0 : Int32} (hs0 : h_sh h r2 = some (0, 12)) (k : wpm d 281 [.ref r2] h (fun r h' => wpx d P_Lw_law 1091 [.retAddr 1, .ref r1, .ref r2, .int x3] (r.toList ++ [.int s0]) h' Q)) : wpx d P_Lw_law 1087 [.retAddr 1, .ref r1, .ref r2, .int x3] [.int s0] h Q := by
  refine st_aload (pc' := 1088) rfl rfl rfl ?_
  exact st_call (pc' := 1091) (as := [.ref r2]) (rest := [.int s0]) rfl rfl (Nat.le_of_ble_eq_true rfl) rfl rfl (Nat.le_of_ble_eq_true rfl) (kd := 1) (o := 12) rfl rfl (beq_iff_eq.mpr hs0) k
set_option maxRecDepth 20000 in
theorem B_Lw_law_1091 {d : Nat} {h : PH} {Q : PQ} {r1 : Nat} {r2 : Nat} {x3 : Int32} {s0 : Int32} {s1 : Int32}  (kt : s0 = s1 → wpx d P_Lw_law 1096 [.retAddr 1, .ref r1, .ref r2, .int x3] [] h Q) (kf : ¬ (s0 = s1) → wpx d P_Lw_law 1094 [.retAddr 1, .ref r1, .ref r2, .int x3] [] h Q) : wpx d P_Lw_law 1091 [.retAddr 1, .ref r1, .ref r2, .int x3] [.int s1, .int s0] h Q := by
  exact st_icmp_eq (pc' := 1094) rfl rfl kt kf
set_option maxRecDepth 20000 in
theorem B_Lw_law_1094 {d : Nat} {h : PH} {Q : PQ} {r1 : Nat} {r2 : Nat} {x3 : Int32}  (k : Q (some (.int 0)) h) : wpx d P_Lw_law 1094 [.retAddr 1, .ref r1, .ref r2, .int x3] [] h Q := by
  refine st_ipush (pc' := 1095) (v := 0) rfl rfl (by decide) ?_
  exact st_ireturn (ty := .boolean) rfl rfl (by decide) k
set_option maxRecDepth 20000 in
theorem B_Lw_law_1096 {d : Nat} {h : PH} {Q : PQ} {r1 : Nat} {r2 : Nat} {x3 : Int32}  (k : wpx d P_Lw_law 18 [.retAddr 1, .ref r1, .ref r2, .int (x3 + 6)] [] h Q) : wpx d P_Lw_law 1096 [.retAddr 1, .ref r1, .ref r2, .int x3] [] h Q := by
  refine st_iinc (pc' := 1099) (v := 6) (ls' := [.retAddr 1, .ref r1, .ref r2, .int (x3 + 6)]) rfl rfl rfl (by decide) rfl ?_
  exact st_goto rfl k
set_option maxRecDepth 20000 in
theorem B_Lw_law_1102 {d : Nat} {h : PH} {Q : PQ} {r1 : Nat} {r2 : Nat} {x3 : Int32}  (k : Q (some (.int 1)) h) : wpx d P_Lw_law 1102 [.retAddr 1, .ref r1, .ref r2, .int x3] [] h Q := by
  refine st_ipush (pc' := 1103) (v := 1) rfl rfl (by decide) ?_
  exact st_ireturn (ty := .boolean) rfl rfl (by decide) k
