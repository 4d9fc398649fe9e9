/-! the law's loop, over any invariant: what each call must do -/
def OpI (Inv : Nat → PH → Prop) (d ic im : Nat) (as : List Value) (n : Nat) : Prop := ∀ h, Inv n h → wpm d ic (.ref 0 :: as) h (fun r h1 => ∃ v : Int32, r = some (.int v) ∧ h_sc h1 = h_sc h ∧ h_sh h1 17 = some (0, 12) ∧ wpm d im (.ref 17 :: as) h1 (fun r' h2 => r' = some (.int v) ∧ Inv (n + 1) h2))
def OpL (Inv : Nat → PH → Prop) (d ic im : Nat) (as : List Value) (n : Nat) : Prop := ∀ h, Inv n h → wpm d ic (.ref 0 :: as) h (fun r h1 => ∃ v : Int64, r = some (.long v) ∧ h_sc h1 = h_sc h ∧ h_sh h1 17 = some (0, 12) ∧ wpm d im (.ref 17 :: as) h1 (fun r' h2 => r' = some (.long v) ∧ Inv (n + 1) h2))
theorem inb {n L : Nat} (j : Nat) (hj : j < 6) (h : 6 * n + 6 ≤ L) (hL : L ≤ 3072) {x : Int32} (hx : x = nI j) : vp_in (nI (6 * n) + x) L := by
  subst hx
  rw [nI_add]
  exact vp_in_nI (by omega) (by omega)
theorem lg_cmp_self (v : Int64) : lg_cmp v v = 0 := by simp [lg_cmp]
theorem lc_0 {Inv : Nat → PH → Prop} {d n L : Nat} {xs : Nat → Int32} {Q : PQ} {h : PH} (hL : L ≤ 3072) (h6 : 6 * n + 6 ≤ L) (hI : Inv n h) (hi : h_sc h = (L, xs) ∧ h_sh h 0 = some (0, 11) ∧ h_sh h 17 = some (0, 12)) (hop : ∀ (a1 : Int32) (a2 : Int32) (a3 : Int32) (a4 : Int32) (a5 : Int32), OpI Inv d 118 178 [.int a1, .int a2, .int a3, .int a4, .int a5] n) (kk : ∀ h2, Inv (n + 1) h2 → wpx d P_Lw_law 1096 [.retAddr 1, .ref 0, .ref 17, .int (nI (6 * n))] [] h2 Q) : wpx d P_Lw_law 184 [.retAddr 1, .ref 0, .ref 17, .int (nI (6 * n))] [] h Q := by
  refine B_Lw_law_184 (by rw [hi.1]; exact inb 1 (by decide) h6 hL (by decide)) (by rw [hi.1]; exact inb 2 (by decide) h6 hL (by decide)) (by rw [hi.1]; exact inb 3 (by decide) h6 hL (by decide)) (by rw [hi.1]; exact inb 4 (by decide) h6 hL (by decide)) (by rw [hi.1]; exact inb 5 (by decide) h6 hL (by decide)) hi.2.1 ?_
  refine (hop _ _ _ _ _ h hI).mono ?_
  rintro r h1 ⟨v, rfl, hc1, hs1, hw⟩
  refine B_Lw_law_213 (h := h1) (by rw [hc1, hi.1]; exact inb 1 (by decide) h6 hL (by decide)) (by rw [hc1, hi.1]; exact inb 2 (by decide) h6 hL (by decide)) (by rw [hc1, hi.1]; exact inb 3 (by decide) h6 hL (by decide)) (by rw [hc1, hi.1]; exact inb 4 (by decide) h6 hL (by decide)) (by rw [hc1, hi.1]; exact inb 5 (by decide) h6 hL (by decide)) hs1 ?_
  rw [hc1]
  refine hw.mono ?_
  rintro r' h2 ⟨rfl, hI2⟩
  exact B_Lw_law_242 (h := h2) (fun _ => kk h2 hI2) (fun hne => absurd rfl hne)
theorem lc_1 {Inv : Nat → PH → Prop} {d n L : Nat} {xs : Nat → Int32} {Q : PQ} {h : PH} (hL : L ≤ 3072) (h6 : 6 * n + 6 ≤ L) (hI : Inv n h) (hi : h_sc h = (L, xs) ∧ h_sh h 0 = some (0, 11) ∧ h_sh h 17 = some (0, 12)) (hop : ∀ (a1 : Int32), OpI Inv d 119 179 [.int a1] n) (kk : ∀ h2, Inv (n + 1) h2 → wpx d P_Lw_law 1096 [.retAddr 1, .ref 0, .ref 17, .int (nI (6 * n))] [] h2 Q) : wpx d P_Lw_law 247 [.retAddr 1, .ref 0, .ref 17, .int (nI (6 * n))] [] h Q := by
  refine B_Lw_law_247 (by rw [hi.1]; exact inb 1 (by decide) h6 hL (by decide)) hi.2.1 ?_
  refine (hop _ h hI).mono ?_
  rintro r h1 ⟨v, rfl, hc1, hs1, hw⟩
  refine B_Lw_law_256 (h := h1) (by rw [hc1, hi.1]; exact inb 1 (by decide) h6 hL (by decide)) hs1 ?_
  rw [hc1]
  refine hw.mono ?_
  rintro r' h2 ⟨rfl, hI2⟩
  exact B_Lw_law_265 (h := h2) (fun _ => kk h2 hI2) (fun hne => absurd rfl hne)
theorem lc_2 {Inv : Nat → PH → Prop} {d n L : Nat} {xs : Nat → Int32} {Q : PQ} {h : PH} (hL : L ≤ 3072) (h6 : 6 * n + 6 ≤ L) (hI : Inv n h) (hi : h_sc h = (L, xs) ∧ h_sh h 0 = some (0, 11) ∧ h_sh h 17 = some (0, 12)) (hop : OpI Inv d 120 195 [] n) (kk : ∀ h2, Inv (n + 1) h2 → wpx d P_Lw_law 1096 [.retAddr 1, .ref 0, .ref 17, .int (nI (6 * n))] [] h2 Q) : wpx d P_Lw_law 270 [.retAddr 1, .ref 0, .ref 17, .int (nI (6 * n))] [] h Q := by
  refine B_Lw_law_270  hi.2.1 ?_
  refine (hop  h hI).mono ?_
  rintro r h1 ⟨v, rfl, hc1, hs1, hw⟩
  refine B_Lw_law_274 (h := h1)  hs1 ?_
  refine hw.mono ?_
  rintro r' h2 ⟨rfl, hI2⟩
  exact B_Lw_law_278 (h := h2) (fun _ => kk h2 hI2) (fun hne => absurd rfl hne)
theorem lc_3 {Inv : Nat → PH → Prop} {d n L : Nat} {xs : Nat → Int32} {Q : PQ} {h : PH} (hL : L ≤ 3072) (h6 : 6 * n + 6 ≤ L) (hI : Inv n h) (hi : h_sc h = (L, xs) ∧ h_sh h 0 = some (0, 11) ∧ h_sh h 17 = some (0, 12)) (hop : ∀ (a1 : Int32), OpI Inv d 121 196 [.int a1] n) (kk : ∀ h2, Inv (n + 1) h2 → wpx d P_Lw_law 1096 [.retAddr 1, .ref 0, .ref 17, .int (nI (6 * n))] [] h2 Q) : wpx d P_Lw_law 283 [.retAddr 1, .ref 0, .ref 17, .int (nI (6 * n))] [] h Q := by
  refine B_Lw_law_283 (by rw [hi.1]; exact inb 1 (by decide) h6 hL (by decide)) hi.2.1 ?_
  refine (hop _ h hI).mono ?_
  rintro r h1 ⟨v, rfl, hc1, hs1, hw⟩
  refine B_Lw_law_292 (h := h1) (by rw [hc1, hi.1]; exact inb 1 (by decide) h6 hL (by decide)) hs1 ?_
  rw [hc1]
  refine hw.mono ?_
  rintro r' h2 ⟨rfl, hI2⟩
  exact B_Lw_law_301 (h := h2) (fun _ => kk h2 hI2) (fun hne => absurd rfl hne)
theorem lc_4 {Inv : Nat → PH → Prop} {d n L : Nat} {xs : Nat → Int32} {Q : PQ} {h : PH} (hL : L ≤ 3072) (h6 : 6 * n + 6 ≤ L) (hI : Inv n h) (hi : h_sc h = (L, xs) ∧ h_sh h 0 = some (0, 11) ∧ h_sh h 17 = some (0, 12)) (hop : ∀ (a1 : Int32) (a2 : Int32), OpI Inv d 122 203 [.int a1, .int a2] n) (kk : ∀ h2, Inv (n + 1) h2 → wpx d P_Lw_law 1096 [.retAddr 1, .ref 0, .ref 17, .int (nI (6 * n))] [] h2 Q) : wpx d P_Lw_law 306 [.retAddr 1, .ref 0, .ref 17, .int (nI (6 * n))] [] h Q := by
  refine B_Lw_law_306 (by rw [hi.1]; exact inb 1 (by decide) h6 hL (by decide)) (by rw [hi.1]; exact inb 2 (by decide) h6 hL (by decide)) hi.2.1 ?_
  refine (hop _ _ h hI).mono ?_
  rintro r h1 ⟨v, rfl, hc1, hs1, hw⟩
  refine B_Lw_law_320 (h := h1) (by rw [hc1, hi.1]; exact inb 1 (by decide) h6 hL (by decide)) (by rw [hc1, hi.1]; exact inb 2 (by decide) h6 hL (by decide)) hs1 ?_
  rw [hc1]
  refine hw.mono ?_
  rintro r' h2 ⟨rfl, hI2⟩
  exact B_Lw_law_334 (h := h2) (fun _ => kk h2 hI2) (fun hne => absurd rfl hne)
theorem lc_5 {Inv : Nat → PH → Prop} {d n L : Nat} {xs : Nat → Int32} {Q : PQ} {h : PH} (hL : L ≤ 3072) (h6 : 6 * n + 6 ≤ L) (hI : Inv n h) (hi : h_sc h = (L, xs) ∧ h_sh h 0 = some (0, 11) ∧ h_sh h 17 = some (0, 12)) (hop : ∀ (a1 : Int32), OpI Inv d 123 204 [.int a1] n) (kk : ∀ h2, Inv (n + 1) h2 → wpx d P_Lw_law 1096 [.retAddr 1, .ref 0, .ref 17, .int (nI (6 * n))] [] h2 Q) : wpx d P_Lw_law 339 [.retAddr 1, .ref 0, .ref 17, .int (nI (6 * n))] [] h Q := by
  refine B_Lw_law_339 (by rw [hi.1]; exact inb 1 (by decide) h6 hL (by decide)) hi.2.1 ?_
  refine (hop _ h hI).mono ?_
  rintro r h1 ⟨v, rfl, hc1, hs1, hw⟩
  refine B_Lw_law_348 (h := h1) (by rw [hc1, hi.1]; exact inb 1 (by decide) h6 hL (by decide)) hs1 ?_
  rw [hc1]
  refine hw.mono ?_
  rintro r' h2 ⟨rfl, hI2⟩
  exact B_Lw_law_357 (h := h2) (fun _ => kk h2 hI2) (fun hne => absurd rfl hne)
theorem lc_6 {Inv : Nat → PH → Prop} {d n L : Nat} {xs : Nat → Int32} {Q : PQ} {h : PH} (hL : L ≤ 3072) (h6 : 6 * n + 6 ≤ L) (hI : Inv n h) (hi : h_sc h = (L, xs) ∧ h_sh h 0 = some (0, 11) ∧ h_sh h 17 = some (0, 12)) (hop : ∀ (a1 : Int32) (a2 : Int32), OpI Inv d 124 205 [.int a1, .int a2] n) (kk : ∀ h2, Inv (n + 1) h2 → wpx d P_Lw_law 1096 [.retAddr 1, .ref 0, .ref 17, .int (nI (6 * n))] [] h2 Q) : wpx d P_Lw_law 362 [.retAddr 1, .ref 0, .ref 17, .int (nI (6 * n))] [] h Q := by
  refine B_Lw_law_362 (by rw [hi.1]; exact inb 1 (by decide) h6 hL (by decide)) (by rw [hi.1]; exact inb 2 (by decide) h6 hL (by decide)) hi.2.1 ?_
  refine (hop _ _ h hI).mono ?_
  rintro r h1 ⟨v, rfl, hc1, hs1, hw⟩
  refine B_Lw_law_376 (h := h1) (by rw [hc1, hi.1]; exact inb 1 (by decide) h6 hL (by decide)) (by rw [hc1, hi.1]; exact inb 2 (by decide) h6 hL (by decide)) hs1 ?_
  rw [hc1]
  refine hw.mono ?_
  rintro r' h2 ⟨rfl, hI2⟩
  exact B_Lw_law_390 (h := h2) (fun _ => kk h2 hI2) (fun hne => absurd rfl hne)
theorem lc_7 {Inv : Nat → PH → Prop} {d n L : Nat} {xs : Nat → Int32} {Q : PQ} {h : PH} (hL : L ≤ 3072) (h6 : 6 * n + 6 ≤ L) (hI : Inv n h) (hi : h_sc h = (L, xs) ∧ h_sh h 0 = some (0, 11) ∧ h_sh h 17 = some (0, 12)) (hop : OpI Inv d 125 213 [] n) (kk : ∀ h2, Inv (n + 1) h2 → wpx d P_Lw_law 1096 [.retAddr 1, .ref 0, .ref 17, .int (nI (6 * n))] [] h2 Q) : wpx d P_Lw_law 395 [.retAddr 1, .ref 0, .ref 17, .int (nI (6 * n))] [] h Q := by
  refine B_Lw_law_395  hi.2.1 ?_
  refine (hop  h hI).mono ?_
  rintro r h1 ⟨v, rfl, hc1, hs1, hw⟩
  refine B_Lw_law_399 (h := h1)  hs1 ?_
  refine hw.mono ?_
  rintro r' h2 ⟨rfl, hI2⟩
  exact B_Lw_law_403 (h := h2) (fun _ => kk h2 hI2) (fun hne => absurd rfl hne)
theorem lc_8 {Inv : Nat → PH → Prop} {d n L : Nat} {xs : Nat → Int32} {Q : PQ} {h : PH} (hL : L ≤ 3072) (h6 : 6 * n + 6 ≤ L) (hI : Inv n h) (hi : h_sc h = (L, xs) ∧ h_sh h 0 = some (0, 11) ∧ h_sh h 17 = some (0, 12)) (hop : ∀ (a1 : Int32), OpI Inv d 126 214 [.int a1] n) (kk : ∀ h2, Inv (n + 1) h2 → wpx d P_Lw_law 1096 [.retAddr 1, .ref 0, .ref 17, .int (nI (6 * n))] [] h2 Q) : wpx d P_Lw_law 408 [.retAddr 1, .ref 0, .ref 17, .int (nI (6 * n))] [] h Q := by
  refine B_Lw_law_408 (by rw [hi.1]; exact inb 1 (by decide) h6 hL (by decide)) hi.2.1 ?_
  refine (hop _ h hI).mono ?_
  rintro r h1 ⟨v, rfl, hc1, hs1, hw⟩
  refine B_Lw_law_417 (h := h1) (by rw [hc1, hi.1]; exact inb 1 (by decide) h6 hL (by decide)) hs1 ?_
  rw [hc1]
  refine hw.mono ?_
  rintro r' h2 ⟨rfl, hI2⟩
  exact B_Lw_law_426 (h := h2) (fun _ => kk h2 hI2) (fun hne => absurd rfl hne)
theorem lc_9 {Inv : Nat → PH → Prop} {d n L : Nat} {xs : Nat → Int32} {Q : PQ} {h : PH} (hL : L ≤ 3072) (h6 : 6 * n + 6 ≤ L) (hI : Inv n h) (hi : h_sc h = (L, xs) ∧ h_sh h 0 = some (0, 11) ∧ h_sh h 17 = some (0, 12)) (hop : ∀ (a1 : Int32) (a2 : Int32) (a3 : Int32), OpI Inv d 127 215 [.int a1, .int a2, .int a3] n) (kk : ∀ h2, Inv (n + 1) h2 → wpx d P_Lw_law 1096 [.retAddr 1, .ref 0, .ref 17, .int (nI (6 * n))] [] h2 Q) : wpx d P_Lw_law 431 [.retAddr 1, .ref 0, .ref 17, .int (nI (6 * n))] [] h Q := by
  refine B_Lw_law_431 (by rw [hi.1]; exact inb 1 (by decide) h6 hL (by decide)) (by rw [hi.1]; exact inb 2 (by decide) h6 hL (by decide)) (by rw [hi.1]; exact inb 3 (by decide) h6 hL (by decide)) hi.2.1 ?_
  refine (hop _ _ _ h hI).mono ?_
  rintro r h1 ⟨v, rfl, hc1, hs1, hw⟩
  refine B_Lw_law_450 (h := h1) (by rw [hc1, hi.1]; exact inb 1 (by decide) h6 hL (by decide)) (by rw [hc1, hi.1]; exact inb 2 (by decide) h6 hL (by decide)) (by rw [hc1, hi.1]; exact inb 3 (by decide) h6 hL (by decide)) hs1 ?_
  rw [hc1]
  refine hw.mono ?_
  rintro r' h2 ⟨rfl, hI2⟩
  exact B_Lw_law_469 (h := h2) (fun _ => kk h2 hI2) (fun hne => absurd rfl hne)
theorem lc_10 {Inv : Nat → PH → Prop} {d n L : Nat} {xs : Nat → Int32} {Q : PQ} {h : PH} (hL : L ≤ 3072) (h6 : 6 * n + 6 ≤ L) (hI : Inv n h) (hi : h_sc h = (L, xs) ∧ h_sh h 0 = some (0, 11) ∧ h_sh h 17 = some (0, 12)) (hop : OpI Inv d 128 216 [] n) (kk : ∀ h2, Inv (n + 1) h2 → wpx d P_Lw_law 1096 [.retAddr 1, .ref 0, .ref 17, .int (nI (6 * n))] [] h2 Q) : wpx d P_Lw_law 474 [.retAddr 1, .ref 0, .ref 17, .int (nI (6 * n))] [] h Q := by
  refine B_Lw_law_474  hi.2.1 ?_
  refine (hop  h hI).mono ?_
  rintro r h1 ⟨v, rfl, hc1, hs1, hw⟩
  refine B_Lw_law_478 (h := h1)  hs1 ?_
  refine hw.mono ?_
  rintro r' h2 ⟨rfl, hI2⟩
  exact B_Lw_law_482 (h := h2) (fun _ => kk h2 hI2) (fun hne => absurd rfl hne)
theorem lc_11 {Inv : Nat → PH → Prop} {d n L : Nat} {xs : Nat → Int32} {Q : PQ} {h : PH} (hL : L ≤ 3072) (h6 : 6 * n + 6 ≤ L) (hI : Inv n h) (hi : h_sc h = (L, xs) ∧ h_sh h 0 = some (0, 11) ∧ h_sh h 17 = some (0, 12)) (hop : OpI Inv d 129 222 [] n) (kk : ∀ h2, Inv (n + 1) h2 → wpx d P_Lw_law 1096 [.retAddr 1, .ref 0, .ref 17, .int (nI (6 * n))] [] h2 Q) : wpx d P_Lw_law 487 [.retAddr 1, .ref 0, .ref 17, .int (nI (6 * n))] [] h Q := by
  refine B_Lw_law_487  hi.2.1 ?_
  refine (hop  h hI).mono ?_
  rintro r h1 ⟨v, rfl, hc1, hs1, hw⟩
  refine B_Lw_law_491 (h := h1)  hs1 ?_
  refine hw.mono ?_
  rintro r' h2 ⟨rfl, hI2⟩
  exact B_Lw_law_495 (h := h2) (fun _ => kk h2 hI2) (fun hne => absurd rfl hne)
theorem lc_12 {Inv : Nat → PH → Prop} {d n L : Nat} {xs : Nat → Int32} {Q : PQ} {h : PH} (hL : L ≤ 3072) (h6 : 6 * n + 6 ≤ L) (hI : Inv n h) (hi : h_sc h = (L, xs) ∧ h_sh h 0 = some (0, 11) ∧ h_sh h 17 = some (0, 12)) (hop : OpI Inv d 130 223 [] n) (kk : ∀ h2, Inv (n + 1) h2 → wpx d P_Lw_law 1096 [.retAddr 1, .ref 0, .ref 17, .int (nI (6 * n))] [] h2 Q) : wpx d P_Lw_law 500 [.retAddr 1, .ref 0, .ref 17, .int (nI (6 * n))] [] h Q := by
  refine B_Lw_law_500  hi.2.1 ?_
  refine (hop  h hI).mono ?_
  rintro r h1 ⟨v, rfl, hc1, hs1, hw⟩
  refine B_Lw_law_504 (h := h1)  hs1 ?_
  refine hw.mono ?_
  rintro r' h2 ⟨rfl, hI2⟩
  exact B_Lw_law_508 (h := h2) (fun _ => kk h2 hI2) (fun hne => absurd rfl hne)
theorem lc_13 {Inv : Nat → PH → Prop} {d n L : Nat} {xs : Nat → Int32} {Q : PQ} {h : PH} (hL : L ≤ 3072) (h6 : 6 * n + 6 ≤ L) (hI : Inv n h) (hi : h_sc h = (L, xs) ∧ h_sh h 0 = some (0, 11) ∧ h_sh h 17 = some (0, 12)) (hop : ∀ (a1 : Int32), OpL Inv d 131 225 [.int a1] n) (kk : ∀ h2, Inv (n + 1) h2 → wpx d P_Lw_law 1096 [.retAddr 1, .ref 0, .ref 17, .int (nI (6 * n))] [] h2 Q) : wpx d P_Lw_law 513 [.retAddr 1, .ref 0, .ref 17, .int (nI (6 * n))] [] h Q := by
  refine B_Lw_law_513 (by rw [hi.1]; exact inb 1 (by decide) h6 hL (by decide)) hi.2.1 ?_
  refine (hop _ h hI).mono ?_
  rintro r h1 ⟨v, rfl, hc1, hs1, hw⟩
  refine B_Lw_law_522 (h := h1) (by rw [hc1, hi.1]; exact inb 1 (by decide) h6 hL (by decide)) hs1 ?_
  rw [hc1]
  refine hw.mono ?_
  rintro r' h2 ⟨rfl, hI2⟩
  exact B_Lw_law_531 (h := h2) (fun _ => kk h2 hI2) (fun hne => absurd (lg_cmp_self v) hne)
theorem lc_14 {Inv : Nat → PH → Prop} {d n L : Nat} {xs : Nat → Int32} {Q : PQ} {h : PH} (hL : L ≤ 3072) (h6 : 6 * n + 6 ≤ L) (hI : Inv n h) (hi : h_sc h = (L, xs) ∧ h_sh h 0 = some (0, 11) ∧ h_sh h 17 = some (0, 12)) (hop : OpI Inv d 132 228 [] n) (kk : ∀ h2, Inv (n + 1) h2 → wpx d P_Lw_law 1096 [.retAddr 1, .ref 0, .ref 17, .int (nI (6 * n))] [] h2 Q) : wpx d P_Lw_law 537 [.retAddr 1, .ref 0, .ref 17, .int (nI (6 * n))] [] h Q := by
  refine B_Lw_law_537  hi.2.1 ?_
  refine (hop  h hI).mono ?_
  rintro r h1 ⟨v, rfl, hc1, hs1, hw⟩
  refine B_Lw_law_541 (h := h1)  hs1 ?_
  refine hw.mono ?_
  rintro r' h2 ⟨rfl, hI2⟩
  exact B_Lw_law_545 (h := h2) (fun _ => kk h2 hI2) (fun hne => absurd rfl hne)
theorem lc_15 {Inv : Nat → PH → Prop} {d n L : Nat} {xs : Nat → Int32} {Q : PQ} {h : PH} (hL : L ≤ 3072) (h6 : 6 * n + 6 ≤ L) (hI : Inv n h) (hi : h_sc h = (L, xs) ∧ h_sh h 0 = some (0, 11) ∧ h_sh h 17 = some (0, 12)) (hop : ∀ (a1 : Int32), OpI Inv d 133 229 [.int a1] n) (kk : ∀ h2, Inv (n + 1) h2 → wpx d P_Lw_law 1096 [.retAddr 1, .ref 0, .ref 17, .int (nI (6 * n))] [] h2 Q) : wpx d P_Lw_law 550 [.retAddr 1, .ref 0, .ref 17, .int (nI (6 * n))] [] h Q := by
  refine B_Lw_law_550 (by rw [hi.1]; exact inb 1 (by decide) h6 hL (by decide)) hi.2.1 ?_
  refine (hop _ h hI).mono ?_
  rintro r h1 ⟨v, rfl, hc1, hs1, hw⟩
  refine B_Lw_law_559 (h := h1) (by rw [hc1, hi.1]; exact inb 1 (by decide) h6 hL (by decide)) hs1 ?_
  rw [hc1]
  refine hw.mono ?_
  rintro r' h2 ⟨rfl, hI2⟩
  exact B_Lw_law_568 (h := h2) (fun _ => kk h2 hI2) (fun hne => absurd rfl hne)
theorem lc_16 {Inv : Nat → PH → Prop} {d n L : Nat} {xs : Nat → Int32} {Q : PQ} {h : PH} (hL : L ≤ 3072) (h6 : 6 * n + 6 ≤ L) (hI : Inv n h) (hi : h_sc h = (L, xs) ∧ h_sh h 0 = some (0, 11) ∧ h_sh h 17 = some (0, 12)) (hop : OpL Inv d 134 230 [] n) (kk : ∀ h2, Inv (n + 1) h2 → wpx d P_Lw_law 1096 [.retAddr 1, .ref 0, .ref 17, .int (nI (6 * n))] [] h2 Q) : wpx d P_Lw_law 573 [.retAddr 1, .ref 0, .ref 17, .int (nI (6 * n))] [] h Q := by
  refine B_Lw_law_573  hi.2.1 ?_
  refine (hop  h hI).mono ?_
  rintro r h1 ⟨v, rfl, hc1, hs1, hw⟩
  refine B_Lw_law_577 (h := h1)  hs1 ?_
  refine hw.mono ?_
  rintro r' h2 ⟨rfl, hI2⟩
  exact B_Lw_law_581 (h := h2) (fun _ => kk h2 hI2) (fun hne => absurd (lg_cmp_self v) hne)
theorem lc_17 {Inv : Nat → PH → Prop} {d n L : Nat} {xs : Nat → Int32} {Q : PQ} {h : PH} (hL : L ≤ 3072) (h6 : 6 * n + 6 ≤ L) (hI : Inv n h) (hi : h_sc h = (L, xs) ∧ h_sh h 0 = some (0, 11) ∧ h_sh h 17 = some (0, 12)) (hop : ∀ (a1 : Int32) (a2 : Int32), OpI Inv d 135 232 [.int a1, .int a2] n) (kk : ∀ h2, Inv (n + 1) h2 → wpx d P_Lw_law 1096 [.retAddr 1, .ref 0, .ref 17, .int (nI (6 * n))] [] h2 Q) : wpx d P_Lw_law 587 [.retAddr 1, .ref 0, .ref 17, .int (nI (6 * n))] [] h Q := by
  refine B_Lw_law_587 (by rw [hi.1]; exact inb 1 (by decide) h6 hL (by decide)) (by rw [hi.1]; exact inb 2 (by decide) h6 hL (by decide)) hi.2.1 ?_
  refine (hop _ _ h hI).mono ?_
  rintro r h1 ⟨v, rfl, hc1, hs1, hw⟩
  refine B_Lw_law_601 (h := h1) (by rw [hc1, hi.1]; exact inb 1 (by decide) h6 hL (by decide)) (by rw [hc1, hi.1]; exact inb 2 (by decide) h6 hL (by decide)) hs1 ?_
  rw [hc1]
  refine hw.mono ?_
  rintro r' h2 ⟨rfl, hI2⟩
  exact B_Lw_law_615 (h := h2) (fun _ => kk h2 hI2) (fun hne => absurd rfl hne)
theorem lc_18 {Inv : Nat → PH → Prop} {d n L : Nat} {xs : Nat → Int32} {Q : PQ} {h : PH} (hL : L ≤ 3072) (h6 : 6 * n + 6 ≤ L) (hI : Inv n h) (hi : h_sc h = (L, xs) ∧ h_sh h 0 = some (0, 11) ∧ h_sh h 17 = some (0, 12)) (hop : OpI Inv d 136 233 [] n) (kk : ∀ h2, Inv (n + 1) h2 → wpx d P_Lw_law 1096 [.retAddr 1, .ref 0, .ref 17, .int (nI (6 * n))] [] h2 Q) : wpx d P_Lw_law 620 [.retAddr 1, .ref 0, .ref 17, .int (nI (6 * n))] [] h Q := by
  refine B_Lw_law_620  hi.2.1 ?_
  refine (hop  h hI).mono ?_
  rintro r h1 ⟨v, rfl, hc1, hs1, hw⟩
  refine B_Lw_law_624 (h := h1)  hs1 ?_
  refine hw.mono ?_
  rintro r' h2 ⟨rfl, hI2⟩
  exact B_Lw_law_628 (h := h2) (fun _ => kk h2 hI2) (fun hne => absurd rfl hne)
theorem lc_19 {Inv : Nat → PH → Prop} {d n L : Nat} {xs : Nat → Int32} {Q : PQ} {h : PH} (hL : L ≤ 3072) (h6 : 6 * n + 6 ≤ L) (hI : Inv n h) (hi : h_sc h = (L, xs) ∧ h_sh h 0 = some (0, 11) ∧ h_sh h 17 = some (0, 12)) (hop : ∀ (a1 : Int32), OpI Inv d 137 235 [.int a1] n) (kk : ∀ h2, Inv (n + 1) h2 → wpx d P_Lw_law 1096 [.retAddr 1, .ref 0, .ref 17, .int (nI (6 * n))] [] h2 Q) : wpx d P_Lw_law 633 [.retAddr 1, .ref 0, .ref 17, .int (nI (6 * n))] [] h Q := by
  refine B_Lw_law_633 (by rw [hi.1]; exact inb 1 (by decide) h6 hL (by decide)) hi.2.1 ?_
  refine (hop _ h hI).mono ?_
  rintro r h1 ⟨v, rfl, hc1, hs1, hw⟩
  refine B_Lw_law_642 (h := h1) (by rw [hc1, hi.1]; exact inb 1 (by decide) h6 hL (by decide)) hs1 ?_
  rw [hc1]
  refine hw.mono ?_
  rintro r' h2 ⟨rfl, hI2⟩
  exact B_Lw_law_651 (h := h2) (fun _ => kk h2 hI2) (fun hne => absurd rfl hne)
theorem lc_20 {Inv : Nat → PH → Prop} {d n L : Nat} {xs : Nat → Int32} {Q : PQ} {h : PH} (hL : L ≤ 3072) (h6 : 6 * n + 6 ≤ L) (hI : Inv n h) (hi : h_sc h = (L, xs) ∧ h_sh h 0 = some (0, 11) ∧ h_sh h 17 = some (0, 12)) (hop : ∀ (a1 : Int32) (a2 : Int32), OpI Inv d 138 236 [.int a1, .int a2] n) (kk : ∀ h2, Inv (n + 1) h2 → wpx d P_Lw_law 1096 [.retAddr 1, .ref 0, .ref 17, .int (nI (6 * n))] [] h2 Q) : wpx d P_Lw_law 656 [.retAddr 1, .ref 0, .ref 17, .int (nI (6 * n))] [] h Q := by
  refine B_Lw_law_656 (by rw [hi.1]; exact inb 1 (by decide) h6 hL (by decide)) (by rw [hi.1]; exact inb 2 (by decide) h6 hL (by decide)) hi.2.1 ?_
  refine (hop _ _ h hI).mono ?_
  rintro r h1 ⟨v, rfl, hc1, hs1, hw⟩
  refine B_Lw_law_670 (h := h1) (by rw [hc1, hi.1]; exact inb 1 (by decide) h6 hL (by decide)) (by rw [hc1, hi.1]; exact inb 2 (by decide) h6 hL (by decide)) hs1 ?_
  rw [hc1]
  refine hw.mono ?_
  rintro r' h2 ⟨rfl, hI2⟩
  exact B_Lw_law_684 (h := h2) (fun _ => kk h2 hI2) (fun hne => absurd rfl hne)
theorem lc_21 {Inv : Nat → PH → Prop} {d n L : Nat} {xs : Nat → Int32} {Q : PQ} {h : PH} (hL : L ≤ 3072) (h6 : 6 * n + 6 ≤ L) (hI : Inv n h) (hi : h_sc h = (L, xs) ∧ h_sh h 0 = some (0, 11) ∧ h_sh h 17 = some (0, 12)) (hop : ∀ (a1 : Int32), OpI Inv d 139 241 [.int a1] n) (kk : ∀ h2, Inv (n + 1) h2 → wpx d P_Lw_law 1096 [.retAddr 1, .ref 0, .ref 17, .int (nI (6 * n))] [] h2 Q) : wpx d P_Lw_law 689 [.retAddr 1, .ref 0, .ref 17, .int (nI (6 * n))] [] h Q := by
  refine B_Lw_law_689 (by rw [hi.1]; exact inb 1 (by decide) h6 hL (by decide)) hi.2.1 ?_
  refine (hop _ h hI).mono ?_
  rintro r h1 ⟨v, rfl, hc1, hs1, hw⟩
  refine B_Lw_law_698 (h := h1) (by rw [hc1, hi.1]; exact inb 1 (by decide) h6 hL (by decide)) hs1 ?_
  rw [hc1]
  refine hw.mono ?_
  rintro r' h2 ⟨rfl, hI2⟩
  exact B_Lw_law_707 (h := h2) (fun _ => kk h2 hI2) (fun hne => absurd rfl hne)
theorem lc_22 {Inv : Nat → PH → Prop} {d n L : Nat} {xs : Nat → Int32} {Q : PQ} {h : PH} (hL : L ≤ 3072) (h6 : 6 * n + 6 ≤ L) (hI : Inv n h) (hi : h_sc h = (L, xs) ∧ h_sh h 0 = some (0, 11) ∧ h_sh h 17 = some (0, 12)) (hop : OpI Inv d 140 242 [] n) (kk : ∀ h2, Inv (n + 1) h2 → wpx d P_Lw_law 1096 [.retAddr 1, .ref 0, .ref 17, .int (nI (6 * n))] [] h2 Q) : wpx d P_Lw_law 712 [.retAddr 1, .ref 0, .ref 17, .int (nI (6 * n))] [] h Q := by
  refine B_Lw_law_712  hi.2.1 ?_
  refine (hop  h hI).mono ?_
  rintro r h1 ⟨v, rfl, hc1, hs1, hw⟩
  refine B_Lw_law_716 (h := h1)  hs1 ?_
  refine hw.mono ?_
  rintro r' h2 ⟨rfl, hI2⟩
  exact B_Lw_law_720 (h := h2) (fun _ => kk h2 hI2) (fun hne => absurd rfl hne)
theorem lc_23 {Inv : Nat → PH → Prop} {d n L : Nat} {xs : Nat → Int32} {Q : PQ} {h : PH} (hL : L ≤ 3072) (h6 : 6 * n + 6 ≤ L) (hI : Inv n h) (hi : h_sc h = (L, xs) ∧ h_sh h 0 = some (0, 11) ∧ h_sh h 17 = some (0, 12)) (hop : ∀ (a1 : Int32) (a2 : Int32) (a3 : Int32) (a4 : Int32), OpI Inv d 141 245 [.int a1, .int a2, .int a3, .int a4] n) (kk : ∀ h2, Inv (n + 1) h2 → wpx d P_Lw_law 1096 [.retAddr 1, .ref 0, .ref 17, .int (nI (6 * n))] [] h2 Q) : wpx d P_Lw_law 725 [.retAddr 1, .ref 0, .ref 17, .int (nI (6 * n))] [] h Q := by
  refine B_Lw_law_725 (by rw [hi.1]; exact inb 1 (by decide) h6 hL (by decide)) (by rw [hi.1]; exact inb 2 (by decide) h6 hL (by decide)) (by rw [hi.1]; exact inb 3 (by decide) h6 hL (by decide)) (by rw [hi.1]; exact inb 4 (by decide) h6 hL (by decide)) hi.2.1 ?_
  refine (hop _ _ _ _ h hI).mono ?_
  rintro r h1 ⟨v, rfl, hc1, hs1, hw⟩
  refine B_Lw_law_749 (h := h1) (by rw [hc1, hi.1]; exact inb 1 (by decide) h6 hL (by decide)) (by rw [hc1, hi.1]; exact inb 2 (by decide) h6 hL (by decide)) (by rw [hc1, hi.1]; exact inb 3 (by decide) h6 hL (by decide)) (by rw [hc1, hi.1]; exact inb 4 (by decide) h6 hL (by decide)) hs1 ?_
  rw [hc1]
  refine hw.mono ?_
  rintro r' h2 ⟨rfl, hI2⟩
  exact B_Lw_law_773 (h := h2) (fun _ => kk h2 hI2) (fun hne => absurd rfl hne)
theorem lc_24 {Inv : Nat → PH → Prop} {d n L : Nat} {xs : Nat → Int32} {Q : PQ} {h : PH} (hL : L ≤ 3072) (h6 : 6 * n + 6 ≤ L) (hI : Inv n h) (hi : h_sc h = (L, xs) ∧ h_sh h 0 = some (0, 11) ∧ h_sh h 17 = some (0, 12)) (hop : ∀ (a1 : Int32) (a2 : Int32), OpI Inv d 142 246 [.int a1, .int a2] n) (kk : ∀ h2, Inv (n + 1) h2 → wpx d P_Lw_law 1096 [.retAddr 1, .ref 0, .ref 17, .int (nI (6 * n))] [] h2 Q) : wpx d P_Lw_law 778 [.retAddr 1, .ref 0, .ref 17, .int (nI (6 * n))] [] h Q := by
  refine B_Lw_law_778 (by rw [hi.1]; exact inb 1 (by decide) h6 hL (by decide)) (by rw [hi.1]; exact inb 2 (by decide) h6 hL (by decide)) hi.2.1 ?_
  refine (hop _ _ h hI).mono ?_
  rintro r h1 ⟨v, rfl, hc1, hs1, hw⟩
  refine B_Lw_law_792 (h := h1) (by rw [hc1, hi.1]; exact inb 1 (by decide) h6 hL (by decide)) (by rw [hc1, hi.1]; exact inb 2 (by decide) h6 hL (by decide)) hs1 ?_
  rw [hc1]
  refine hw.mono ?_
  rintro r' h2 ⟨rfl, hI2⟩
  exact B_Lw_law_806 (h := h2) (fun _ => kk h2 hI2) (fun hne => absurd rfl hne)
theorem lc_25 {Inv : Nat → PH → Prop} {d n L : Nat} {xs : Nat → Int32} {Q : PQ} {h : PH} (hL : L ≤ 3072) (h6 : 6 * n + 6 ≤ L) (hI : Inv n h) (hi : h_sc h = (L, xs) ∧ h_sh h 0 = some (0, 11) ∧ h_sh h 17 = some (0, 12)) (hop : ∀ (a1 : Int32) (a2 : Int32), OpL Inv d 143 257 [.int a1, .int a2] n) (kk : ∀ h2, Inv (n + 1) h2 → wpx d P_Lw_law 1096 [.retAddr 1, .ref 0, .ref 17, .int (nI (6 * n))] [] h2 Q) : wpx d P_Lw_law 811 [.retAddr 1, .ref 0, .ref 17, .int (nI (6 * n))] [] h Q := by
  refine B_Lw_law_811 (by rw [hi.1]; exact inb 1 (by decide) h6 hL (by decide)) (by rw [hi.1]; exact inb 2 (by decide) h6 hL (by decide)) hi.2.1 ?_
  refine (hop _ _ h hI).mono ?_
  rintro r h1 ⟨v, rfl, hc1, hs1, hw⟩
  refine B_Lw_law_825 (h := h1) (by rw [hc1, hi.1]; exact inb 1 (by decide) h6 hL (by decide)) (by rw [hc1, hi.1]; exact inb 2 (by decide) h6 hL (by decide)) hs1 ?_
  rw [hc1]
  refine hw.mono ?_
  rintro r' h2 ⟨rfl, hI2⟩
  exact B_Lw_law_839 (h := h2) (fun _ => kk h2 hI2) (fun hne => absurd (lg_cmp_self v) hne)
theorem lc_26 {Inv : Nat → PH → Prop} {d n L : Nat} {xs : Nat → Int32} {Q : PQ} {h : PH} (hL : L ≤ 3072) (h6 : 6 * n + 6 ≤ L) (hI : Inv n h) (hi : h_sc h = (L, xs) ∧ h_sh h 0 = some (0, 11) ∧ h_sh h 17 = some (0, 12)) (hop : ∀ (a1 : Int32) (a2 : Int64), OpI Inv d 144 260 [.int a1, .long a2] n) (kk : ∀ h2, Inv (n + 1) h2 → wpx d P_Lw_law 1096 [.retAddr 1, .ref 0, .ref 17, .int (nI (6 * n))] [] h2 Q) : wpx d P_Lw_law 845 [.retAddr 1, .ref 0, .ref 17, .int (nI (6 * n))] [] h Q := by
  refine B_Lw_law_845 (by rw [hi.1]; exact inb 1 (by decide) h6 hL (by decide)) (by rw [hi.1]; exact inb 2 (by decide) h6 hL (by decide)) (by rw [hi.1]; exact inb 3 (by decide) h6 hL (by decide)) hi.2.1 ?_
  refine (hop _ _ h hI).mono ?_
  rintro r h1 ⟨v, rfl, hc1, hs1, hw⟩
  refine B_Lw_law_874 (h := h1) (by rw [hc1, hi.1]; exact inb 1 (by decide) h6 hL (by decide)) (by rw [hc1, hi.1]; exact inb 2 (by decide) h6 hL (by decide)) (by rw [hc1, hi.1]; exact inb 3 (by decide) h6 hL (by decide)) hs1 ?_
  rw [hc1]
  refine hw.mono ?_
  rintro r' h2 ⟨rfl, hI2⟩
  exact B_Lw_law_903 (h := h2) (fun _ => kk h2 hI2) (fun hne => absurd rfl hne)
theorem lc_27 {Inv : Nat → PH → Prop} {d n L : Nat} {xs : Nat → Int32} {Q : PQ} {h : PH} (hL : L ≤ 3072) (h6 : 6 * n + 6 ≤ L) (hI : Inv n h) (hi : h_sc h = (L, xs) ∧ h_sh h 0 = some (0, 11) ∧ h_sh h 17 = some (0, 12)) (hop : OpL Inv d 145 261 [] n) (kk : ∀ h2, Inv (n + 1) h2 → wpx d P_Lw_law 1096 [.retAddr 1, .ref 0, .ref 17, .int (nI (6 * n))] [] h2 Q) : wpx d P_Lw_law 908 [.retAddr 1, .ref 0, .ref 17, .int (nI (6 * n))] [] h Q := by
  refine B_Lw_law_908  hi.2.1 ?_
  refine (hop  h hI).mono ?_
  rintro r h1 ⟨v, rfl, hc1, hs1, hw⟩
  refine B_Lw_law_912 (h := h1)  hs1 ?_
  refine hw.mono ?_
  rintro r' h2 ⟨rfl, hI2⟩
  exact B_Lw_law_916 (h := h2) (fun _ => kk h2 hI2) (fun hne => absurd (lg_cmp_self v) hne)
theorem lc_28 {Inv : Nat → PH → Prop} {d n L : Nat} {xs : Nat → Int32} {Q : PQ} {h : PH} (hL : L ≤ 3072) (h6 : 6 * n + 6 ≤ L) (hI : Inv n h) (hi : h_sc h = (L, xs) ∧ h_sh h 0 = some (0, 11) ∧ h_sh h 17 = some (0, 12)) (hop : ∀ (a1 : Int32), OpI Inv d 146 268 [.int a1] n) (kk : ∀ h2, Inv (n + 1) h2 → wpx d P_Lw_law 1096 [.retAddr 1, .ref 0, .ref 17, .int (nI (6 * n))] [] h2 Q) : wpx d P_Lw_law 922 [.retAddr 1, .ref 0, .ref 17, .int (nI (6 * n))] [] h Q := by
  refine B_Lw_law_922 (by rw [hi.1]; exact inb 1 (by decide) h6 hL (by decide)) hi.2.1 ?_
  refine (hop _ h hI).mono ?_
  rintro r h1 ⟨v, rfl, hc1, hs1, hw⟩
  refine B_Lw_law_931 (h := h1) (by rw [hc1, hi.1]; exact inb 1 (by decide) h6 hL (by decide)) hs1 ?_
  rw [hc1]
  refine hw.mono ?_
  rintro r' h2 ⟨rfl, hI2⟩
  exact B_Lw_law_940 (h := h2) (fun _ => kk h2 hI2) (fun hne => absurd rfl hne)
theorem lc_29 {Inv : Nat → PH → Prop} {d n L : Nat} {xs : Nat → Int32} {Q : PQ} {h : PH} (hL : L ≤ 3072) (h6 : 6 * n + 6 ≤ L) (hI : Inv n h) (hi : h_sc h = (L, xs) ∧ h_sh h 0 = some (0, 11) ∧ h_sh h 17 = some (0, 12)) (hop : ∀ (a1 : Int32) (a2 : Int32) (a3 : Int32), OpI Inv d 147 269 [.int a1, .int a2, .int a3] n) (kk : ∀ h2, Inv (n + 1) h2 → wpx d P_Lw_law 1096 [.retAddr 1, .ref 0, .ref 17, .int (nI (6 * n))] [] h2 Q) : wpx d P_Lw_law 945 [.retAddr 1, .ref 0, .ref 17, .int (nI (6 * n))] [] h Q := by
  refine B_Lw_law_945 (by rw [hi.1]; exact inb 1 (by decide) h6 hL (by decide)) (by rw [hi.1]; exact inb 2 (by decide) h6 hL (by decide)) (by rw [hi.1]; exact inb 3 (by decide) h6 hL (by decide)) hi.2.1 ?_
  refine (hop _ _ _ h hI).mono ?_
  rintro r h1 ⟨v, rfl, hc1, hs1, hw⟩
  refine B_Lw_law_964 (h := h1) (by rw [hc1, hi.1]; exact inb 1 (by decide) h6 hL (by decide)) (by rw [hc1, hi.1]; exact inb 2 (by decide) h6 hL (by decide)) (by rw [hc1, hi.1]; exact inb 3 (by decide) h6 hL (by decide)) hs1 ?_
  rw [hc1]
  refine hw.mono ?_
  rintro r' h2 ⟨rfl, hI2⟩
  exact B_Lw_law_983 (h := h2) (fun _ => kk h2 hI2) (fun hne => absurd rfl hne)
theorem lc_30 {Inv : Nat → PH → Prop} {d n L : Nat} {xs : Nat → Int32} {Q : PQ} {h : PH} (hL : L ≤ 3072) (h6 : 6 * n + 6 ≤ L) (hI : Inv n h) (hi : h_sc h = (L, xs) ∧ h_sh h 0 = some (0, 11) ∧ h_sh h 17 = some (0, 12)) (hop : ∀ (a1 : Int32), OpI Inv d 148 277 [.int a1] n) (kk : ∀ h2, Inv (n + 1) h2 → wpx d P_Lw_law 1096 [.retAddr 1, .ref 0, .ref 17, .int (nI (6 * n))] [] h2 Q) : wpx d P_Lw_law 988 [.retAddr 1, .ref 0, .ref 17, .int (nI (6 * n))] [] h Q := by
  refine B_Lw_law_988 (by rw [hi.1]; exact inb 1 (by decide) h6 hL (by decide)) hi.2.1 ?_
  refine (hop _ h hI).mono ?_
  rintro r h1 ⟨v, rfl, hc1, hs1, hw⟩
  refine B_Lw_law_997 (h := h1) (by rw [hc1, hi.1]; exact inb 1 (by decide) h6 hL (by decide)) hs1 ?_
  rw [hc1]
  refine hw.mono ?_
  rintro r' h2 ⟨rfl, hI2⟩
  exact B_Lw_law_1006 (h := h2) (fun _ => kk h2 hI2) (fun hne => absurd rfl hne)
theorem lc_31 {Inv : Nat → PH → Prop} {d n L : Nat} {xs : Nat → Int32} {Q : PQ} {h : PH} (hL : L ≤ 3072) (h6 : 6 * n + 6 ≤ L) (hI : Inv n h) (hi : h_sc h = (L, xs) ∧ h_sh h 0 = some (0, 11) ∧ h_sh h 17 = some (0, 12)) (hop : ∀ (a1 : Int32), OpI Inv d 149 279 [.int a1] n) (kk : ∀ h2, Inv (n + 1) h2 → wpx d P_Lw_law 1096 [.retAddr 1, .ref 0, .ref 17, .int (nI (6 * n))] [] h2 Q) : wpx d P_Lw_law 1011 [.retAddr 1, .ref 0, .ref 17, .int (nI (6 * n))] [] h Q := by
  refine B_Lw_law_1011 (by rw [hi.1]; exact inb 1 (by decide) h6 hL (by decide)) hi.2.1 ?_
  refine (hop _ h hI).mono ?_
  rintro r h1 ⟨v, rfl, hc1, hs1, hw⟩
  refine B_Lw_law_1020 (h := h1) (by rw [hc1, hi.1]; exact inb 1 (by decide) h6 hL (by decide)) hs1 ?_
  rw [hc1]
  refine hw.mono ?_
  rintro r' h2 ⟨rfl, hI2⟩
  exact B_Lw_law_1029 (h := h2) (fun _ => kk h2 hI2) (fun hne => absurd rfl hne)
theorem lc_33 {Inv : Nat → PH → Prop} {d n L : Nat} {xs : Nat → Int32} {Q : PQ} {h : PH} (hL : L ≤ 3072) (h6 : 6 * n + 6 ≤ L) (hI : Inv n h) (hi : h_sc h = (L, xs) ∧ h_sh h 0 = some (0, 11) ∧ h_sh h 17 = some (0, 12)) (hop : OpI Inv d 151 281 [] n) (kk : ∀ h2, Inv (n + 1) h2 → wpx d P_Lw_law 1096 [.retAddr 1, .ref 0, .ref 17, .int (nI (6 * n))] [] h2 Q) : wpx d P_Lw_law 1083 [.retAddr 1, .ref 0, .ref 17, .int (nI (6 * n))] [] h Q := by
  refine B_Lw_law_1083  hi.2.1 ?_
  refine (hop  h hI).mono ?_
  rintro r h1 ⟨v, rfl, hc1, hs1, hw⟩
  refine B_Lw_law_1087 (h := h1)  hs1 ?_
  refine hw.mono ?_
  rintro r' h2 ⟨rfl, hI2⟩
  exact B_Lw_law_1091 (h := h2) (fun _ => kk h2 hI2) (fun hne => absurd rfl hne)
theorem lc_32 {Inv : Nat → PH → Prop} {d n L : Nat} {xs : Nat → Int32} {Q : PQ} {h : PH} (hL : L ≤ 3072) (h6 : 6 * n + 6 ≤ L) (hI : Inv n h) (hi : h_sc h = (L, xs) ∧ h_sh h 0 = some (0, 11) ∧ h_sh h 17 = some (0, 12)) (hop : ∀ (a1 a2 : Int32), (a2 = 0 ∨ a2 = 1) → OpI Inv d 150 280 [.int a1, .int a2] n) (kk : ∀ h2, Inv (n + 1) h2 → wpx d P_Lw_law 1096 [.retAddr 1, .ref 0, .ref 17, .int (nI (6 * n))] [] h2 Q) : wpx d P_Lw_law 1034 [.retAddr 1, .ref 0, .ref 17, .int (nI (6 * n))] [] h Q := by
  have key : ∀ b : Int32, (b = 0 ∨ b = 1) → ((h_sc h).2 (nI (6 * n) + 2).toNatClampNeg = 0 → b = 0) → (¬ (h_sc h).2 (nI (6 * n) + 2).toNatClampNeg = 0 → b = 1) → wpx d P_Lw_law 1053 [.retAddr 1, .ref 0, .ref 17, .int (nI (6 * n))] [.int b, .int ((h_sc h).2 (nI (6 * n) + 1).toNatClampNeg), .ref 0] h Q := by
    intro b hb e0 e1
    refine B_Lw_law_1053 hi.2.1 ?_
    refine (hop _ _ hb h hI).mono ?_
    rintro r h1 ⟨v, rfl, hc1, hs1, hw⟩
    have fin : wpx d P_Lw_law 1075 [.retAddr 1, .ref 0, .ref 17, .int (nI (6 * n))] [.int b, .int ((h_sc h).2 (nI (6 * n) + 1).toNatClampNeg), .ref 17, .int v] h1 Q := by
      refine B_Lw_law_1075 hs1 ?_
      refine hw.mono ?_
      rintro r' h2 ⟨rfl, hI2⟩
      exact B_Lw_law_1078 (h := h2) (fun _ => kk h2 hI2) (fun hne => absurd rfl hne)
    refine B_Lw_law_1056 (h := h1) (by rw [hc1, hi.1]; exact inb 1 (by decide) h6 hL (by decide)) (by rw [hc1, hi.1]; exact inb 2 (by decide) h6 hL (by decide)) (fun z => ?_) (fun z => ?_)
    · rw [hc1] at z ⊢
      refine B_Lw_law_1074 ?_
      rw [e0 z] at fin
      exact fin
    · rw [hc1] at z ⊢
      refine B_Lw_law_1070 ?_
      rw [e1 z] at fin
      exact fin
  refine B_Lw_law_1034 (by rw [hi.1]; exact inb 1 (by decide) h6 hL (by decide)) (by rw [hi.1]; exact inb 2 (by decide) h6 hL (by decide)) (fun z => ?_) (fun z => ?_)
  · exact B_Lw_law_1052 (key 0 (Or.inl rfl) (fun _ => rfl) (fun q => absurd z q))
  · exact B_Lw_law_1048 (key 1 (Or.inr rfl) (fun q => absurd q z) (fun _ => rfl))
/-- what each of the 34 calls must do: class and model answer alike, the invariant goes on -/
def Ops (Inv : Nat → PH → Prop) (d : Nat) : Prop := ∀ n, n < 1 → (∀ (a1 : Int32) (a2 : Int32) (a3 : Int32) (a4 : Int32) (a5 : Int32), OpI Inv d 118 178 [.int a1, .int a2, .int a3, .int a4, .int a5] n) ∧ (∀ (a1 : Int32), OpI Inv d 119 179 [.int a1] n) ∧ (OpI Inv d 120 195 [] n) ∧ (∀ (a1 : Int32), OpI Inv d 121 196 [.int a1] n) ∧ (∀ (a1 : Int32) (a2 : Int32), OpI Inv d 122 203 [.int a1, .int a2] n) ∧ (∀ (a1 : Int32), OpI Inv d 123 204 [.int a1] n) ∧ (∀ (a1 : Int32) (a2 : Int32), OpI Inv d 124 205 [.int a1, .int a2] n) ∧ (OpI Inv d 125 213 [] n) ∧ (∀ (a1 : Int32), OpI Inv d 126 214 [.int a1] n) ∧ (∀ (a1 : Int32) (a2 : Int32) (a3 : Int32), OpI Inv d 127 215 [.int a1, .int a2, .int a3] n) ∧ (OpI Inv d 128 216 [] n) ∧ (OpI Inv d 129 222 [] n) ∧ (OpI Inv d 130 223 [] n) ∧ (∀ (a1 : Int32), OpL Inv d 131 225 [.int a1] n) ∧ (OpI Inv d 132 228 [] n) ∧ (∀ (a1 : Int32), OpI Inv d 133 229 [.int a1] n) ∧ (OpL Inv d 134 230 [] n) ∧ (∀ (a1 : Int32) (a2 : Int32), OpI Inv d 135 232 [.int a1, .int a2] n) ∧ (OpI Inv d 136 233 [] n) ∧ (∀ (a1 : Int32), OpI Inv d 137 235 [.int a1] n) ∧ (∀ (a1 : Int32) (a2 : Int32), OpI Inv d 138 236 [.int a1, .int a2] n) ∧ (∀ (a1 : Int32), OpI Inv d 139 241 [.int a1] n) ∧ (OpI Inv d 140 242 [] n) ∧ (∀ (a1 : Int32) (a2 : Int32) (a3 : Int32) (a4 : Int32), OpI Inv d 141 245 [.int a1, .int a2, .int a3, .int a4] n) ∧ (∀ (a1 : Int32) (a2 : Int32), OpI Inv d 142 246 [.int a1, .int a2] n) ∧ (∀ (a1 : Int32) (a2 : Int32), OpL Inv d 143 257 [.int a1, .int a2] n) ∧ (∀ (a1 : Int32) (a2 : Int64), OpI Inv d 144 260 [.int a1, .long a2] n) ∧ (OpL Inv d 145 261 [] n) ∧ (∀ (a1 : Int32), OpI Inv d 146 268 [.int a1] n) ∧ (∀ (a1 : Int32) (a2 : Int32) (a3 : Int32), OpI Inv d 147 269 [.int a1, .int a2, .int a3] n) ∧ (∀ (a1 : Int32), OpI Inv d 148 277 [.int a1] n) ∧ (∀ (a1 : Int32), OpI Inv d 149 279 [.int a1] n) ∧ (∀ (a1 a2 : Int32), (a2 = 0 ∨ a2 = 1) → OpI Inv d 150 280 [.int a1, .int a2] n) ∧ (OpI Inv d 151 281 [] n)
theorem nI_sub6 {L n : Nat} (hL : L ≤ 3072) (hn : 6 * n ≤ 4000) (h : ¬ (Int32.ofNat L - (6 : Int32)) < nI (6 * n)) : 6 * n + 6 ≤ L := by
  by_cases h6 : 6 ≤ L
  · have e : Int32.ofNat L - (6 : Int32) = nI (L - 6) := by
      obtain ⟨m, rfl⟩ : ∃ m, L = m + 6 := ⟨L - 6, by omega⟩
      rw [Nat.add_sub_cancel]
      show nI (m + 6) - 6 = nI m
      rw [← nI_add, show (6 : Int32) = nI 6 from rfl, Int32.add_sub_cancel]
    rw [e, nI_ltI (by omega) (by omega)] at h
    omega
  · exfalso
    apply h
    have h0 : (0 : Int32) ≤ nI (6 * n) := nI_pos' (by omega)
    have h1 : (Int32.ofNat L - (6 : Int32)) < 0 := by
      rcases (show L = 0 ∨ L = 1 ∨ L = 2 ∨ L = 3 ∨ L = 4 ∨ L = 5 by omega) with rfl | rfl | rfl | rfl | rfl | rfl <;> decide
    rw [Int32.lt_iff_toInt_lt] at h1 ⊢
    rw [Int32.le_iff_toInt_le] at h0
    exact Int.lt_of_lt_of_le h1 h0
theorem law_loop {Inv : Nat → PH → Prop} {d L : Nat} {xs : Nat → Int32} {Q : PQ} (hL6 : L ≤ 6) (I1 : ∀ n h, Inv n h → h_sc h = (L, xs) ∧ h_sh h 0 = some (0, 11) ∧ h_sh h 17 = some (0, 12)) (I3 : ∀ n h, Inv n h → Inv (n + 1) h) (hops : Ops Inv d) (kQ : ∀ n h, n ≤ 1 → Inv n h → Q (some (.int 1)) h) :
    ∀ (m n : Nat), 1 - n = m → n ≤ 1 → ∀ h, Inv n h → wpx d P_Lw_law 18 [.retAddr 1, .ref 0, .ref 17, .int (nI (6 * n))] [] h Q := by
  have hL : L ≤ 3072 := by omega
  intro m
  induction m with
  | zero =>
    intro n hm hn h hI
    have hi := I1 n h hI
    refine B_Lw_law_18 (fun _ => B_Lw_law_1102 (kQ n h hn hI)) (fun hc => ?_)
    rw [hi.1] at hc
    have := nI_sub6 hL (by omega) hc
    omega
  | succ m ih =>
    intro n hm hn h hI
    have hi := I1 n h hI
    refine B_Lw_law_18 (fun _ => B_Lw_law_1102 (kQ n h hn hI)) (fun hc => ?_)
    rw [hi.1] at hc
    have h6 := nI_sub6 hL (by omega) hc
    have kk : ∀ h2, Inv (n + 1) h2 → wpx d P_Lw_law 1096 [.retAddr 1, .ref 0, .ref 17, .int (nI (6 * n))] [] h2 Q := fun h2 hI2 => by
      refine B_Lw_law_1096 ?_
      have := ih (n + 1) (by omega) (by omega) h2 hI2
      rw [show nI (6 * n) + 6 = nI (6 * (n + 1)) by rw [show (6 : Int32) = nI 6 from rfl, nI_add]; rfl]
      exact this
    obtain ⟨o0, o1, o2, o3, o4, o5, o6, o7, o8, o9, o10, o11, o12, o13, o14, o15, o16, o17, o18, o19, o20, o21, o22, o23, o24, o25, o26, o27, o28, o29, o30, o31, o32, o33⟩ := hops n (by omega)
    refine B_Lw_law_27 (lo := 0) (tg := [184, 247, 270, 283, 306, 339, 362, 395, 408, 431, 474, 487, 500, 513, 537, 550, 573, 587, 620, 633, 656, 689, 712, 725, 778, 811, 845, 908, 922, 945, 988, 1011, 1034, 1083]) (df := 1096) (by rw [hi.1]; exact vp_in_nI (by omega) (by omega)) rfl (fun _ => kk h (I3 n h hI)) (fun t hn1 ht => ?_)
    have hj : ((((h_sc h).2 (nI (6 * n)).toNatClampNeg) &&& (63 : Int32)).toInt - 0).toNat < 34 := by
      simp only [List.length_cons, List.length_nil] at hn1
      omega
    generalize ((((h_sc h).2 (nI (6 * n)).toNatClampNeg) &&& (63 : Int32)).toInt - 0).toNat = j at ht hj
    match j, hj, ht with
    | 0, _, ht => cases ht; exact lc_0 hL h6 hI hi o0 kk
    | 1, _, ht => cases ht; exact lc_1 hL h6 hI hi o1 kk
    | 2, _, ht => cases ht; exact lc_2 hL h6 hI hi o2 kk
    | 3, _, ht => cases ht; exact lc_3 hL h6 hI hi o3 kk
    | 4, _, ht => cases ht; exact lc_4 hL h6 hI hi o4 kk
    | 5, _, ht => cases ht; exact lc_5 hL h6 hI hi o5 kk
    | 6, _, ht => cases ht; exact lc_6 hL h6 hI hi o6 kk
    | 7, _, ht => cases ht; exact lc_7 hL h6 hI hi o7 kk
    | 8, _, ht => cases ht; exact lc_8 hL h6 hI hi o8 kk
    | 9, _, ht => cases ht; exact lc_9 hL h6 hI hi o9 kk
    | 10, _, ht => cases ht; exact lc_10 hL h6 hI hi o10 kk
    | 11, _, ht => cases ht; exact lc_11 hL h6 hI hi o11 kk
    | 12, _, ht => cases ht; exact lc_12 hL h6 hI hi o12 kk
    | 13, _, ht => cases ht; exact lc_13 hL h6 hI hi o13 kk
    | 14, _, ht => cases ht; exact lc_14 hL h6 hI hi o14 kk
    | 15, _, ht => cases ht; exact lc_15 hL h6 hI hi o15 kk
    | 16, _, ht => cases ht; exact lc_16 hL h6 hI hi o16 kk
    | 17, _, ht => cases ht; exact lc_17 hL h6 hI hi o17 kk
    | 18, _, ht => cases ht; exact lc_18 hL h6 hI hi o18 kk
    | 19, _, ht => cases ht; exact lc_19 hL h6 hI hi o19 kk
    | 20, _, ht => cases ht; exact lc_20 hL h6 hI hi o20 kk
    | 21, _, ht => cases ht; exact lc_21 hL h6 hI hi o21 kk
    | 22, _, ht => cases ht; exact lc_22 hL h6 hI hi o22 kk
    | 23, _, ht => cases ht; exact lc_23 hL h6 hI hi o23 kk
    | 24, _, ht => cases ht; exact lc_24 hL h6 hI hi o24 kk
    | 25, _, ht => cases ht; exact lc_25 hL h6 hI hi o25 kk
    | 26, _, ht => cases ht; exact lc_26 hL h6 hI hi o26 kk
    | 27, _, ht => cases ht; exact lc_27 hL h6 hI hi o27 kk
    | 28, _, ht => cases ht; exact lc_28 hL h6 hI hi o28 kk
    | 29, _, ht => cases ht; exact lc_29 hL h6 hI hi o29 kk
    | 30, _, ht => cases ht; exact lc_30 hL h6 hI hi o30 kk
    | 31, _, ht => cases ht; exact lc_31 hL h6 hI hi o31 kk
    | 32, _, ht => cases ht; exact lc_32 hL h6 hI hi o32 kk
    | 33, _, ht => cases ht; exact lc_33 hL h6 hI hi o33 kk
    | j + 34, hj, _ => omega

