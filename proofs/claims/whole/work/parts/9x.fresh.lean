/-! tails on the class's side: kept till the table changes; parts, tails, tail, doubt -/
def allR (gs : List (List Nat)) (m : Nat) : List TL × Option (Nat × Nat) := rnds gs m false 98 [] (fsA gs m gs.length 0 []) none 1
/-- a number of the table that was kept: none, or one of those up to now -/
def SB (v : Int32) (t : Nat) : Prop := v = -1 ∨ ∃ t', t' ≤ t ∧ v = nI t'
def CTz (h : PH) (gs : List (List Nat)) (m : Nat) : Prop := ∀ c, h_r h 0 6 = some c → TaS h c ∧ (h_i h c 8 = h_i h 2 6 → CTs h c (allR gs m)) ∧ ∀ t, h_i h 2 6 = nI t → SB (h_i h c 8) t
theorem ow_freshTails {d : Nat} {h : PH} {Q : PQ} {gs : List (List Nat)} {m t : Nat} (hO : OwS h) (hc : 63 ≤ h_ct h) (hz : CTz h gs m) (hg : CGr h 2 gs m) (ht : t < 2 ^ 31) (hst : h_i h 2 6 = nI t) (k : ∀ c h', Gw (Wlz 6 7 h) h h' → h_r h' 0 6 = some c → TaS h' c → CTs h' c (allR gs m) → h_i h' c 8 = h_i h' 2 6 → (h_r h 0 6 = none → h_ct h ≤ c) → Q (some (.ref c)) h') : wpm (d + 6) 153 [.ref 0] h Q := by
  refine wpm_in P_Ow_freshTails rfl (by decide) (by show ¬ 1 < 1; decide) ?_
  have at18 : ∀ c g, Gw (fun _ _ => False) h g → h_r g 0 6 = some c → TaS g c → (h_i g c 8 = h_i g 2 6 → CTs g c (allR gs m)) → (∀ c', h_r h 0 6 = some c' → c' = c) → (h_r h 0 6 = none → c = h_ct h) → wpx (d + 5) P_Ow_freshTails 18 [.ref 0] [] g Q := fun c g hG hr hT hs e1 e2 => by
    have hO1 := hG.ow hc hO
    have hg1 : CGr g 2 gs m := hg.gw hG (by omega) (fun _ _ z => z.elim)
    have hc63 : 63 ≤ c := hT.2.2.2.2.2.2.2.2.1
    have fin : ∀ {W : Nat → Nat → Prop} {h' : PH}, Fr W g h' → (∀ x k, W x k → c ≤ x ∧ x ≤ c + 7) → Gw (Wlz 6 7 h) h h' := fun {W h'} hf hw =>
      (hG.lz (f := 6) (n := 7) (c := c) (W := fun _ _ => False) (hf.gw.up (fun x k z => Or.inl (hw x k z))) e1 e2).up (fun x k z => z.elim id False.elim)
    refine B_Ow_freshTails_18 hO1.1 hr hT.1 (or_groups hO1) (os_groups hO1) (fun z => B_Ow_freshTails_47 hO1.1 hr (k c g (fin (Fr.rf (fun _ _ => False) g) (fun _ _ y => y.elim)) hr hT (hs z) z (fun e => Nat.le_of_eq (e2 e).symm))) (fun _ => B_Ow_freshTails_35 hO1.1 hr (or_groups hO1) hT.1 ?_)
    have key := ta_build (d := d) (Q := fun r h' => wpx (d + 5) P_Ow_freshTails 47 [.ref 0] (r.toList ++ []) h' Q) (only := false) hT (GrS_2 hO1) (by omega) hg1 (fun g2 c2 e8 f2 => by
      have hr2 : h_r g2 0 6 = some c := by rw [f2.2.1]; exact hr
      refine B_Ow_freshTails_47 (f2.ow hO1).1 hr2 (k c g2 (fin f2 (fun x k z => by unfold WtB at z; omega)) hr2 (hT.fr f2) c2 ?_ (fun e => Nat.le_of_eq (e2 e).symm))
      rw [e8, f2.i _ _ (by unfold WtB; omega)])
    exact key
  refine B_Ow_freshTails_0 hO.1 (fun a ha => at18 a h (Fr.rf _ _).gw ha (hz a ha).1 (hz a ha).2.1 (fun c' e => Option.some.inj (e.symm.trans ha)) (fun e => by rw [e] at ha; cases ha)) (fun hn => B_Ow_freshTails_7 (i_Ta_init (Nat.lt_succ_self _) (sh_new_eq _ _ _) ?_))
  have hG := gw_list (f := 6) (ci := 6) (L := L_Ta_init) (by decide) (by decide) hn (by omega) rfl
  have a0 := mkO_arr [] 0 (4, 98) [(1, .inl (1, 98)), (2, .inl (1, 98)), (4, .inl (1, 100)), (6, .inr (-1)), (8, .inr (-1)), (9, .inl (1, 98)), (10, .inl (1, 1372)), (11, .inl (1, 1372))] (h_new h (0, 6) (fN 6)) (o := h_ct h) (Nat.lt_succ_self _) (by decide)
  have a1 := mkO_arr [(0, .inl (4, 98))] 1 (1, 98) [(2, .inl (1, 98)), (4, .inl (1, 100)), (6, .inr (-1)), (8, .inr (-1)), (9, .inl (1, 98)), (10, .inl (1, 1372)), (11, .inl (1, 1372))] (h_new h (0, 6) (fN 6)) (o := h_ct h) (Nat.lt_succ_self _) (by decide)
  have a2 := mkO_arr [(0, .inl (4, 98)), (1, .inl (1, 98))] 2 (1, 98) [(4, .inl (1, 100)), (6, .inr (-1)), (8, .inr (-1)), (9, .inl (1, 98)), (10, .inl (1, 1372)), (11, .inl (1, 1372))] (h_new h (0, 6) (fN 6)) (o := h_ct h) (Nat.lt_succ_self _) (by decide)
  have a4 := mkO_arr [(0, .inl (4, 98)), (1, .inl (1, 98)), (2, .inl (1, 98))] 4 (1, 100) [(6, .inr (-1)), (8, .inr (-1)), (9, .inl (1, 98)), (10, .inl (1, 1372)), (11, .inl (1, 1372))] (h_new h (0, 6) (fN 6)) (o := h_ct h) (Nat.lt_succ_self _) (by decide)
  have a8 := mkO_num [(0, .inl (4, 98)), (1, .inl (1, 98)), (2, .inl (1, 98)), (4, .inl (1, 100)), (6, .inr (-1))] 8 (-1) [(9, .inl (1, 98)), (10, .inl (1, 1372)), (11, .inl (1, 1372))] (h_new h (0, 6) (fN 6)) (o := h_ct h) (Nat.lt_succ_self _) (by decide)
  have a9 := mkO_arr [(0, .inl (4, 98)), (1, .inl (1, 98)), (2, .inl (1, 98)), (4, .inl (1, 100)), (6, .inr (-1)), (8, .inr (-1))] 9 (1, 98) [(10, .inl (1, 1372)), (11, .inl (1, 1372))] (h_new h (0, 6) (fN 6)) (o := h_ct h) (Nat.lt_succ_self _) (by decide)
  have a10 := mkO_arr [(0, .inl (4, 98)), (1, .inl (1, 98)), (2, .inl (1, 98)), (4, .inl (1, 100)), (6, .inr (-1)), (8, .inr (-1)), (9, .inl (1, 98))] 10 (1, 1372) [(11, .inl (1, 1372))] (h_new h (0, 6) (fN 6)) (o := h_ct h) (Nat.lt_succ_self _) (by decide)
  have a11 := mkO_arr [(0, .inl (4, 98)), (1, .inl (1, 98)), (2, .inl (1, 98)), (4, .inl (1, 100)), (6, .inr (-1)), (8, .inr (-1)), (9, .inl (1, 98)), (10, .inl (1, 1372))] 11 (1, 1372) [] (h_new h (0, 6) (fN 6)) (o := h_ct h) (Nat.lt_succ_self _) (by decide)
  have hs : h_sh (mkO (h_new h (0, 6) (fN 6)) (h_ct h) L_Ta_init) (h_ct h) = some (0, 6) := (sh_mkO (Nat.lt_succ_self _)).trans (sh_new_eq _ _ _)
  have hct : h_ct (mkO (h_new h (0, 6) (fN 6)) (h_ct h) L_Ta_init) = h_ct h + 1 + 7 := mkO_ct _ _ _
  have wr : ∀ x k, x ≠ 0 → h_r (w_r (mkO (h_new h (0, 6) (fN 6)) (h_ct h) L_Ta_init) 0 6 (some (h_ct h))) x k = h_r (mkO (h_new h (0, 6) (fN 6)) (h_ct h) L_Ta_init) x k := fun x k hx => by rw [h_r_wr, if_neg (fun z => hx z.1)]
  have hs0 : h_sh (mkO (h_new h (0, 6) (fN 6)) (h_ct h) L_Ta_init) 0 = some (0, 11) := (lz_sh (by omega)).trans hO.1
  refine B_Ow_freshTails_15 hs0 (at18 _ _ hG (by rw [h_r_wr, if_pos ⟨rfl, rfl⟩]) ⟨hs, ⟨(wr _ _ (by omega)).trans a0.1, a0.2.1⟩, ⟨(wr _ _ (by omega)).trans a1.1, a1.2.1⟩, ⟨(wr _ _ (by omega)).trans a2.1, a2.2.1⟩, ⟨(wr _ _ (by omega)).trans a4.1, a4.2.1⟩, ⟨(wr _ _ (by omega)).trans a9.1, a9.2.1⟩, ⟨(wr _ _ (by omega)).trans a10.1, a10.2.1⟩, ⟨(wr _ _ (by omega)).trans a11.1, a11.2.1⟩, hc, ?_⟩ (fun z => ?_) (fun c' e => by rw [hn] at e; cases e) (fun _ => rfl))
  · show _ < h_ct (mkO (h_new h (0, 6) (fN 6)) (h_ct h) L_Ta_init)
    omega
  · have e2 : h_i (w_r (mkO (h_new h (0, 6) (fN 6)) (h_ct h) L_Ta_init) 0 6 (some (h_ct h))) 2 6 = nI t := (hG.i (by omega) (fun y => y)).trans hst
    have e8 : h_i (w_r (mkO (h_new h (0, 6) (fN 6)) (h_ct h) L_Ta_init) 0 6 (some (h_ct h))) (h_ct h) 8 = -1 := a8
    rw [e2, e8] at z
    exact absurd z.symm (nI_neg1 ht)
def ptR (R : List TL × Option (Nat × Nat)) : Int32 := match R.2 with | none => 1 | some _ => 0
def dbR (R : List TL × Option (Nat × Nat)) : Int32 := match R.2 with | none => -1 | some y => nI y.1
def szR (RL : List TL) (x : Int32) : Int32 := if x < 1 ∨ nI RL.length < x then 0 else nI (RL.getD (x.toNatClampNeg - 1) []).length
def tlsR (R : List TL × Option (Nat × Nat)) (x : Int32) : Int32 := if x = -1 then nI R.1.length else szR R.1 x
def tlR (R : List TL × Option (Nat × Nat)) (x y i : Int32) : Int32 := if y < 0 ∨ szR R.1 x ≤ y then -1 else shw (((R.1.getD (x.toNatClampNeg - 1) []).getD y.toNatClampNeg ([], 0)).1) i
theorem takF : ∀ (RL : List TL) (j : Nat) (B : TL), RL[j]? = some B → (RL.take (j + 1)).flatten.length = (RL.take j).flatten.length + B.length ∧ ∀ (y : Nat) (t : List Nat × Nat), B[y]? = some t → RL.flatten[(RL.take j).flatten.length + y]? = some t
  | [], j, B, h => by cases h
  | C :: RL, 0, B, h => by
    have : C = B := Option.some.inj h
    subst this
    refine ⟨?_, fun y t ht => ?_⟩
    · show (C ++ (RL.take 0).flatten).length = 0 + C.length
      rw [List.take_zero, Nat.zero_add]
      show (C ++ []).length = _
      rw [List.append_nil]
    · show (C ++ RL.flatten)[0 + y]? = _
      rw [Nat.zero_add, List.getElem?_append_left (List.getElem?_eq_some_iff.mp ht).1]
      exact ht
  | C :: RL, j + 1, B, h => by
    obtain ⟨h1, h2⟩ := takF RL j B h
    refine ⟨?_, fun y t ht => ?_⟩
    · show (C ++ (RL.take (j + 1)).flatten).length = (C ++ (RL.take j).flatten).length + _
      rw [List.length_append, List.length_append, h1, Nat.add_assoc]
    · show (C ++ RL.flatten)[(C ++ (RL.take j).flatten).length + y]? = _
      rw [List.length_append, List.getElem?_append_right (by omega), show C.length + (RL.take j).flatten.length + y - C.length = (RL.take j).flatten.length + y by omega]
      exact h2 y t ht
theorem i1_pos {x : Int32} (h : ¬ x < (1 : Int32)) : ∃ n, n < 2 ^ 31 ∧ 1 ≤ n ∧ x = nI n := by
  obtain ⟨n, hn, rfl⟩ := nI_of (x := x) (fun y => h (Int32.lt_trans y (by decide)))
  rw [show (1 : Int32) = nI 1 from rfl, nI_ltI (by omega) (by omega)] at h
  exact ⟨n, hn, by omega, rfl⟩
theorem ta_sizeOf {d : Nat} {h : PH} {Q : PQ} {b : Nat} {R : List TL × Option (Nat × Nat)} {x : Int32} (hT : TaS h b) (hc : CTs h b R) (k : Q (some (.int (szR R.1 x))) h) : wpm (d + 1) 76 [.ref b, .int x] h Q := by
  refine wpm_in P_Ta_sizeOf rfl (by decide) (by show ¬ 2 < 2; decide) ?_
  have hl := hc.2.2.2.2
  unfold szR at k
  by_cases hx : x < 1 ∨ nI R.1.length < x
  · rw [if_pos hx] at k
    refine B_Ta_sizeOf_0 (fun _ => B_Ta_sizeOf_13 (B_Ta_sizeOf_32 k)) (fun z => B_Ta_sizeOf_5 hT.1 (fun y => ?_) (fun _ => B_Ta_sizeOf_13 (B_Ta_sizeOf_32 k)))
    rw [hc.2.1] at y
    rcases hx with w | w
    · exact absurd w z
    · exact absurd w (Int32.not_lt.mpr y)
  · rw [if_neg hx] at k
    have h1 : ¬ x < 1 := fun z => hx (Or.inl z)
    have h2 : ¬ nI R.1.length < x := fun z => hx (Or.inr z)
    refine B_Ta_sizeOf_0 (fun z => absurd z h1) (fun _ => B_Ta_sizeOf_5 hT.1 (fun _ => ?_) (fun y => absurd (Int32.not_lt.mp h2) (by rw [hc.2.1] at y; exact y)))
    obtain ⟨n, hn, n1, rfl⟩ := i1_pos h1
    rw [nI_ltI (by omega) hn] at h2
    have v0 : vp_in (nI n) 100 := vp_in_nI (by omega) (by omega)
    have v1 : vp_in (nI n + (1 : Int32)) 100 := by
      rw [nI_1]
      exact vp_in_nI (by omega) (by omega)
    refine B_Ta_sizeOf_17 hT.1 hT.2.2.2.2.1.1 hT.2.2.2.2.1.2 v1 v0 ?_
    have gB : R.1[n - 1]? = some R.1[n - 1] := List.getElem?_eq_getElem (by omega)
    have hsum := (takF R.1 (n - 1) _ gB).1
    have s1 := hc.2.2.2.1 n (by omega)
    have s0 := hc.2.2.2.1 (n - 1) (by omega)
    rw [show n - 1 + 1 = n by omega] at hsum s0
    rw [nI_1, nI_clamp (by omega), nI_clamp (by omega), s1, s0, nI_subN (by omega), hsum]
    rw [nI_clamp (by omega), List.getD_eq_getElem?_getD, gB] at k
    rw [Nat.add_sub_cancel_left]
    exact B_Ta_sizeOf_32 k
theorem ta_indexOf {d : Nat} {h : PH} {Q : PQ} {b : Nat} {R : List TL × Option (Nat × Nat)} {x y : Int32} (hT : TaS h b) (hc : CTs h b R) (k1 : (y < 0 ∨ szR R.1 x ≤ y) → Q (some (.int (-1))) h) (k2 : ∀ n j, ¬ (y < 0 ∨ szR R.1 x ≤ y) → x = nI n → 1 ≤ n → n ≤ R.1.length → y = nI j → j < (R.1.getD (n - 1) []).length → Q (some (.int (nI ((R.1.take (n - 1)).flatten.length + j)))) h) : wpm (d + 2) 77 [.ref b, .int x, .int y] h Q := by
  refine wpm_in P_Ta_indexOf rfl (by decide) (by show ¬ 3 < 3; decide) ?_
  have hl := hc.2.2.2.2
  by_cases hy : y < 0
  · exact B_Ta_indexOf_0 (fun _ => B_Ta_indexOf_13 (B_Ta_indexOf_25 (k1 (Or.inl hy)))) (fun z => absurd hy z)
  · refine B_Ta_indexOf_0 (fun z => absurd z hy) (fun _ => B_Ta_indexOf_4 hT.1 (ta_sizeOf hT hc (B_Ta_indexOf_10 (fun z => ?_) (fun z => B_Ta_indexOf_13 (B_Ta_indexOf_25 (k1 (Or.inr (Int32.not_lt.mp z))))))))
    have hno : ¬ (y < 0 ∨ szR R.1 x ≤ y) := fun w => w.elim hy (fun u => absurd z (Int32.not_lt.mpr u))
    have hx : ¬ (x < 1 ∨ nI R.1.length < x) := fun w => by
      have : szR R.1 x = 0 := if_pos w
      rw [this] at z
      exact hy z
    have z' : y < nI (R.1.getD (x.toNatClampNeg - 1) []).length := by
      have : szR R.1 x = nI (R.1.getD (x.toNatClampNeg - 1) []).length := if_neg hx
      rw [← this]
      exact z
    obtain ⟨n, hn, n1, rfl⟩ := i1_pos (fun w => hx (Or.inl w))
    obtain ⟨j, hj, rfl⟩ := nI_of hy
    have h2 : ¬ nI R.1.length < nI n := fun w => hx (Or.inr w)
    rw [nI_ltI (by omega) hn] at h2
    rw [nI_clamp (by omega)] at z'
    have gB : R.1[n - 1]? = some R.1[n - 1] := List.getElem?_eq_getElem (by omega)
    have hsum := (takF R.1 (n - 1) _ gB).1
    have hB : R.1.getD (n - 1) [] = R.1[n - 1] := by rw [List.getD_eq_getElem?_getD, gB]; rfl
    have tot : R.1[n - 1].length ≤ 98 := by
      have h98 := hc.1.1.1
      by_cases e : R.1[n - 1].length = 0
      · omega
      · have hg := List.getElem?_eq_getElem (show R.1[n - 1].length - 1 < R.1[n - 1].length by omega)
        have := (List.getElem?_eq_some_iff.mp ((takF R.1 (n - 1) _ gB).2 _ _ hg)).1
        omega
    rw [hB, nI_ltI hj (by omega)] at z'
    have v0 : vp_in (nI n) 100 := vp_in_nI (by omega) (by omega)
    have s0 := hc.2.2.2.1 (n - 1) (by omega)
    rw [show n - 1 + 1 = n by omega] at s0
    refine B_Ta_indexOf_17 hT.1 hT.2.2.2.2.1.1 hT.2.2.2.2.1.2 v0 ?_
    rw [nI_clamp (by omega), s0, nI_add]
    exact B_Ta_indexOf_25 (k2 n j hno rfl n1 (by omega) rfl (by rw [hB]; exact z'))
theorem ow_parts {d : Nat} {h : PH} {Q : PQ} {gs : List (List Nat)} {m t : Nat} (hO : OwS h) (hc : 63 ≤ h_ct h) (hz : CTz h gs m) (hg : CGr h 2 gs m) (ht : t < 2 ^ 31) (hst : h_i h 2 6 = nI t) (k : ∀ h', Gw (Wlz 6 7 h) h h' → CTz h' gs m → Q (some (.int (ptR (allR gs m)))) h') : wpm (d + 7) 125 [.ref 0] h Q := by
  refine wpm_in P_Ow_parts rfl (by decide) (by show ¬ 1 < 1; decide) (B_Ow_parts_0 hO.1 (ow_freshTails hO hc hz hg ht hst (fun c h' hG hr hT hs h8 _ => ?_)))
  have kz := k h' hG (fun c' e => by
    rw [hr] at e
    cases e
    exact ⟨hT, fun _ => hs, fun _ ht => Or.inr ⟨_, Nat.le_refl _, h8.trans ht⟩⟩)
  have hd := hs.2.2.1
  unfold ptR at kz
  cases he : (allR gs m).2 with
  | none =>
    rw [he] at hd kz
    exact B_Ow_parts_4 hT.1 (fun z => absurd hd.1 z) (fun _ => B_Ow_parts_11 (B_Ow_parts_16 kz))
  | some y =>
    rw [he] at hd kz
    refine B_Ow_parts_4 hT.1 (fun _ => B_Ow_parts_15 (B_Ow_parts_16 kz)) (fun z => absurd z ?_)
    have hd1 : h_i h' c 6 = nI y.1 := hd.1
    rw [hd1]
    exact nI_neg1 (by have : y.1 < 99 := hd.2.2; omega)
theorem ow_doubt {d : Nat} {h : PH} {Q : PQ} {gs : List (List Nat)} {m t : Nat} (hO : OwS h) (hc : 63 ≤ h_ct h) (hz : CTz h gs m) (hg : CGr h 2 gs m) (ht : t < 2 ^ 31) (hst : h_i h 2 6 = nI t) (k : ∀ h', Gw (Wlz 6 7 h) h h' → CTz h' gs m → Q (some (.int (dbR (allR gs m)))) h') : wpm (d + 7) 128 [.ref 0] h Q := by
  refine wpm_in P_Ow_doubt rfl (by decide) (by show ¬ 1 < 1; decide) (B_Ow_doubt_0 hO.1 (ow_freshTails hO hc hz hg ht hst (fun c h' hG hr hT hs h8 _ => B_Ow_doubt_4 hT.1 ?_)))
  have kz := k h' hG (fun c' e => by
    rw [hr] at e
    cases e
    exact ⟨hT, fun _ => hs, fun _ ht => Or.inr ⟨_, Nat.le_refl _, h8.trans ht⟩⟩)
  have hd := hs.2.2.1
  unfold dbR at kz
  cases he : (allR gs m).2 with
  | none =>
    rw [he] at hd kz
    have hd1 : h_i h' c 6 = -1 := hd.1
    rw [hd1]
    exact kz
  | some y =>
    rw [he] at hd kz
    have hd1 : h_i h' c 6 = nI y.1 := hd.1
    rw [hd1]
    exact kz
theorem ow_tails {d : Nat} {h : PH} {Q : PQ} {gs : List (List Nat)} {m t : Nat} {x : Int32} (hO : OwS h) (hc : 63 ≤ h_ct h) (hz : CTz h gs m) (hg : CGr h 2 gs m) (ht : t < 2 ^ 31) (hst : h_i h 2 6 = nI t) (k : ∀ h', Gw (Wlz 6 7 h) h h' → CTz h' gs m → Q (some (.int (tlsR (allR gs m) x))) h') : wpm (d + 7) 126 [.ref 0, .int x] h Q := by
  refine wpm_in P_Ow_tails rfl (by decide) (by show ¬ 3 < 2; decide) (B_Ow_tails_0 hO.1 (ow_freshTails hO hc hz hg ht hst (fun c h' hG hr hT hs h8 _ => ?_)))
  have kz := k h' hG (fun c' e => by
    rw [hr] at e
    cases e
    exact ⟨hT, fun _ => hs, fun _ ht => Or.inr ⟨_, Nat.le_refl _, h8.trans ht⟩⟩)
  unfold tlsR at kz
  refine B_Ow_tails_4 (fun z => B_Ow_tails_17 hT.1 (ta_sizeOf hT hs (B_Ow_tails_22 ?_))) (fun z => B_Ow_tails_10 hT.1 (B_Ow_tails_22 ?_))
  · rw [if_neg z] at kz
    exact kz
  · rw [if_pos z] at kz
    rw [hs.2.1]
    exact kz
theorem ow_tail {d : Nat} {h : PH} {Q : PQ} {gs : List (List Nat)} {m t : Nat} {x y i : Int32} (hO : OwS h) (hc : 63 ≤ h_ct h) (hz : CTz h gs m) (hg : CGr h 2 gs m) (ht : t < 2 ^ 31) (hst : h_i h 2 6 = nI t) (k : ∀ h', Gw (Wlz 6 7 h) h h' → CTz h' gs m → Q (some (.int (tlR (allR gs m) x y i))) h') : wpm (d + 7) 127 [.ref 0, .int x, .int y, .int i] h Q := by
  refine wpm_in P_Ow_tail rfl (by decide) (by show ¬ 6 < 4; decide) (B_Ow_tail_0 hO.1 (ow_freshTails hO hc hz hg ht hst (fun c h' hG hr hT hs h8 _ => ?_)))
  have kz := k h' hG (fun c' e => by
    rw [hr] at e
    cases e
    exact ⟨hT, fun _ => hs, fun _ ht => Or.inr ⟨_, Nat.le_refl _, h8.trans ht⟩⟩)
  unfold tlR at kz
  refine B_Ow_tail_4 hT.1 (ta_indexOf hT hs (fun z => ?_) (fun n j hno ex n1 n2 ey hj => ?_))
  · rw [if_pos z] at kz
    exact B_Ow_tail_13 (fun w => absurd rfl w) (fun _ => B_Ow_tail_21 (B_Ow_tail_45 kz))
  · rw [if_neg hno, ex, ey, nI_clamp (by have := hs.2.2.2.2; omega)] at kz
    have gB : (allR gs m).1[n - 1]? = some (allR gs m).1[n - 1] := List.getElem?_eq_getElem (by omega)
    have hB : (allR gs m).1.getD (n - 1) [] = (allR gs m).1[n - 1] := by rw [List.getD_eq_getElem?_getD, gB]; rfl
    rw [hB] at hj kz
    have gj : (allR gs m).1[n - 1][j]? = some (allR gs m).1[n - 1][j] := List.getElem?_eq_getElem hj
    have ga := (takF _ _ _ gB).2 j _ gj
    obtain ⟨t1, t2, t3, t4⟩ := hs.1.1.at ga
    obtain ⟨x1, x2, x3⟩ := hs.1.2.2 _ _ ga
    have va : vp_in (nI (((allR gs m).1.take (n - 1)).flatten.length + j)) 98 := vp_in_nI t4 (by omega)
    have hjj : j < 98 := by omega
    rw [nI_clamp (by omega), List.getD_eq_getElem?_getD, gj] at kz
    refine B_Ow_tail_13 (fun _ => B_Ow_tail_25 hT.1 hT.2.1.1 hT.2.1.2 va hT.2.2.1.1 hT.2.2.1.2 va ?_) (fun w => absurd w (nI_neg1 (by omega)))
    rw [nI_clamp (by omega), x1, x2]
    exact ow_shown t1 (B_Ow_tail_45 kz)
