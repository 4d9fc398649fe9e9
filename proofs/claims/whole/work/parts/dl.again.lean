/-! calls that may make a row of tails or of cures: told again, with where it is made -/
theorem ow_parts6 {d : Nat} {h : PH} {Q : PQ} {gs : List (List Nat)} {m t : Nat} (hO : OwS h) (hc : 63 ≤ h_ct h) (hz : CTz h gs m) (hg : CGr h 2 gs m) (ht : t < 2 ^ 31) (hst : h_i h 2 6 = nI t) (k : ∀ h', Gw (Wlz 6 7 h) h h' → CTz h' gs m → (h_r h 0 6 = none → ∀ c, h_r h' 0 6 = some c → h_ct h ≤ c) → Q (some (.int (ptR (allR gs m)))) h') : wpm (d + 7) 125 [.ref 0] h Q := by
  refine wpm_in P_Ow_parts rfl (by decide) (by show ¬ 1 < 1; decide) (B_Ow_parts_0 hO.1 (ow_freshTails hO hc hz hg ht hst (fun c h' hG hr hT hs h8 hn => ?_)))
  have kz := k h' hG (fun c' e => by
    rw [hr] at e
    cases e
    exact ⟨hT, fun _ => hs, fun _ ht => Or.inr ⟨_, Nat.le_refl _, h8.trans ht⟩⟩) (fun e c' e' => by
    rw [hr] at e'
    cases e'
    exact hn e)
  have hd := hs.2.2.1
  unfold ptR at kz
  cases he : (allR gs m).2 with
  | none =>
    rw [he] at hd kz
    exact B_Ow_parts_4 hT.1 (fun z => absurd hd.1 z) (fun _ => B_Ow_parts_11 (B_Ow_parts_16 kz))
  | some y =>
    rw [he] at hd kz
    refine B_Ow_parts_4 hT.1 (fun _ => B_Ow_parts_15 (B_Ow_parts_16 kz)) (fun z => absurd z ?_)
    have hd1 : h_i h' c 6 = nI y.1 := hd.1
    rw [hd1]
    exact nI_neg1 (by have : y.1 < 99 := hd.2.2; omega)
theorem ow_doubt6 {d : Nat} {h : PH} {Q : PQ} {gs : List (List Nat)} {m t : Nat} (hO : OwS h) (hc : 63 ≤ h_ct h) (hz : CTz h gs m) (hg : CGr h 2 gs m) (ht : t < 2 ^ 31) (hst : h_i h 2 6 = nI t) (k : ∀ h', Gw (Wlz 6 7 h) h h' → CTz h' gs m → (h_r h 0 6 = none → ∀ c, h_r h' 0 6 = some c → h_ct h ≤ c) → Q (some (.int (dbR (allR gs m)))) h') : wpm (d + 7) 128 [.ref 0] h Q := by
  refine wpm_in P_Ow_doubt rfl (by decide) (by show ¬ 1 < 1; decide) (B_Ow_doubt_0 hO.1 (ow_freshTails hO hc hz hg ht hst (fun c h' hG hr hT hs h8 hn => B_Ow_doubt_4 hT.1 ?_)))
  have kz := k h' hG (fun c' e => by
    rw [hr] at e
    cases e
    exact ⟨hT, fun _ => hs, fun _ ht => Or.inr ⟨_, Nat.le_refl _, h8.trans ht⟩⟩) (fun e c' e' => by
    rw [hr] at e'
    cases e'
    exact hn e)
  have hd := hs.2.2.1
  unfold dbR at kz
  cases he : (allR gs m).2 with
  | none =>
    rw [he] at hd kz
    have hd1 : h_i h' c 6 = -1 := hd.1
    rw [hd1]
    exact kz
  | some y =>
    rw [he] at hd kz
    have hd1 : h_i h' c 6 = nI y.1 := hd.1
    rw [hd1]
    exact kz
theorem ow_tails6 {d : Nat} {h : PH} {Q : PQ} {gs : List (List Nat)} {m t : Nat} {x : Int32} (hO : OwS h) (hc : 63 ≤ h_ct h) (hz : CTz h gs m) (hg : CGr h 2 gs m) (ht : t < 2 ^ 31) (hst : h_i h 2 6 = nI t) (k : ∀ h', Gw (Wlz 6 7 h) h h' → CTz h' gs m → (h_r h 0 6 = none → ∀ c, h_r h' 0 6 = some c → h_ct h ≤ c) → Q (some (.int (tlsR (allR gs m) x))) h') : wpm (d + 7) 126 [.ref 0, .int x] h Q := by
  refine wpm_in P_Ow_tails rfl (by decide) (by show ¬ 3 < 2; decide) (B_Ow_tails_0 hO.1 (ow_freshTails hO hc hz hg ht hst (fun c h' hG hr hT hs h8 hn => ?_)))
  have kz := k h' hG (fun c' e => by
    rw [hr] at e
    cases e
    exact ⟨hT, fun _ => hs, fun _ ht => Or.inr ⟨_, Nat.le_refl _, h8.trans ht⟩⟩) (fun e c' e' => by
    rw [hr] at e'
    cases e'
    exact hn e)
  unfold tlsR at kz
  refine B_Ow_tails_4 (fun z => B_Ow_tails_17 hT.1 (ta_sizeOf hT hs (B_Ow_tails_22 ?_))) (fun z => B_Ow_tails_10 hT.1 (B_Ow_tails_22 ?_))
  · rw [if_neg z] at kz
    exact kz
  · rw [if_pos z] at kz
    rw [hs.2.1]
    exact kz
theorem ow_tail6 {d : Nat} {h : PH} {Q : PQ} {gs : List (List Nat)} {m t : Nat} {x y i : Int32} (hO : OwS h) (hc : 63 ≤ h_ct h) (hz : CTz h gs m) (hg : CGr h 2 gs m) (ht : t < 2 ^ 31) (hst : h_i h 2 6 = nI t) (k : ∀ h', Gw (Wlz 6 7 h) h h' → CTz h' gs m → (h_r h 0 6 = none → ∀ c, h_r h' 0 6 = some c → h_ct h ≤ c) → Q (some (.int (tlR (allR gs m) x y i))) h') : wpm (d + 7) 127 [.ref 0, .int x, .int y, .int i] h Q := by
  refine wpm_in P_Ow_tail rfl (by decide) (by show ¬ 6 < 4; decide) (B_Ow_tail_0 hO.1 (ow_freshTails hO hc hz hg ht hst (fun c h' hG hr hT hs h8 hn => ?_)))
  have kz := k h' hG (fun c' e => by
    rw [hr] at e
    cases e
    exact ⟨hT, fun _ => hs, fun _ ht => Or.inr ⟨_, Nat.le_refl _, h8.trans ht⟩⟩) (fun e c' e' => by
    rw [hr] at e'
    cases e'
    exact hn e)
  unfold tlR at kz
  refine B_Ow_tail_4 hT.1 (ta_indexOf hT hs (fun z => ?_) (fun n j hno ex n1 n2 ey hj => ?_))
  · rw [if_pos z] at kz
    exact B_Ow_tail_13 (fun w => absurd rfl w) (fun _ => B_Ow_tail_21 (B_Ow_tail_45 kz))
  · rw [if_neg hno, ex, ey, nI_clamp (by have := hs.2.2.2.2; omega)] at kz
    have gB : (allR gs m).1[n - 1]? = some (allR gs m).1[n - 1] := List.getElem?_eq_getElem (by omega)
    have hB : (allR gs m).1.getD (n - 1) [] = (allR gs m).1[n - 1] := by rw [List.getD_eq_getElem?_getD, gB]; rfl
    rw [hB] at hj kz
    have gj : (allR gs m).1[n - 1][j]? = some (allR gs m).1[n - 1][j] := List.getElem?_eq_getElem hj
    have ga := (takF _ _ _ gB).2 j _ gj
    obtain ⟨t1, t2, t3, t4⟩ := hs.1.1.at ga
    obtain ⟨x1, x2, x3⟩ := hs.1.2.2 _ _ ga
    have va : vp_in (nI (((allR gs m).1.take (n - 1)).flatten.length + j)) 98 := vp_in_nI t4 (by omega)
    have hjj : j < 98 := by omega
    rw [nI_clamp (by omega), List.getD_eq_getElem?_getD, gj] at kz
    refine B_Ow_tail_13 (fun _ => B_Ow_tail_25 hT.1 hT.2.1.1 hT.2.1.2 va hT.2.2.1.1 hT.2.2.1.2 va ?_) (fun w => absurd w (nI_neg1 (by omega)))
    rw [nI_clamp (by omega), x1, x2]
    exact ow_shown t1 (B_Ow_tail_45 kz)
theorem ow_look6 {d : Nat} {h : PH} {Q : PQ} {gs : List (List Nat)} {m t : Nat} (hO : OwS h) (hc : 63 ≤ h_ct h) (hz : CTz h gs m) (hg : CGr h 2 gs m) (hu : unlk gs) (ht : t < 2 ^ 31) (hst : h_i h 2 6 = nI t) (k : ∀ h', Gw (Wlz 6 7 h) h h' → CTz h' gs m → (h_r h 0 6 = none → ∀ c, h_r h' 0 6 = some c → h_ct h ≤ c) → Q (some (.int (lookR gs m))) h') : wpm (d + 7) 130 [.ref 0] h Q := by
  refine wpm_in P_Ow_look rfl (by decide) (by show ¬ 1 < 1; decide) (B_Ow_look_0 hO.1 (ow_freshTails hO hc hz hg ht hst (fun c h1 hG hr hT hs h8 hn => ?_)))
  have hO1 := hG.ow hc hO
  have c63 := hT.2.2.2.2.2.2.2.2.1
  have hg1 : CGr h1 2 gs m := hg.gw hG (by omega) (fun x y z => by
    obtain ⟨c', _, z1, z2⟩ := z
    have hc' : 63 ≤ c' := by
      have q : h_r h 0 6 = some c' := by assumption
      exact ((hz c' q).1).2.2.2.2.2.2.2.2.1
    omega)
  refine B_Ow_look_4 hO1.1 (or_groups hO1) hT.1 (ta_lookAhead hT (GrS_2 hO1) (by omega) hg1 hu hs (fun h2 f2 => B_Ow_look_11 ?_))
  have f2' : Fr (fun c' _ => c ≤ c' ∧ c' ≤ c + 7) h1 h2 := f2.up (fun x k z => by omega)
  have hr2 : h_r h2 0 6 = some c := by rw [f2.2.1]; exact hr
  refine k h2 ?_ (fun c' e => ?_) (fun e c' e' => by rw [hr2] at e'; cases e'; exact hn e)
  · obtain ⟨a1, a2, a3, a4, a5, a6, a7⟩ := hG
    obtain ⟨b1, b2, b3, b4, b5, b6, b7⟩ := f2'.gw
    refine ⟨b1.trans a1, by omega, by omega, by omega, fun x hx => (b5 x (by omega)).trans (a5 x hx), fun x y hx => ?_, fun x y hx hw => ?_⟩
    · rw [f2'.2.1]
      exact a6 x y hx
    · have q1 := a7 x y hx hw
      have q2 := b7 x y (by omega) (fun z => hw (by
        cases e : h_r h 0 6 with
        | none =>
          have := hn e
          omega
        | some c0 =>
          have e1 : h_r h1 0 6 = some c0 := by
            rcases a6 0 6 (by omega) with q | q
            · rw [q, e]
            · rw [e] at q
              cases q.2
          rw [hr] at e1
          have : c = c0 := Option.some.inj e1
          exact ⟨c0, e, by omega, by omega⟩))
      exact ⟨q2.1.trans q1.1, q2.2.trans q1.2⟩
  · rw [hr2] at e
    have e' : c = c' := Option.some.inj e
    subst e'
    refine ⟨hT.fr f2, fun _ => ?_, fun t' ht' => Or.inr ⟨t', Nat.le_refl _, ?_⟩⟩
    rotate_left
    · rw [← ht', f2.i c 8 (by omega), f2.i 2 6 (by omega)]
      exact h8
    obtain ⟨s1, s2, s3, s4, s5⟩ := hs
    refine ⟨CTa.fr f2 (fun x y z => by omega) s1, (f2.i _ _ (by omega)).trans s2, ?_, fun i hi => (f2.i _ _ (by omega)).trans (s4 i hi), s5⟩
    cases w : (allR gs m).2 with
    | none =>
      rw [w] at s3
      exact ⟨(f2.i _ _ (by omega)).trans s3.1, (f2.i _ _ (by omega)).trans s3.2⟩
    | some y =>
      rw [w] at s3
      exact ⟨(f2.i _ _ (by omega)).trans s3.1, (f2.i _ _ (by omega)).trans s3.2.1, s3.2.2⟩
theorem ow_cure12 {d : Nat} {h : PH} {Q : PQ} {x : Int32} {gs : List (List Nat)} {m t : Nat} (hO : OwS h) (hc : 63 ≤ h_ct h) (hz : CCu h gs m) (hg : CGr h 2 gs m) (ht : t < 2 ^ 31) (hst : h_i h 2 6 = nI t) (kb : x < 0 ∨ 2 < x → ∀ h', Gw (Wlz 12 20 h) h h' → CCu h' gs m → (h_r h 0 12 = none → ∀ c, h_r h' 0 12 = some c → h_ct h ≤ c) → Q (some (.int (-1))) h') (k : ¬ (x < 0 ∨ 2 < x) → ∀ o, IsCu x gs m o → ∀ h', Gw (Wlz 12 20 h) h h' → CCu h' gs m → (h_r h 0 12 = none → ∀ c, h_r h' 0 12 = some c → h_ct h ≤ c) → Q (some (.int (oN o))) h') : wpm (d + 9) 148 [.ref 0, .int x] h Q := by
  refine wpm_in P_Ow_cure rfl (by decide) (by show ¬ 2 < 2; decide) (B_Ow_cure_0 hO.1 ?_)
  refine ow_cures hO hc hz ht hst (fun c g hG hr hS hA hn => ?_)
  have hO1 := hG.ow hc hO
  have hg1 : CGr g 2 gs m := hg.gw hG (by omega) (fun _ _ z => z.elim)
  have fin : ∀ {h' : PH}, Fr (fun x _ => c ≤ x ∧ x ≤ c + 20) g h' → Gw (Wlz 12 20 h) h h' := fun {h'} hf => (Gw.lz2 (W := fun _ _ => False) hc hG (hf.gw.up (fun x k z => Or.inl z)) (fun _ _ z => z.elim) hr hn).up (fun x k z => z.elim id False.elim)
  have fr : ∀ {h' : PH}, h_r h' 0 12 = some c → (h_r h 0 12 = none → ∀ c', h_r h' 0 12 = some c' → h_ct h ≤ c') := fun e e0 c' e1 => by
    rw [e] at e1
    cases e1
    exact hn e0
  refine B_Ow_cure_4 hO1.1 (or_groups hO1) hS.1 ?_
  by_cases hb : x < 0 ∨ 2 < x
  · refine wpm_in P_Cu_fewest rfl (by decide) (by show ¬ 5 < 3; decide) ?_
    have done : ∀ v3 v4 : Value, wpx (d + 7) P_Cu_fewest 9 [.ref c, .ref 2, .int x, v3, v4] [] g (fun r h' => wpx (d + 8) P_Ow_cure 12 [.ref 0, .int x] (r.toList ++ []) h' Q) := fun v3 v4 => B_Cu_fewest_9 (B_Ow_cure_12 (kb hb g (fin (Fr.rf _ _)) (CCu.of hr hS hA) (fr hr)))
    refine B_Cu_fewest_0 (fun _ => done _ _) (fun z => B_Cu_fewest_4 (fun z' => ?_) (fun _ => done _ _))
    exfalso
    rcases hb with y | y
    · exact z y
    · rw [Int32.lt_iff_toInt_lt] at y z'
      have e2 : (2 : Int32).toInt = 2 := by decide
      have e3 : (3 : Int32).toInt = 3 := by decide
      omega
  · have hx : ∃ w, w < 3 ∧ x = nI w := by
      rcases way3 x with y | y | y | y
      · exact absurd y hb
      · exact ⟨0, by omega, y⟩
      · exact ⟨1, by omega, y⟩
      · exact ⟨2, by omega, y⟩
    obtain ⟨w, hw, e⟩ := hx
    subst e
    refine cu_fewest hS (GrS_2 hO1) hg1 hw hA (fun o ho h' hA' hf => B_Ow_cure_12 (k hb o ho h' (fin hf) (CCu.of (by rw [hf.2.1]; exact hr) (hS.fr hf) hA') (fr (by rw [hf.2.1]; exact hr))))
theorem ow_mend12 {d : Nat} {h : PH} {Q : PQ} {x : Int32} {gs : List (List Nat)} {m t : Nat} {ac : List (Int32 × Int32)} (hO : OwS h) (hc : 63 ≤ h_ct h) (hz : CCu h gs m) (hg : CGr h 2 gs m) (ha : CAc h 2 ac) (ht : t < 2 ^ 31) (hst : h_i h 2 6 = nI t) (kb : x < 0 ∨ 2 < x → ∀ h', Gw (Wlz 12 20 h) h h' → CCu h' gs m → (h_r h 0 12 = none → ∀ c, h_r h' 0 12 = some c → h_ct h ≤ c) → Q (some (.int (-1))) h') (kn : ¬ (x < 0 ∨ 2 < x) → ∀ o, IsCu x gs m o → (∀ s, o = some s → s = 0) → ∀ h', Gw (Wlz 12 20 h) h h' → CCu h' gs m → (h_r h 0 12 = none → ∀ c, h_r h' 0 12 = some c → h_ct h ≤ c) → Q (some (.int (-1))) h') (ky : ¬ (x < 0 ∨ 2 < x) → ∀ s, IsCu x gs m (some s) → 0 < s → ∀ h', CAc h' 2 (acd ac ++ [(x, nI s)]) → CGr h' 2 (hlg x s gs) (hlm x s m) → h_i h' 2 6 = h_i h 2 6 + 1 → (∀ c, h_r h' 0 12 = some c → CuS h' c ∧ ∀ w, w < 3 → SB (h_i h' (c + 16) w) t) → Gw (fun a k => Wlz 12 20 h a k ∨ Wom a k) h h' → (h_r h 0 12 = none → ∀ c, h_r h' 0 12 = some c → h_ct h ≤ c) → Q (some (.int (nI (pop s 14)))) h') : wpm (d + 9) 149 [.ref 0, .int x] h Q := by
  refine wpm_in P_Ow_mend rfl (by decide) (by show ¬ 3 < 2; decide) (B_Ow_mend_0 hO.1 ?_)
  have h14 := hg.1.1
  refine ow_cures hO hc hz ht hst (fun c g hG hr hS hA hn => ?_)
  have hO1 := hG.ow hc hO
  have hc63 : 63 ≤ c := hS.2.2.2.2.2.2.2.2.2.1
  have hg1 : CGr g 2 gs m := hg.gw hG (by omega) (fun _ _ z => z.elim)
  have fin : ∀ {h' : PH}, Fr (fun x _ => c ≤ x ∧ x ≤ c + 20) g h' → Gw (Wlz 12 20 h) h h' := fun {h'} hf => (Gw.lz2 (W := fun _ _ => False) hc hG (hf.gw.up (fun x k z => Or.inl z)) (fun _ _ z => z.elim) hr hn).up (fun x k z => z.elim id False.elim)
  have fr : ∀ {h' : PH}, h_r h' 0 12 = some c → (h_r h 0 12 = none → ∀ c', h_r h' 0 12 = some c' → h_ct h ≤ c') := fun e e0 c' e1 => by
    rw [e] at e1
    cases e1
    exact hn e0
  refine B_Ow_mend_4 hO1.1 (or_groups hO1) hS.1 ?_
  by_cases hb : x < 0 ∨ 2 < x
  · refine wpm_in P_Cu_fewest rfl (by decide) (by show ¬ 5 < 3; decide) ?_
    have done : ∀ v3 v4 v2 : Value, wpx (d + 7) P_Cu_fewest 9 [.ref c, .ref 2, .int x, v3, v4] [] g (fun r h' => wpx (d + 8) P_Ow_mend 12 [.ref 0, .int x, v2] (r.toList ++ []) h' Q) := fun v3 v4 v2 => B_Cu_fewest_9 (B_Ow_mend_12 (fun z => absurd z (by decide)) (fun _ => B_Ow_mend_17 (kb hb g (fin (Fr.rf _ _)) (CCu.of hr hS hA) (fr hr))))
    refine B_Cu_fewest_0 (fun _ => done _ _ _) (fun z => B_Cu_fewest_4 (fun z' => ?_) (fun _ => done _ _ _))
    exfalso
    rcases hb with y | y
    · exact z y
    · rw [Int32.lt_iff_toInt_lt] at y z'
      have e2 : (2 : Int32).toInt = 2 := by decide
      have e3 : (3 : Int32).toInt = 3 := by decide
      omega
  · have hx : ∃ w, w < 3 ∧ x = nI w := by
      rcases (way3 x).resolve_left hb with y | y | y
      · exact ⟨0, by omega, y⟩
      · exact ⟨1, by omega, y⟩
      · exact ⟨2, by omega, y⟩
    obtain ⟨w, hw, e⟩ := hx
    subst e
    refine cu_fewest hS (GrS_2 hO1) hg1 hw hA (fun o ho g1 hA1 hf => ?_)
    have hr1 : h_r g1 0 12 = some c := by rw [hf.2.1]; exact hr
    have hS1 := hS.fr hf
    have hO2 := hf.ow hO1
    have hg2 : CGr g1 2 gs m := CGr.fr hf (fun x k z y => by omega) hg1
    by_cases hs : ∀ s, o = some s → s = 0
    · refine B_Ow_mend_12 (fun z => ?_) (fun _ => B_Ow_mend_17 (kn hb o ho hs g1 (fin hf) (CCu.of hr1 hS1 hA1) (fr hr1)))
      cases o with
      | none => exact absurd z (by decide)
      | some s =>
        have hI := IsCu.lt h14 ho
        rw [oN_pos rfl (by omega)] at z
        have := hs s rfl
        omega
    · have ⟨s, e, s0⟩ : ∃ s, o = some s ∧ 0 < s := by
        cases o with
        | none => exact absurd (fun s w => by cases w) hs
        | some s => exact ⟨s, rfl, Nat.pos_of_ne_zero (fun w => hs (fun s' w' => by cases w'; exact w))⟩
      subst e
      have sl := IsCu.lt h14 ho
      obtain ⟨c1, c2⟩ := can_sub ho.2.1.1
      have ha2 : CAc g1 2 ac := by
        obtain ⟨a1, a2, a3⟩ := ha
        have t1 : h_i g1 2 9 = h_i h 2 9 := (hf.i 2 9 (by omega)).trans (hG.i (by omega) (fun z => z))
        have t2 : ∀ n, h_i g1 6 n = h_i h 6 n := fun n => (hf.i 6 n (by omega)).trans (hG.i (by omega) (fun z => z))
        have t3 : ∀ n, h_i g1 7 n = h_i h 7 n := fun n => (hf.i 7 n (by omega)).trans (hG.i (by omega) (fun z => z))
        exact ⟨t1.trans a1, a2, fun n v hv => ⟨(t2 n).trans (a3 n v hv).1, (t3 n).trans (a3 n v hv).2⟩⟩
      have e26 : h_i g1 2 6 = h_i h 2 6 := (hf.i 2 6 (by omega)).trans (hG.i (by omega) (fun z => z))
      refine B_Ow_mend_12 (fun _ => B_Ow_mend_19 hO2.1 (or_groups hO2) (os_groups hO2) ?_) (fun z => absurd ((oN_pos rfl (by omega)).mpr s0) z)
      refine gr_act (GrS_2 hO2) ha2 (fun g2 ha3 f2 => ?_)
      have hO3 := f2.ow hO2
      have hg3 : CGr g2 2 gs m := CGr.fr f2 (fun x k z y => by unfold Wac at z; omega) hg2
      have e26' : h_i g2 2 6 = h_i h 2 6 := (f2.i 2 6 (by unfold Wac; omega)).trans e26
      have last : ∀ g3, CGr g3 2 (hlg (nI w) s gs) (hlm (nI w) s m) → h_i g3 2 6 = h_i g2 2 6 + 1 → Fr (fun a k => a = 3 ∨ a = 4 ∨ (a = 2 ∧ (k = 5 ∨ k = 6))) g2 g3 → wpx (d + 8) P_Ow_mend 28 [.ref 0, .int (nI w), .int (nI s)] [] g3 Q := fun g3 hg4 e3 f3 => by
        refine B_Ow_mend_28 (ji_bitCount (by omega) (B_Ow_mend_32 ?_))
        rw [show pop s 32 = pop s 14 from pop_up (a := 14) sl 18]
        have F : Fr (fun x k => (c ≤ x ∧ x ≤ c + 20) ∨ Wom x k) g g3 := ((hf.up (fun x k z => Or.inl z)).tr (f2.up (fun x k z => Or.inr (by unfold Wac at z; unfold Wom; omega)))).tr (f3.up (fun x k z => Or.inr (by unfold Wom; omega)))
        have f23 : Fr (fun x k => Wom x k) g1 g3 := (f2.up (fun x k z => by unfold Wac at z; unfold Wom; omega)).tr (f3.up (fun x k z => by unfold Wom; omega))
        refine ky hb s ho s0 g3 ?_ hg4 (by rw [e3, e26']) (fun c' hr' => ?_) (Gw.lz2 hc hG F.gw (fun _ _ z => z.elim) hr hn) (fr (by rw [f3.2.1, f2.2.1]; exact hr1))
        · obtain ⟨a1, a2, a3⟩ := ha3
          exact ⟨(f3.i 2 9 (by omega)).trans a1, a2, fun n v hv => ⟨(f3.i 6 n (by omega)).trans (a3 n v hv).1, (f3.i 7 n (by omega)).trans (a3 n v hv).2⟩⟩
        · rw [f3.2.1, f2.2.1, hr1] at hr'
          cases hr'
          refine ⟨hS1.fr f23, fun w' hw' => ?_⟩
          rw [f23.i (c + 16) w' (by unfold Wom; omega)]
          exact (hA1 w' hw').2 t (e26.trans hst)
      unfold hlg hlm at last
      by_cases hx2 : nI w = 2
      · rw [if_pos hx2, if_pos hx2] at last
        rw [hx2] at last ⊢
        exact gr_change2 (GrS_2 hO3) hg3 c2 (fun g3 a e3 f3 => ⟨rfl, last g3 a e3 (f3.up (fun x k z => by omega))⟩)
      · rw [if_neg hx2, if_neg hx2] at last
        exact gr_changeM (GrS_2 hO3) hg3 hx2 (by omega) (fun g3 a e3 f3 => ⟨rfl, last g3 a e3 (f3.up (fun x k z => by unfold Wcm at z; omega))⟩)
