/-! readings on both sides; that all counts are below 2^63 is a PREMISE (hb) -/
def ftb (gs : List (List Nat)) (m : Nat) (w : List Nat) (p k : Nat) : Bool := decide (inm m k) && decide (cpl (gs.getD k []) (w.drop p) = (gs.getD k []).length)
def wsum (f : Nat → Nat) (gs : List (List Nat)) (m : Nat) (w : List Nat) (p : Nat) : Nat → Nat
  | 0 => 0
  | n + 1 => wsum f gs m w p n + (if ftb gs m w p n = true then f (gs.getD n []).length else 0)
def wyl (gs : List (List Nat)) (m : Nat) (w : List Nat) : Nat → List Nat
  | 0 => [1]
  | n + 1 => wsum (fun l => (wyl gs m w n).getD (l - 1) 0) gs m w (w.length - (n + 1)) gs.length :: wyl gs m w n
/-- how many readings what stands from p on has -/
def wy (gs : List (List Nat)) (m : Nat) (w : List Nat) (p : Nat) : Nat := (wyl gs m w (w.length - p)).getD 0 0
theorem wyl_at {gs : List (List Nat)} {m : Nat} {w : List Nat} : ∀ (n j : Nat), j ≤ n → n ≤ w.length → (wyl gs m w n).getD j 0 = wy gs m w (w.length - n + j)
  | 0, j, hj, _ => by
    have : j = 0 := by omega
    subst this
    unfold wy
    rw [show w.length - (w.length - 0 + 0) = 0 by omega]
  | n + 1, 0, _, hn => by
    unfold wy
    rw [show w.length - (w.length - (n + 1) + 0) = n + 1 by omega]
  | n + 1, j + 1, hj, hn => by
    have := wyl_at (gs := gs) (m := m) (w := w) n j (by omega) (by omega)
    rw [show w.length - (n + 1) + (j + 1) = w.length - n + j by omega, ← this]
    rfl
theorem wy_end (gs : List (List Nat)) (m : Nat) (w : List Nat) : wy gs m w w.length = 1 := by
  unfold wy
  rw [Nat.sub_self]
  rfl
theorem cpl_leR : ∀ (a b : List Nat), cpl a b ≤ b.length
  | [], b => by unfold cpl; omega
  | x :: a, [] => by unfold cpl; omega
  | x :: a, y :: b => by
    unfold cpl
    split
    · have := cpl_leR a b
      simp only [List.length_cons]
      omega
    · omega
theorem ftb_le {gs : List (List Nat)} {m : Nat} {w : List Nat} {p k : Nat} (hp : p ≤ w.length) (h : ftb gs m w p k = true) : p + (gs.getD k []).length ≤ w.length := by
  unfold ftb at h
  rw [Bool.and_eq_true, decide_eq_true_eq, decide_eq_true_eq] at h
  have := cpl_leR (gs.getD k []) (w.drop p)
  rw [h.2, List.length_drop] at this
  omega
theorem wsum_congr {f g : Nat → Nat} {gs : List (List Nat)} {m : Nat} {w : List Nat} {p : Nat} : ∀ (n : Nat), (∀ k, k < n → ftb gs m w p k = true → f (gs.getD k []).length = g (gs.getD k []).length) → wsum f gs m w p n = wsum g gs m w p n
  | 0, _ => rfl
  | n + 1, h => by
    unfold wsum
    rw [wsum_congr n (fun k hk => h k (by omega))]
    by_cases q : ftb gs m w p n = true
    · rw [if_pos q, if_pos q, h n (by omega) q]
    · rw [if_neg q, if_neg q]
theorem wy_rec {gs : List (List Nat)} {m : Nat} {w : List Nat} {p : Nat} (ho : okg gs m) (hp : p < w.length) : wy gs m w p = wsum (fun l => wy gs m w (p + l)) gs m w p gs.length := by
  obtain ⟨n, hn⟩ : ∃ n, w.length - p = n + 1 := ⟨w.length - p - 1, by omega⟩
  have e : wy gs m w p = wsum (fun l => (wyl gs m w n).getD (l - 1) 0) gs m w (w.length - (n + 1)) gs.length := by
    unfold wy
    rw [hn]
    rfl
  rw [e, show w.length - (n + 1) = p by omega]
  refine wsum_congr _ (fun k hk hf => ?_)
  have h1 := ftb_le (by omega) hf
  have h2 : 0 < (gs.getD k []).length := by
    have gk : gs[k]? = some gs[k] := List.getElem?_eq_getElem hk
    rw [List.getD_eq_getElem?_getD, gk]
    exact (ho.at gk).2.1
  show (wyl gs m w n).getD ((gs.getD k []).length - 1) 0 = wy gs m w (p + (gs.getD k []).length)
  rw [wyl_at n _ (by omega) (by omega)]
  congr 1
  omega
theorem wsum_mono {f : Nat → Nat} {gs : List (List Nat)} {m : Nat} {w : List Nat} {p : Nat} : ∀ {a b : Nat}, a ≤ b → wsum f gs m w p a ≤ wsum f gs m w p b := by
  intro a b h
  induction h with
  | refl => exact Nat.le_refl _
  | @step n _ ih =>
    show wsum f gs m w p a ≤ wsum f gs m w p n + _
    omega
theorem lN_toI63 {n : Nat} (h : n < 2 ^ 63) : (lN n).toInt = (n : Int) := lg_ofNat_toInt (by omega)
theorem lN_ltI {a b : Nat} (ha : a < 2 ^ 63) (hb : b < 2 ^ 63) : lN a < lN b ↔ a < b := by
  rw [Int64.lt_iff_toInt_lt, lN_toI63 ha, lN_toI63 hb]
  omega
theorem lN_max {b : Nat} (hb : b < 2 ^ 63) : (9223372036854775807 : Int64) - lN b = lN (2 ^ 63 - 1 - b) := by
  have e : lN (2 ^ 63 - 1 - b) + lN b = lN (2 ^ 63 - 1) := by rw [lN_add]; congr 1; omega
  have e2 : (9223372036854775807 : Int64) = lN (2 ^ 63 - 1) := by decide
  rw [e2, ← e, Int64.add_sub_cancel]
theorem lg_le {a b : Nat} (ha : a < 2 ^ 63) (hb : b < 2 ^ 63) : lg_cmp (lN a) (lN b) ≤ 0 ↔ a ≤ b := by
  unfold lg_cmp
  by_cases q : lN b < lN a
  · rw [if_pos q]
    rw [lN_ltI hb ha] at q
    exact ⟨fun z => absurd z (by decide), fun z => by omega⟩
  · rw [if_neg q]
    rw [lN_ltI hb ha] at q
    refine ⟨fun _ => by omega, fun _ => ?_⟩
    split <;> decide
theorem wo_standing {d : Nat} {h : PH} {Q : PQ} {w l : List Nat} {p : Nat} (hO : OwS h) (hw : CWd h w) (hl : okr l) (hp : p ≤ w.length) (k : Q (some (.int (nI (cpl l (w.drop p))))) h) : wpm (d + 2) 109 [.ref 13, .long (pk l), .int (nI l.length), .int (nI p)] h Q := by
  refine wpm_in P_Wo_standing rfl (by decide) (by show ¬ 6 < 5; decide) ?_
  have h7 := hl.2
  have h8 := hw.1.1
  refine B_Wo_standing_0 ?_
  have stop : ∀ n : Nat, n ≤ l.length → p + n ≤ w.length → (∀ t, t < n → l[t]? = (w.drop p)[t]?) → (n = l.length ∨ n = (w.drop p).length ∨ l[n]? ≠ (w.drop p)[n]?) → wpx (d + 1) P_Wo_standing 47 [.ref 13, .long (pk l), .retAddr 2, .int (nI l.length), .int (nI p), .int (nI n)] [] h Q := fun n h1 h2 h3 h4 => by
    refine B_Wo_standing_47 ?_
    rw [← cpl_eq n l (w.drop p) h1 (by rw [List.length_drop]; omega) h3 h4]
    exact k
  have loop : ∀ (c n : Nat), l.length - n = c → n ≤ l.length → p + n ≤ w.length → (∀ t, t < n → l[t]? = (w.drop p)[t]?) → wpx (d + 1) P_Wo_standing 3 [.ref 13, .long (pk l), .retAddr 2, .int (nI l.length), .int (nI p), .int (nI n)] [] h Q := by
    intro c
    induction c with
    | zero =>
      intro n hc h1 h2 h3
      refine B_Wo_standing_3 (fun _ => stop n h1 h2 h3 (Or.inl (by omega))) (fun q => ?_)
      rw [nI_leI (by omega) (by omega)] at q
      omega
    | succ c ih =>
      intro n hc h1 h2 h3
      refine B_Wo_standing_3 (fun q => ?_) (fun _ => ?_)
      · rw [nI_leI (by omega) (by omega)] at q
        omega
      · refine B_Wo_standing_9 (os_theWord hO) (fun z => ?_) (fun z => ?_)
        · rw [hw.2.1, nI_add, nI_leI (by omega) (by omega)] at z
          exact stop n h1 h2 h3 (Or.inr (Or.inl (by rw [List.length_drop]; omega)))
        · rw [hw.2.1, nI_add, nI_leI (by omega) (by omega)] at z
          have gl : l[n]? = some l[n] := List.getElem?_eq_getElem (by omega)
          have gw : w[p + n]? = some w[p + n] := List.getElem?_eq_getElem (by omega)
          refine B_Wo_standing_21 (os_theWord hO) (or_w_sign hO) (os_w_sign hO) (by rw [nI_add]; exact vp_in_nI (by omega) (by omega)) ?_
          refine ow_signOf hl ?_
          rw [sgn_at hl gl, nI_add, nI_clamp (by omega), hw.2.2 _ _ gw]
          have xl := (hl.1 _ (List.mem_of_getElem? gl)).2
          have xw := (hw.1.2 _ (List.mem_of_getElem? gw)).2
          refine B_Wo_standing_38 (fun e => ?_) (fun e => ?_)
          · rw [nI_eq (by omega) (by omega)] at e
            exact stop n h1 h2 h3 (Or.inr (Or.inr (by rw [List.getElem?_drop, gl, gw]; intro z; exact e (Option.some.inj z).symm)))
          · rw [nI_eq (by omega) (by omega)] at e
            refine B_Wo_standing_41 ?_
            rw [nI_1]
            refine ih (n + 1) (by omega) (by omega) (by omega) (fun t ht => ?_)
            by_cases h9 : t = n
            · subst h9
              rw [List.getElem?_drop, gl, gw, e]
            · exact h3 t (by omega)
  exact loop _ 0 rfl (by omega) (by omega) (fun t ht => absurd ht (by omega))
theorem ftb_iff {gs : List (List Nat)} {m : Nat} {w l : List Nat} {p j : Nat} (hj : gs[j]? = some l) : ftb gs m w p j = true ↔ inm m j ∧ cpl l (w.drop p) = l.length := by
  unfold ftb
  rw [List.getD_eq_getElem?_getD, hj, Bool.and_eq_true, decide_eq_true_eq, decide_eq_true_eq]
  exact Iff.rfl
theorem wo_fits {d : Nat} {h : PH} {Q : PQ} {gs : List (List Nat)} {m p j : Nat} {w l : List Nat} (hO : OwS h) (hw : CWd h w) (hg : CGr h 2 gs m) (hj : gs[j]? = some l) (hp : p ≤ w.length) (kt : ftb gs m w p j = true → Q (some (.int 1)) h) (kf : ¬ ftb gs m w p j = true → Q (some (.int 0)) h) : wpm (d + 3) 110 [.ref 13, .ref 2, .int (nI j), .int (nI p)] h Q := by
  refine wpm_in P_Wo_fits rfl (by decide) (by show ¬ 4 < 4; decide) ?_
  have hG := GrS_2 hO
  obtain ⟨a1, a2, a3⟩ := hg.1.at hj
  have hl := (List.getElem?_eq_some_iff.mp hj).1
  have va : vp_in (nI j) 14 := vp_in_nI a3 (by omega)
  have h7 := a1.2
  have h8 := hw.1.1
  refine B_Wo_fits_0 hG.1 (gr_isIn hG hg hl (fun q => ?_) (fun q => ?_))
  · refine B_Wo_fits_5 (fun z => absurd z (by decide)) (fun _ => ?_)
    refine B_Wo_fits_8 hG.1 hG.2.1.1 hG.2.1.2 va hG.2.2.1.1 hG.2.2.1.2 va (os_theWord hO) ?_
    rw [nI_clamp (by omega), (hg.2.2.2 j l hj).1, (hg.2.2.2 j l hj).2]
    refine wo_standing hO hw a1 hp ?_
    have hc : cpl l (w.drop p) < 2 ^ 31 := by
      have := cpl_leR l (w.drop p)
      rw [List.length_drop] at this
      omega
    refine B_Wo_fits_25 hG.1 hG.2.2.1.1 hG.2.2.1.2 va (fun z => ?_) (fun z => ?_)
    · rw [nI_clamp (by omega), (hg.2.2.2 j l hj).2, nI_eq hc (by omega)] at z
      exact B_Wo_fits_38 (B_Wo_fits_39 (by decide) (kf (fun e => z ((ftb_iff hj).mp e).2)))
    · rw [nI_clamp (by omega), (hg.2.2.2 j l hj).2, nI_eq hc (by omega)] at z
      exact B_Wo_fits_34 (B_Wo_fits_39 (by decide) (kt ((ftb_iff hj).mpr ⟨q, z⟩)))
  · exact B_Wo_fits_5 (fun _ => B_Wo_fits_38 (B_Wo_fits_39 (by decide) (kf (fun e => q ((ftb_iff hj).mp e).1)))) (fun z => absurd rfl z)
theorem wo_sum {d : Nat} {h : PH} {Q : PQ} {a b : Nat} (hab : a + b < 2 ^ 63) (k : Q (some (.long (lN (a + b)))) h) : wpm (d + 1) 112 [.long (lN a), .long (lN b)] h Q := by
  refine wpm_in P_Wo_sumWithoutWrap rfl (by decide) (by show ¬ 4 < 4; decide) ?_
  refine B_Wo_sumWithoutWrap_0 (fun _ => ?_) (fun q => ?_)
  · refine B_Wo_sumWithoutWrap_16 (B_Wo_sumWithoutWrap_19 ?_)
    rw [lN_add]
    exact k
  · rw [lN_max (by omega), lg_le (by omega) (by omega)] at q
    omega
/-- what the class holds of the counts -/
def CWy (h : PH) (gs : List (List Nat)) (m : Nat) (w : List Nat) : Prop := ∀ i, i ≤ w.length → h_l h 15 i = lN (wy gs m w i)
def MWy (h : PH) (gs : List (List Nat)) (m : Nat) (w : List Nat) : Prop := ∀ i, i ≤ w.length → h_l h 36 i = lN (wy gs m w i)
theorem nI_dn (n : Nat) : nI n + (-1 : Int32) = nI n - (1 : Int32) := by
  rw [Int32.sub_eq_add_neg]
theorem wo_countWays {d : Nat} {h : PH} {Q : PQ} {gs : List (List Nat)} {m : Nat} {w : List Nat} (hO : OwS h) (hw : CWd h w) (hg : CGr h 2 gs m) (hb : ∀ p, p ≤ w.length → wy gs m w p < 2 ^ 63) (k : ∀ h', CWy h' gs m w → Fr (fun c _ => c = 15) h h' → Q none h') : wpm (d + 4) 111 [.ref 13, .ref 2] h Q := by
  refine wpm_in P_Wo_countWays rfl (by decide) (by show ¬ 6 < 2; decide) ?_
  have h8 := hw.1.1
  have h14 := hg.1.1
  have outer : ∀ (n : Nat) (g : PH) (v3 v4 v5 : Value), n ≤ w.length → Fr (fun c _ => c = 15) h g → (∀ i, n ≤ i → i ≤ w.length → h_l g 15 i = lN (wy gs m w i)) → wpx (d + 3) P_Wo_countWays 17 [.ref 13, .ref 2, .int (nI n - (1 : Int32)), v3, v4, v5] [] g Q := by
    intro n
    induction n with
    | zero =>
      intro g v3 v4 v5 hn hf hi
      exact B_Wo_countWays_17 (fun _ => B_Wo_countWays_84 (k g (fun i hl => hi i (Nat.zero_le _) hl) hf)) (fun q => absurd (show nI 0 - (1 : Int32) < 0 by decide) q)
    | succ n ih =>
      intro g v3 v4 v5 hn hf hi
      have hO' := hf.ow hO
      have hw' : CWd g w := hw.fr hf (fun c k q => by omega)
      have hg' : CGr g 2 gs m := hg.fr hf (fun c k q => by omega)
      have hG := GrS_2 hO'
      rw [nI_pred]
      refine B_Wo_countWays_17 (fun q => absurd q (nI_pos (by omega))) (fun _ => B_Wo_countWays_21 ?_)
      have inner : ∀ (c j : Nat), gs.length - j = c → j ≤ gs.length → wpx (d + 3) P_Wo_countWays 26 [.ref 13, .ref 2, .int (nI n), .long (lN (wsum (fun l => wy gs m w (n + l)) gs m w n j)), .retAddr 2, .int (nI j)] [] g Q := by
        intro c
        induction c with
        | zero =>
          intro j hc hj
          have ej : j = gs.length := by omega
          refine B_Wo_countWays_26 hG.1 (fun _ => ?_) (fun q => ?_)
          · refine B_Wo_countWays_71 (os_theWord hO') (or_w_ways hO') (os_w_ways hO') (vp_in_nI (by omega) (by omega)) ?_
            rw [nI_dn, nI_clamp (by omega)]
            refine ih _ _ _ _ (by omega) (hf.tr (Fr.wl _ _ rfl)) (fun i h1 h2 => ?_)
            rw [h_l_wl]
            by_cases e : i = n
            · subst e
              rw [if_pos ⟨rfl, rfl⟩, ej, ← wy_rec hg.1 (by omega)]
            · rw [if_neg (fun z => e z.2)]
              exact hi i (by omega) h2
          · rw [hg'.2.1, nI_leI (by omega) (by omega)] at q
            omega
        | succ c ihc =>
          intro j hc hj
          refine B_Wo_countWays_26 hG.1 (fun q => ?_) (fun _ => ?_)
          · rw [hg'.2.1, nI_leI (by omega) (by omega)] at q
            omega
          · have gj : gs[j]? = some gs[j] := List.getElem?_eq_getElem (by omega)
            generalize gs[j] = l at gj
            have el : gs.getD j [] = l := by rw [List.getD_eq_getElem?_getD, gj]; rfl
            obtain ⟨a1, a2, a3⟩ := hg.1.at gj
            have h7 := a1.2
            refine B_Wo_countWays_35 (os_theWord hO') (wo_fits hO' hw' hg' gj (by omega) (fun q => ?_) (fun q => ?_))
            · have es : wsum (fun l => wy gs m w (n + l)) gs m w n (j + 1) = wsum (fun l => wy gs m w (n + l)) gs m w n j + wy gs m w (n + l.length) := by
                show _ + _ = _
                rw [if_pos q, el]
              have hle := ftb_le (show n ≤ w.length by omega) q
              rw [el] at hle
              have hlt : wsum (fun l => wy gs m w (n + l)) gs m w n j + wy gs m w (n + l.length) < 2 ^ 63 := by
                have h1 := hb n (by omega)
                rw [wy_rec hg.1 (by omega)] at h1
                have h2 := wsum_mono (f := fun l => wy gs m w (n + l)) (gs := gs) (m := m) (w := w) (p := n) (show j + 1 ≤ gs.length by omega)
                rw [es] at h2
                exact Nat.lt_of_le_of_lt h2 h1
              refine B_Wo_countWays_43 (fun z => absurd z (by decide)) (fun _ => ?_)
              refine B_Wo_countWays_46 (os_theWord hO') (or_w_ways hO') hG.1 hG.2.2.1.1 hG.2.2.1.2 (vp_in_nI a3 (by omega)) (os_w_ways hO') (by rw [nI_clamp (by omega), (hg'.2.2.2 j l gj).2, nI_add]; exact vp_in_nI (by omega) (by omega)) ?_
              rw [nI_clamp (by omega), (hg'.2.2.2 j l gj).2, nI_add, nI_clamp (by omega), hi (n + l.length) (by omega) (by omega)]
              refine wo_sum hlt (B_Wo_countWays_64 (B_Wo_countWays_65 ?_))
              rw [nI_1, ← es]
              exact ihc (j + 1) (by omega) (by omega)
            · have es : wsum (fun l => wy gs m w (n + l)) gs m w n (j + 1) = wsum (fun l => wy gs m w (n + l)) gs m w n j := by
                show _ + _ = _
                rw [if_neg q]
                rfl
              refine B_Wo_countWays_43 (fun _ => B_Wo_countWays_65 ?_) (fun z => absurd rfl z)
              rw [nI_1, ← es]
              exact ihc (j + 1) (by omega) (by omega)
      exact inner _ 0 rfl (Nat.zero_le _)
  refine B_Wo_countWays_0 (os_theWord hO) (or_w_ways hO) (os_w_ways hO) (by rw [hw.2.1]; exact vp_in_nI (by omega) (by omega)) ?_
  rw [show h_i (w_l h 15 (h_i h 13 1).toNatClampNeg 1) 13 1 = h_i h 13 1 from rfl, hw.2.1, nI_clamp (by omega)]
  refine outer w.length _ _ _ _ (Nat.le_refl _) (Fr.wl h _ rfl) (fun i h1 h2 => ?_)
  have e : i = w.length := by omega
  subst e
  rw [h_l_wl, if_pos ⟨rfl, rfl⟩, wy_end]
  rfl
theorem ow_readings {d : Nat} {h : PH} {Q : PQ} {gs : List (List Nat)} {m : Nat} {w : List Nat} (hO : OwS h) (hw : CWd h w) (hg : CGr h 2 gs m) (hb : ∀ p, p ≤ w.length → wy gs m w p < 2 ^ 63) (k : ∀ h', Fr (fun c _ => c = 15) h h' → Q (some (.long (lN (wy gs m w 0)))) h') : wpm (d + 5) 134 [.ref 0] h Q := by
  refine wpm_in P_Ow_readings rfl (by decide) (by show ¬ 1 < 1; decide) ?_
  refine B_Ow_readings_0 hO.1 (or_theWord hO) (or_groups hO) (os_theWord hO) (wo_countWays hO hw hg hb (fun h' hc hf => ?_))
  have hO' := hf.ow hO
  refine B_Ow_readings_11 hO'.1 (or_theWord hO') (os_theWord hO') (or_w_ways hO') (os_w_ways hO') (vp_in_nI (n := 0) (by omega) (by omega)) ?_
  rw [hc 0 (Nat.zero_le _)]
  exact k h' hf
