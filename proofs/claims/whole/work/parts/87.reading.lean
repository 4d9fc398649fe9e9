/-! reading on both sides -/
def rdg (gs : List (List Nat)) (m : Nat) (w : List Nat) : Nat → Nat → Nat → Nat → Int32
  | 0, _, _, _ => -1
  | c + 1, p, n, k => if p < w.length then (match gto gs m w p gs.length 0 n with
    | some (i, n') => if k = 0 then nI i else rdg gs m w c (p + (gs.getD i []).length) n' (k - 1)
    | none => -1) else -1
def rdR (gs : List (List Nat)) (m : Nat) (w : List Nat) (x y : Int32) : Int32 := if x < 0 ∨ y < 0 ∨ wy gs m w 0 ≤ x.toNatClampNeg then -1 else rdg gs m w (w.length + 1) 0 x.toNatClampNeg y.toNatClampNeg
theorem nI_to64 {n : Nat} (h : n < 2 ^ 31) : (nI n).toInt64 = lN n := by
  apply Int64.toInt_inj.mp
  rw [Int32.toInt_toInt64, nI_toInt h, lN_toI63 (by omega)]
theorem nI_neg1 {n : Nat} (h : n < 2 ^ 31) : ¬ nI n = ((-1) : Int32) := fun e => by
  have h1 := nI_pos h
  rw [e] at h1
  exact h1 (by decide)
theorem lg_lt {a b : Nat} (ha : a < 2 ^ 63) (hb : b < 2 ^ 63) : lg_cmp (lN a) (lN b) < 0 ↔ a < b := by
  have := lg_ge ha hb
  rw [← Int32.not_le, this]
  omega
theorem rdg_st {gs : List (List Nat)} {m : Nat} {w l : List Nat} {c p n k i n' : Nat} (hp : p < w.length) (hg : gto gs m w p gs.length 0 n = some (i, n')) (hl : gs[i]? = some l) : rdg gs m w (c + 1) p n k = if k = 0 then nI i else rdg gs m w c (p + l.length) n' (k - 1) := by
  have el : gs.getD i [] = l := by rw [List.getD_eq_getElem?_getD, hl]; rfl
  show (if p < w.length then _ else _) = _
  rw [if_pos hp, hg]
  show (if k = 0 then nI i else rdg gs m w c (p + (gs.getD i []).length) n' (k - 1)) = _
  rw [el]
theorem rdg_no {gs : List (List Nat)} {m : Nat} {w : List Nat} {c p n k : Nat} (hp : ¬ p < w.length) : rdg gs m w (c + 1) p n k = -1 := by
  show (if p < w.length then _ else _) = _
  rw [if_neg hp]
def Wrd (c k : Nat) : Prop := (c = 13 ∧ k = 4) ∨ c = 15
theorem wo_reading {d : Nat} {h : PH} {Q : PQ} {gs : List (List Nat)} {m : Nat} {w : List Nat} {x y : Int32} (hO : OwS h) (hw : CWd h w) (hg : CGr h 2 gs m) (hb : ∀ p, p ≤ w.length → wy gs m w p < 2 ^ 63) (k : ∀ h', Fr Wrd h h' → Q (some (.int (rdR gs m w x y))) h') : wpm (d + 5) 113 [.ref 13, .ref 2, .int x, .int y] h Q := by
  refine wpm_in P_Wo_groupOfReading rfl (by decide) (by show ¬ 7 < 4; decide) ?_
  have h8 := hw.1.1
  have h14 := hg.1.1
  unfold rdR at k
  refine B_Wo_groupOfReading_0 (os_theWord hO) (wo_countWays hO hw hg hb (fun g hc hf => ?_))
  have hO1 := hf.ow hO
  have hw1 : CWd g w := hw.fr hf (fun c k q => by omega)
  have hg1 : CGr g 2 gs m := hg.fr hf (fun c k q => by omega)
  have hF : Fr Wrd h g := hf.up (fun c k q => Or.inr q)
  refine B_Wo_groupOfReading_5 (fun q => ?_) (fun qx => ?_)
  · rw [if_pos (Or.inl q)] at k
    exact B_Wo_groupOfReading_25 (k g hF)
  refine B_Wo_groupOfReading_9 (fun q => ?_) (fun qy => ?_)
  · rw [if_pos (Or.inr (Or.inl q))] at k
    exact B_Wo_groupOfReading_25 (k g hF)
  obtain ⟨a, ha, rfl⟩ := nI_of qx
  obtain ⟨b, hbb, rfl⟩ := nI_of qy
  have hb0 := hb 0 (Nat.zero_le _)
  rw [nI_clamp ha, nI_clamp hbb] at k
  refine B_Wo_groupOfReading_13 (os_theWord hO1) (or_w_ways hO1) (os_w_ways hO1) (vp_in_nI (n := 0) (by omega) (by omega)) (fun q => ?_) (fun q => ?_)
  · rw [hc 0 (Nat.zero_le _), nI_to64 ha, lg_lt (by omega) hb0] at q
    rw [if_neg (fun z => z.elim (fun z => qx z) (fun z => z.elim (fun z => qy z) (fun z => by omega)))] at k
    refine B_Wo_groupOfReading_27 (os_theWord hO1) ?_
    rw [nI_to64 ha]
    have loop : ∀ (c p n s : Nat) (g' : PH) (v6 : Value), w.length - p < c → p ≤ w.length → s ≤ p → s ≤ b → n < wy gs m w p → Fr Wrd h g' → CWy g' gs m w → h_l g' 13 4 = lN n → (∀ h', Fr Wrd h h' → Q (some (.int (rdg gs m w c p n (b - s)))) h') → wpx (d + 4) P_Wo_groupOfReading 39 [.ref 13, .ref 2, .int (nI a), .int (nI b), .int (nI p), .int (nI s), v6] [] g' Q := by
      intro c
      induction c with
      | zero => intro p n s g' v6 h1; omega
      | succ c ih =>
        intro p n s g' v6 h1 h2 h3 h4 h5 hf' hy ht k
        have hO' := hf'.ow hO
        have hw' : CWd g' w := hw.fr hf' (fun c k q => by rcases q with q | q <;> omega)
        have hg' : CGr g' 2 gs m := hg.fr hf' (fun c k q => by rcases q with q | q <;> omega)
        refine B_Wo_groupOfReading_39 (fun q => ?_) (fun _ => ?_)
        · rw [nI_ltI hbb (by omega)] at q
          omega
        · refine B_Wo_groupOfReading_45 (os_theWord hO') (fun q => ?_) (fun q => ?_)
          · rw [hw'.2.1, nI_leI (by omega) (by omega)] at q
            rw [rdg_no (by omega)] at k
            exact B_Wo_groupOfReading_96 (k g' hf')
          · rw [hw'.2.1, nI_leI (by omega) (by omega)] at q
            refine B_Wo_groupOfReading_54 (os_theWord hO') (wo_toward hO' hw' hg' hy hb (by omega) h5 ht (fun i n' l g2 e1 e2 e3 e4 e5 e6 => ?_))
            obtain ⟨a1, a2, a3⟩ := hg.1.at e2
            have h7 := a1.2
            have hf2 : Fr Wrd h g2 := hf'.tr (e6.up (fun c k q => Or.inl q))
            have hO2 := hf2.ow hO
            have hG2 := GrS_2 hO2
            have hg2 : CGr g2 2 gs m := hg.fr hf2 (fun c k q => by rcases q with q | q <;> omega)
            rw [rdg_st (by omega) e1 e2] at k
            refine B_Wo_groupOfReading_61 (fun z => absurd z (nI_neg1 (by omega))) (fun _ => ?_)
            refine B_Wo_groupOfReading_69 (fun z => ?_) (fun z => ?_)
            · rw [nI_eq (by omega) hbb] at z
              rw [if_neg (by omega)] at k
              refine B_Wo_groupOfReading_78 hG2.1 hG2.2.2.1.1 hG2.2.2.1.2 (vp_in_nI a3 (by omega)) ?_
              rw [nI_clamp (by omega), (hg2.2.2.2 i l e2).2, nI_add, nI_1]
              refine ih _ n' (s + 1) g2 _ (by omega) e3 (by omega) (by omega) e4 hf2 (hy.fr e6 (fun k q => by omega)) e5 ?_
              rw [show b - (s + 1) = b - s - 1 by omega]
              exact k
            · rw [nI_eq (by omega) hbb] at z
              rw [if_pos (by omega)] at k
              exact B_Wo_groupOfReading_75 (k g2 hf2)
    refine loop (w.length + 1) 0 a 0 _ _ (by omega) (Nat.zero_le _) (Nat.le_refl _) (Nat.zero_le _) q (hF.tr (Fr.wl _ _ (Or.inl ⟨rfl, rfl⟩))) (hc.fr (Fr.wl (W := fun c k => c = 13 ∧ k = 4) g _ ⟨rfl, rfl⟩) (fun k q => by omega)) (by rw [h_l_wl, if_pos ⟨rfl, rfl⟩]) ?_
    exact k
  · rw [hc 0 (Nat.zero_le _), nI_to64 ha, lg_lt (by omega) hb0] at q
    rw [if_pos (Or.inr (Or.inr (by omega)))] at k
    exact B_Wo_groupOfReading_25 (k g hF)
theorem ow_reading {d : Nat} {h : PH} {Q : PQ} {gs : List (List Nat)} {m : Nat} {w : List Nat} {x y : Int32} (hO : OwS h) (hw : CWd h w) (hg : CGr h 2 gs m) (hb : ∀ p, p ≤ w.length → wy gs m w p < 2 ^ 63) (k : ∀ h', Fr Wrd h h' → Q (some (.int (rdR gs m w x y))) h') : wpm (d + 6) 135 [.ref 0, .int x, .int y] h Q := by
  refine wpm_in P_Ow_reading rfl (by decide) (by show ¬ 3 < 3; decide) ?_
  exact B_Ow_reading_0 hO.1 (or_theWord hO) (or_groups hO) (os_theWord hO) (wo_reading hO hw hg hb (fun h' hf => B_Ow_reading_13 (k h' hf)))
def Wmr (c k : Nat) : Prop := (c = 17 ∧ (k = 0 ∨ k = 41 ∨ k = 42)) ∨ c = 36
theorem md_reading {d : Nat} {h : PH} {Q : PQ} {gs : List (List Nat)} {m : Nat} {w : List Nat} {x y : Int32} (hM : MdS h) (hw : MWd h w) (hg : MGr h gs m) (hb : ∀ p, p ≤ w.length → wy gs m w p < 2 ^ 63) (k : ∀ h', Fr Wmr h h' → Q (some (.int (rdR gs m w x y))) h') : wpm (d + 4) 232 [.ref 17, .int x, .int y] h Q := by
  refine wpm_in P_Md_reading rfl (by decide) (by show ¬ 6 < 3; decide) ?_
  have h8 := hw.1.1
  have h14 := hg.1.1
  unfold rdR at k
  refine B_Md_reading_0 hM.1 (mr_word hM) ?_
  have hf0 := th_fr h
  have hM0 := hf0.md hM
  have hw0 := hw.fr hf0 wth_w
  have hg0 := hg.fr hf0 wth_g
  generalize w_i h 17 0 0 = g0 at hf0 hM0 hw0 hg0 ⊢
  rw [hw0.2.1]
  refine md_layWays hM0 (hw0.rw hM0) (by decide) hg0 (fun g hc hf => ?_)
  have hF : Fr Wmr h g := (hf0.up (fun c k q => Or.inl ⟨q.1, Or.inl q.2⟩)).tr (hf.up (fun c k q => Or.inr q))
  have hM1 := hF.md hM
  refine B_Md_reading_17 (fun q => ?_) (fun qx => ?_)
  · rw [if_pos (Or.inl q)] at k
    exact B_Md_reading_37 (k g hF)
  obtain ⟨a, ha, rfl⟩ := nI_of qx
  have hb0 := hb 0 (Nat.zero_le _)
  rw [nI_clamp ha] at k
  refine B_Md_reading_21 hM1.1 (mr_ways hM1) (ms_ways hM1) (vp_in_nI (n := 0) (by omega) (by omega)) (fun q => ?_) (fun q => ?_)
  · rw [hc 0 (Nat.zero_le _), nI_to64 ha, lg_ge (by omega) hb0] at q
    rw [if_pos (Or.inr (Or.inr q))] at k
    exact B_Md_reading_37 (k g hF)
  rw [hc 0 (Nat.zero_le _), nI_to64 ha, lg_ge (by omega) hb0] at q
  refine B_Md_reading_33 (fun qy => ?_) (fun qy => ?_)
  · have qy' : ¬ y < 0 := Int32.not_lt.mpr qy
    obtain ⟨b, hbb, rfl⟩ := nI_of qy'
    rw [nI_clamp hbb, if_neg (fun z => z.elim (fun z => qx z) (fun z => z.elim (fun z => qy' z) (fun z => q z)))] at k
    refine B_Md_reading_39 hM1.1 ?_
    rw [nI_to64 ha]
    have loop : ∀ (c p n s : Nat) (g' : PH), w.length - p < c → p ≤ w.length → s ≤ p → s ≤ b → n < wy gs m w p → Fr Wmr h g' → MWy g' gs m w → h_i g' 17 41 = nI p → (∀ h', Fr Wmr h h' → Q (some (.int (rdg gs m w c p n (b - s)))) h') → wpx (d + 3) P_Md_reading 50 [.ref 17, .int (nI a), .int (nI b), .long (lN n), .retAddr 2, .int (nI s)] [] g' Q := by
      intro c
      induction c with
      | zero => intro p n s g' h1; omega
      | succ c ih =>
        intro p n s g' h1 h2 h3 h4 h5 hf' hy ht k
        have hM' := hf'.md hM
        have hw' : MWd g' w := hw.fr hf' (fun c k q => by rcases q with q | q <;> omega)
        have hg' : MGr g' gs m := hg.fr hf' (fun c k q => by rcases q with q | q <;> omega)
        refine B_Md_reading_50 (fun q => ?_) (fun _ => ?_)
        · rw [nI_ltI hbb (by omega)] at q
          omega
        · refine B_Md_reading_56 hM'.1 (fun q => ?_) (fun q => ?_)
          · rw [hw'.2.1, ht, nI_eq (by omega) (by omega)] at q
            refine B_Md_reading_69 hM'.1 (md_goesBy hM' hw' hg' hy hb (by omega) h5 ht (fun i n' l g2 e1 e2 e3 e4 e5 e6 e7 => ?_))
            obtain ⟨a1, a2, a3⟩ := hg.1.at e2
            have h7 := a1.2
            have hf2 : Fr Wmr h g2 := hf'.tr (e7.up (fun c k q => Or.inl ⟨q.1, Or.inr q.2⟩))
            have hM2 := hf2.md hM
            rw [rdg_st (by omega) e1 e2] at k
            refine B_Md_reading_74 ?_
            rw [nI_1]
            by_cases z : b - s = 0
            · rw [if_pos z] at k
              refine B_Md_reading_50 (fun _ => B_Md_reading_81 hM2.1 ?_) (fun q => ?_)
              · rw [e6]
                exact k g2 hf2
              · rw [nI_ltI hbb (by omega)] at q
                omega
            · rw [if_neg z] at k
              refine ih _ n' (s + 1) g2 (by omega) e3 (by omega) (by omega) e4 hf2 (hy.fr e7 (fun k q => by omega)) e5 ?_
              rw [show b - (s + 1) = b - s - 1 by omega]
              exact k
          · rw [hw'.2.1, ht, nI_eq (by omega) (by omega)] at q
            rw [rdg_no (by omega)] at k
            exact B_Md_reading_67 (k g' hf')
    refine loop (w.length + 1) 0 a 0 _ (by omega) (Nat.zero_le _) (Nat.le_refl _) (Nat.zero_le _) (by omega) (hF.tr (Fr.wi _ _ (Or.inl ⟨rfl, Or.inr (Or.inl rfl)⟩))) (hc.fr (Fr.wi (W := fun c k => c = 17 ∧ k = 41) g _ ⟨rfl, rfl⟩) (fun k q => by omega)) (wi_eq ..) ?_
    exact k
  · rw [if_pos (Or.inr (Or.inl (Int32.not_le.mp qy)))] at k
    exact B_Md_reading_37 (k g hF)
