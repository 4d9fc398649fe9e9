/-! reads, took on both sides -/
def rdN (gs : List (List Nat)) (m : Nat) (w : List Nat) (kd : Nat) : Nat → Nat → Nat → Int32
  | 0, _, n => nI n
  | c + 1, p, n => if p < w.length then (match rdk gs m w kd p gs.length with
    | none => -1
    | some i => rdN gs m w kd c (p + (gs.getD i []).length) (n + 1)) else nI n
def rdT (gs : List (List Nat)) (m : Nat) (w : List Nat) (kd : Nat) : Nat → Nat → Nat → Int32
  | 0, _, _ => -1
  | c + 1, p, k => if p < w.length then (match rdk gs m w kd p gs.length with
    | none => -1
    | some i => if k = 0 then nI i else rdT gs m w kd c (p + (gs.getD i []).length) (k - 1)) else -1
def rdsR (gs : List (List Nat)) (m : Nat) (w : List Nat) (x : Int32) : Int32 := if x < 0 ∨ (2 : Int32) < x then -2 else rdN gs m w x.toNatClampNeg (w.length + 1) 0 0
def tkR (gs : List (List Nat)) (m : Nat) (w : List Nat) (x y : Int32) : Int32 := if (x < 0 ∨ (2 : Int32) < x) ∨ y < 0 then -1 else rdT gs m w x.toNatClampNeg (w.length + 1) 0 y.toNatClampNeg
theorem kd_of {x : Int32} (h : ¬ (x < 0 ∨ (2 : Int32) < x)) : ∃ k, k < 3 ∧ x = nI k := by
  have h2 : ¬ (x < 0 ∨ nI 3 ≤ x) := fun z => h ((in_pred (n := 3) (by omega)).mpr z)
  exact in_row (by omega) (fun z => h2 (Or.inl z)) (fun z => h2 (Or.inr z))
theorem rdN_end {gs : List (List Nat)} {m : Nat} {w : List Nat} {kd c p n : Nat} (hp : ¬ p < w.length) : rdN gs m w kd (c + 1) p n = nI n := if_neg hp
theorem rdN_no {gs : List (List Nat)} {m : Nat} {w : List Nat} {kd c p n : Nat} (hp : p < w.length) (hr : rdk gs m w kd p gs.length = none) : rdN gs m w kd (c + 1) p n = -1 := by
  show (if p < w.length then _ else _) = _
  rw [if_pos hp, hr]
theorem rdN_st {gs : List (List Nat)} {m : Nat} {w l : List Nat} {kd c p n i : Nat} (hp : p < w.length) (hr : rdk gs m w kd p gs.length = some i) (gi : gs[i]? = some l) : rdN gs m w kd (c + 1) p n = rdN gs m w kd c (p + l.length) (n + 1) := by
  show (if p < w.length then _ else _) = _
  rw [if_pos hp, hr]
  show rdN gs m w kd c (p + (gs.getD i []).length) (n + 1) = _
  rw [List.getD_eq_getElem?_getD, gi]
  rfl
theorem rdT_end {gs : List (List Nat)} {m : Nat} {w : List Nat} {kd c p k : Nat} (hp : ¬ p < w.length) : rdT gs m w kd (c + 1) p k = -1 := if_neg hp
theorem rdT_no {gs : List (List Nat)} {m : Nat} {w : List Nat} {kd c p k : Nat} (hp : p < w.length) (hr : rdk gs m w kd p gs.length = none) : rdT gs m w kd (c + 1) p k = -1 := by
  show (if p < w.length then _ else _) = _
  rw [if_pos hp, hr]
theorem rdT_st {gs : List (List Nat)} {m : Nat} {w l : List Nat} {kd c p k i : Nat} (hp : p < w.length) (hr : rdk gs m w kd p gs.length = some i) (gi : gs[i]? = some l) : rdT gs m w kd (c + 1) p k = if k = 0 then nI i else rdT gs m w kd c (p + l.length) (k - 1) := by
  show (if p < w.length then _ else _) = _
  rw [if_pos hp, hr]
  show (if k = 0 then nI i else rdT gs m w kd c (p + (gs.getD i []).length) (k - 1)) = _
  rw [List.getD_eq_getElem?_getD, gi]
  rfl
theorem rdk_at {gs : List (List Nat)} {m : Nat} {w : List Nat} {kd p i : Nat} (ho : okg gs m) (hp : p ≤ w.length) (hr : rdk gs m w kd p gs.length = some i) : ∃ l, gs[i]? = some l ∧ 0 < l.length ∧ i < 14 ∧ p + l.length ≤ w.length := by
  obtain ⟨h1, h2⟩ := rdk_lt _ i hr
  have gi : gs[i]? = some gs[i] := List.getElem?_eq_getElem h1
  generalize gs[i] = l at gi
  obtain ⟨a1, a2, a3⟩ := ho.at gi
  have := ftb_le hp h2
  rw [List.getD_eq_getElem?_getD, gi] at this
  exact ⟨l, gi, a2, a3, this⟩
theorem re_isKind {d : Nat} {h : PH} {Q : PQ} {x : Int32} (kt : ¬ (x < 0 ∨ (2 : Int32) < x) → Q (some (.int 1)) h) (kf : (x < 0 ∨ (2 : Int32) < x) → Q (some (.int 0)) h) : wpm (d + 1) 49 [.int x] h Q := by
  refine wpm_in P_Re_isKind rfl (by decide) (by show ¬ 1 < 1; decide) ?_
  exact B_Re_isKind_0 (fun q => B_Re_isKind_13 (B_Re_isKind_14 rfl (kf (Or.inl q)))) (fun q => B_Re_isKind_4 (fun z => B_Re_isKind_13 (B_Re_isKind_14 rfl (kf (Or.inr z)))) (fun z => B_Re_isKind_9 (B_Re_isKind_14 rfl (kt (fun y => y.elim q z)))))
theorem re_countTaken {d : Nat} {h : PH} {Q : PQ} {gs : List (List Nat)} {m kd r : Nat} {w : List Nat} (hk : kd < 3) (hO : OwS h) (hw : CWd h w) (hg : CGr h 2 gs m) (k : Q (some (.int (rdN gs m w kd (w.length + 1) 0 0))) h) : wpm (d + 5) 52 [.ref r, .ref 13, .ref 2, .int (nI kd)] h Q := by
  refine wpm_in P_Re_countTaken rfl (by decide) (by show ¬ 7 < 4; decide) (B_Re_countTaken_0 ?_)
  have h8 := hw.1.1
  have hG := GrS_2 hO
  have loop : ∀ (c p n : Nat) (v6 : Value), w.length - p < c → p ≤ w.length → n ≤ p → Q (some (.int (rdN gs m w kd c p n))) h → wpx (d + 4) P_Re_countTaken 6 [.ref r, .ref 13, .ref 2, .int (nI kd), .int (nI p), .int (nI n), v6] [] h Q := by
    intro c
    induction c with
    | zero => intro p n v6 h1; omega
    | succ c ih =>
      intro p n v6 h1 h2 h3 k
      refine B_Re_countTaken_6 (os_theWord hO) (fun q => B_Re_countTaken_60 ?_) (fun _ => B_Re_countTaken_15 (os_theWord hO) (fun q => B_Re_countTaken_60 ?_) (fun q => ?_))
      · rw [hw.2.1, nI_leI (by omega) (by omega)] at q
        rw [rdN_end (by omega)] at k
        exact k
      · rw [hw.2.1, nI_leI (by omega) (by omega)] at q
        rw [rdN_end (by omega)] at k
        exact k
      · rw [hw.2.1, nI_leI (by omega) (by omega)] at q
        refine B_Re_countTaken_24 (re_choose hk hO hw hg h2 ?_)
        cases hr : rdk gs m w kd p gs.length with
        | none =>
          rw [rdN_no (by omega) hr] at k
          exact B_Re_countTaken_32 (fun z => absurd rfl z) (fun _ => B_Re_countTaken_40 k)
        | some i =>
          obtain ⟨l, gi, l0, i14, hpl⟩ := rdk_at hg.1 h2 hr
          rw [rdN_st (by omega) hr gi] at k
          refine B_Re_countTaken_32 (fun _ => B_Re_countTaken_42 hG.1 hG.2.2.1.1 hG.2.2.1.2 (vp_in_nI i14 (by omega)) ?_) (fun z => absurd z (nI_neg1 (by omega)))
          rw [show oI (some i) = nI i from rfl, nI_clamp (by omega), (hg.2.2.2 i l gi).2, nI_add, nI_1]
          exact ih _ _ _ (by omega) hpl (by omega) k
  exact loop _ 0 0 _ (by omega) (Nat.zero_le _) (Nat.le_refl _) k
theorem re_takenAt {d : Nat} {h : PH} {Q : PQ} {gs : List (List Nat)} {m kd r : Nat} {w : List Nat} {y : Int32} (hk : kd < 3) (hO : OwS h) (hw : CWd h w) (hg : CGr h 2 gs m) (k : Q (some (.int (if y < 0 then -1 else rdT gs m w kd (w.length + 1) 0 y.toNatClampNeg))) h) : wpm (d + 5) 53 [.ref r, .ref 13, .ref 2, .int (nI kd), .int y] h Q := by
  refine wpm_in P_Re_takenAt rfl (by decide) (by show ¬ 8 < 5; decide) (B_Re_takenAt_0 ?_)
  have h8 := hw.1.1
  have hG := GrS_2 hO
  by_cases hy : y < 0
  · rw [if_pos hy] at k
    exact B_Re_takenAt_6 (fun _ => B_Re_takenAt_66 k) (fun z => absurd hy z)
  rw [if_neg hy] at k
  obtain ⟨b, hb, rfl⟩ := nI_of hy
  rw [nI_clamp hb] at k
  have loop : ∀ (c p s : Nat) (v7 : Value), w.length - p < c → p ≤ w.length → s ≤ p → s ≤ b → Q (some (.int (rdT gs m w kd c p (b - s)))) h → wpx (d + 4) P_Re_takenAt 6 [.ref r, .ref 13, .ref 2, .int (nI kd), .int (nI b), .int (nI p), .int (nI s), v7] [] h Q := by
    intro c
    induction c with
    | zero => intro p n v7 h1; omega
    | succ c ih =>
      intro p s v7 h1 h2 h3 h4 k
      refine B_Re_takenAt_6 (fun q => ?_) (fun _ => B_Re_takenAt_13 (os_theWord hO) (fun q => B_Re_takenAt_66 ?_) (fun q => ?_))
      · rw [nI_ltI hb (by omega)] at q
        omega
      · rw [hw.2.1, nI_leI (by omega) (by omega)] at q
        rw [rdT_end (by omega)] at k
        exact k
      · rw [hw.2.1, nI_leI (by omega) (by omega)] at q
        refine B_Re_takenAt_22 (re_choose hk hO hw hg h2 ?_)
        cases hr : rdk gs m w kd p gs.length with
        | none =>
          rw [rdT_no (by omega) hr] at k
          exact B_Re_takenAt_30 (fun _ => B_Re_takenAt_45 k) (fun z => absurd rfl z)
        | some i =>
          obtain ⟨l, gi, l0, i14, hpl⟩ := rdk_at hg.1 h2 hr
          rw [rdT_st (by omega) hr gi] at k
          refine B_Re_takenAt_30 (fun z => absurd z (nI_neg1 (by omega))) (fun _ => B_Re_takenAt_38 (fun z => ?_) (fun z => ?_))
          · change ¬ nI s = nI b at z
            rw [nI_eq (by omega) hb] at z
            rw [if_neg (by omega)] at k
            refine B_Re_takenAt_48 hG.1 hG.2.2.1.1 hG.2.2.1.2 (vp_in_nI i14 (by omega)) ?_
            rw [show oI (some i) = nI i from rfl, nI_clamp (by omega), (hg.2.2.2 i l gi).2, nI_add, nI_1]
            refine ih _ _ _ (by omega) hpl (by omega) (by omega) ?_
            rw [show b - (s + 1) = b - s - 1 by omega]
            exact k
          · change nI s = nI b at z
            rw [nI_eq (by omega) hb] at z
            rw [if_pos (by omega)] at k
            exact B_Re_takenAt_45 k
  exact loop _ 0 0 _ (by omega) (Nat.zero_le _) (Nat.le_refl _) (Nat.zero_le _) k
theorem ow_reads {d : Nat} {h : PH} {Q : PQ} {gs : List (List Nat)} {m : Nat} {w : List Nat} {x : Int32} (hO : OwS h) (hc : 63 ≤ h_ct h) (hz : ∀ c, h_r h 0 8 = some c → ReS h c) (hw : CWd h w) (hg : CGr h 2 gs m) (k : ∀ h', Gw (fun _ _ => False) h h' → (∀ c, h_r h' 0 8 = some c → ReS h' c) → Q (some (.int (rdsR gs m w x))) h') : wpm (d + 6) 137 [.ref 0, .int x] h Q := by
  refine wpm_in P_Ow_reads rfl (by decide) (by show ¬ 2 < 2; decide) (B_Ow_reads_0 (re_isKind (fun q => ?_) (fun q => ?_)))
  · refine B_Ow_reads_4 (fun z => absurd z (by decide)) (fun _ => B_Ow_reads_7 hO.1 (ow_theReader hO hc hz (fun c h' hG hr hR => ?_)))
    have hO' := hG.ow hc hO
    obtain ⟨kd, hk, rfl⟩ := kd_of q
    have e : rdsR gs m w (nI kd) = rdN gs m w kd (w.length + 1) 0 0 := by
      unfold rdsR
      rw [if_neg q, nI_clamp (by omega)]
    refine B_Ow_reads_11 hO'.1 (or_theWord hO') (or_groups hO') hR.1 (re_countTaken hk hO' (hw.gw hG hc (fun _ _ z => z.elim)) (hg.gw hG (by omega) (fun _ _ z => z.elim)) (B_Ow_reads_23 (B_Ow_reads_28 ?_)))
    rw [← e]
    refine k h' hG (fun c' hc' => ?_)
    rw [hr] at hc'
    exact Option.some.inj hc' ▸ hR
  · refine B_Ow_reads_4 (fun _ => B_Ow_reads_26 (B_Ow_reads_28 ?_)) (fun z => absurd rfl z)
    have e : rdsR gs m w x = -2 := if_pos q
    have := k h (Fr.rf _ _).gw hz
    rw [e] at this
    exact this
theorem ow_took {d : Nat} {h : PH} {Q : PQ} {gs : List (List Nat)} {m : Nat} {w : List Nat} {x y : Int32} (hO : OwS h) (hc : 63 ≤ h_ct h) (hz : ∀ c, h_r h 0 8 = some c → ReS h c) (hw : CWd h w) (hg : CGr h 2 gs m) (k : ∀ h', Gw (fun _ _ => False) h h' → (∀ c, h_r h' 0 8 = some c → ReS h' c) → Q (some (.int (tkR gs m w x y))) h') : wpm (d + 6) 138 [.ref 0, .int x, .int y] h Q := by
  refine wpm_in P_Ow_took rfl (by decide) (by show ¬ 3 < 3; decide) (B_Ow_took_0 (re_isKind (fun q => ?_) (fun q => ?_)))
  · refine B_Ow_took_4 (fun z => absurd z (by decide)) (fun _ => B_Ow_took_7 hO.1 (ow_theReader hO hc hz (fun c h' hG hr hR => ?_)))
    have hO' := hG.ow hc hO
    obtain ⟨kd, hk, rfl⟩ := kd_of q
    have e : tkR gs m w (nI kd) y = if y < 0 then -1 else rdT gs m w kd (w.length + 1) 0 y.toNatClampNeg := by
      unfold tkR
      rw [nI_clamp (by omega)]
      by_cases z : y < 0
      · rw [if_pos z, if_pos (Or.inr z)]
      · rw [if_neg z, if_neg (fun u => u.elim q z)]
    refine B_Ow_took_11 hO'.1 (or_theWord hO') (or_groups hO') hR.1 (re_takenAt hk hO' (hw.gw hG hc (fun _ _ z => z.elim)) (hg.gw hG (by omega) (fun _ _ z => z.elim)) (B_Ow_took_24 (B_Ow_took_28 ?_)))
    rw [← e]
    refine k h' hG (fun c' hc' => ?_)
    rw [hr] at hc'
    exact Option.some.inj hc' ▸ hR
  · refine B_Ow_took_4 (fun _ => B_Ow_took_27 (B_Ow_took_28 ?_)) (fun z => absurd rfl z)
    have e : tkR gs m w x y = -1 := if_pos (Or.inl q)
    have := k h (Fr.rf _ _).gw hz
    rw [e] at this
    exact this
theorem md_reads {d : Nat} {h : PH} {Q : PQ} {gs : List (List Nat)} {m : Nat} {w : List Nat} {x : Int32} (hM : MdS h) (hw : MWd h w) (hg : MGr h gs m) (k : ∀ h', Fr Wth h h' → Q (some (.int (rdsR gs m w x))) h') : wpm (d + 4) 235 [.ref 17, .int x] h Q := by
  refine wpm_in P_Md_reads rfl (by decide) (by show ¬ 5 < 2; decide) (B_Md_reads_0 hM.1 ?_)
  have hf0 := th_fr h
  have hM0 := hf0.md hM
  have hw0 := hw.fr hf0 wth_w
  have hg0 := hg.fr hf0 wth_g
  replace k := k _ hf0
  generalize w_i h 17 0 0 = g at hM0 hw0 hg0 k ⊢
  have h8 := hw0.1.1
  refine md_in ?_
  by_cases q : x < 0 ∨ (2 : Int32) < x
  · rw [if_pos q]
    have e : rdsR gs m w x = -2 := if_pos q
    rw [e] at k
    exact B_Md_reads_11 (fun z => absurd rfl z) (fun _ => B_Md_reads_14 k)
  rw [if_neg q]
  obtain ⟨kd, hk, rfl⟩ := kd_of q
  have e : rdsR gs m w (nI kd) = rdN gs m w kd (w.length + 1) 0 0 := by
    unfold rdsR
    rw [if_neg q, nI_clamp (by omega)]
  rw [e] at k
  have loop : ∀ (c p n : Nat) (v4 : Value), w.length - p < c → p ≤ w.length → n ≤ p → Q (some (.int (rdN gs m w kd c p n))) g → wpx (d + 3) P_Md_reads 21 [.ref 17, .int (nI kd), .int (nI n), .int (nI p), v4] [] g Q := by
    intro c
    induction c with
    | zero => intro p n v4 h1; omega
    | succ c ih =>
      intro p n v4 h1 h2 h3 k
      refine B_Md_reads_21 hM0.1 (fun q => B_Md_reads_60 ?_) (fun q => ?_)
      · rw [hw0.2.1, nI_leI (by omega) (by omega)] at q
        rw [rdN_end (by omega)] at k
        exact k
      · rw [hw0.2.1, nI_leI (by omega) (by omega)] at q
        refine B_Md_reads_29 hM0.1 (md_takenAt hk hM0 hw0 hg0 h2 ?_)
        cases hr : rdk gs m w kd p gs.length with
        | none =>
          rw [rdN_no (by omega) hr] at k
          exact B_Md_reads_35 (fun z => absurd z (by decide)) (fun _ => B_Md_reads_42 k)
        | some i =>
          obtain ⟨l, gi, l0, i14, hpl⟩ := rdk_at hg0.1 h2 hr
          rw [rdN_st (by omega) hr gi] at k
          refine B_Md_reads_35 (fun _ => B_Md_reads_44 hM0.1 (mr_size hM0) (ms_size hM0) (vp_in_nI i14 (by omega)) ?_) (fun z => absurd (Int32.not_lt.mp (nI_pos (by omega))) z)
          rw [show oI (some i) = nI i from rfl, nI_clamp (by omega), (hg0.2.2.2 i l gi).1, nI_add, nI_1]
          exact ih _ _ _ (by omega) hpl (by omega) k
  exact B_Md_reads_11 (fun _ => B_Md_reads_17 (loop _ 0 0 _ (by omega) (Nat.zero_le _) (Nat.le_refl _) k)) (fun z => absurd z (by decide))
theorem md_took {d : Nat} {h : PH} {Q : PQ} {gs : List (List Nat)} {m : Nat} {w : List Nat} {x y : Int32} (hM : MdS h) (hw : MWd h w) (hg : MGr h gs m) (k : ∀ h', Fr Wth h h' → Q (some (.int (tkR gs m w x y))) h') : wpm (d + 4) 236 [.ref 17, .int x, .int y] h Q := by
  refine wpm_in P_Md_took rfl (by decide) (by show ¬ 6 < 3; decide) (B_Md_took_0 hM.1 ?_)
  have hf0 := th_fr h
  have hM0 := hf0.md hM
  have hw0 := hw.fr hf0 wth_w
  have hg0 := hg.fr hf0 wth_g
  replace k := k _ hf0
  generalize w_i h 17 0 0 = g at hM0 hw0 hg0 k ⊢
  have h8 := hw0.1.1
  refine md_in ?_
  by_cases q : x < 0 ∨ (2 : Int32) < x
  · rw [if_pos q]
    have e : tkR gs m w x y = -1 := if_pos (Or.inl q)
    rw [e] at k
    exact B_Md_took_11 (fun _ => B_Md_took_18 k) (fun z => absurd rfl z)
  rw [if_neg q]
  refine B_Md_took_11 (fun z => absurd z (by decide)) (fun _ => ?_)
  by_cases hy : y < 0
  · have e : tkR gs m w x y = -1 := if_pos (Or.inr hy)
    rw [e] at k
    exact B_Md_took_14 (fun z => absurd hy (Int32.not_lt.mpr z)) (fun _ => B_Md_took_18 k)
  obtain ⟨kd, hk, rfl⟩ := kd_of q
  obtain ⟨b, hb, rfl⟩ := nI_of hy
  have e : tkR gs m w (nI kd) (nI b) = rdT gs m w kd (w.length + 1) 0 b := by
    unfold tkR
    rw [if_neg (fun u => u.elim q hy), nI_clamp (by omega), nI_clamp hb]
  rw [e] at k
  have loop : ∀ (c p s : Nat) (v5 : Value), w.length - p < c → p ≤ w.length → s ≤ p → s ≤ b → Q (some (.int (rdT gs m w kd c p (b - s)))) g → wpx (d + 3) P_Md_took 25 [.ref 17, .int (nI kd), .int (nI b), .int (nI p), .int (nI s), v5] [] g Q := by
    intro c
    induction c with
    | zero => intro p n v5 h1; omega
    | succ c ih =>
      intro p s v5 h1 h2 h3 h4 k
      refine B_Md_took_25 hM0.1 (fun q => B_Md_took_71 ?_) (fun q => ?_)
      · rw [hw0.2.1, nI_leI (by omega) (by omega)] at q
        rw [rdT_end (by omega)] at k
        exact k
      · rw [hw0.2.1, nI_leI (by omega) (by omega)] at q
        refine B_Md_took_33 hM0.1 (md_takenAt hk hM0 hw0 hg0 h2 ?_)
        cases hr : rdk gs m w kd p gs.length with
        | none =>
          rw [rdT_no (by omega) hr] at k
          exact B_Md_took_39 (fun _ => B_Md_took_52 k) (fun z => absurd (by decide) z)
        | some i =>
          obtain ⟨l, gi, l0, i14, hpl⟩ := rdk_at hg0.1 h2 hr
          rw [rdT_st (by omega) hr gi] at k
          refine B_Md_took_39 (fun z => absurd z (nI_pos (by omega))) (fun _ => B_Md_took_46 (fun z => ?_) (fun z => ?_))
          · change ¬ nI s = nI b at z
            rw [nI_eq (by omega) hb] at z
            rw [if_neg (by omega)] at k
            refine B_Md_took_55 hM0.1 (mr_size hM0) (ms_size hM0) (vp_in_nI i14 (by omega)) ?_
            rw [show oI (some i) = nI i from rfl, nI_clamp (by omega), (hg0.2.2.2 i l gi).1, nI_add, nI_1]
            refine ih _ _ _ (by omega) hpl (by omega) (by omega) ?_
            rw [show b - (s + 1) = b - s - 1 by omega]
            exact k
          · change nI s = nI b at z
            rw [nI_eq (by omega) hb] at z
            rw [if_pos (by omega)] at k
            exact B_Md_took_52 k
  exact B_Md_took_14 (fun _ => B_Md_took_20 (loop _ 0 0 _ (by omega) (Nat.zero_le _) (Nat.le_refl _) (Nat.zero_le _) k)) (fun z => absurd (Int32.not_lt.mp hy) z)
