/-! fool on the class's side: a trial, the better one kept -/
def CBst (h : PH) (c : Nat) : Option (List Nat) → Prop
  | none => h_i h c 1 = 0
  | some w => lets w ∧ 0 < w.length ∧ w.length ≤ 14 ∧ h_i h c 1 = nI w.length ∧ ∀ i x, w[i]? = some x → h_i h (c + 1) i = nI x
def CTri (h : PH) (c : Nat) (w : List Nat) : Prop := lets w ∧ w.length ≤ 14 ∧ h_i h c 3 = nI w.length ∧ ∀ i x, w[i]? = some x → h_i h (c + 2) i = nI x
theorem CBst.fr {W : Nat → Nat → Prop} {h h' : PH} {c : Nat} {o : Option (List Nat)} (hf : Fr W h h') (hw : ∀ a k, W a k → ¬ ((a = c ∧ k = 1) ∨ a = c + 1)) (hb : CBst h c o) : CBst h' c o := by
  cases o with
  | none => exact (hf.i _ _ (fun z => hw _ _ z (Or.inl ⟨rfl, rfl⟩))).trans hb
  | some w => exact ⟨hb.1, hb.2.1, hb.2.2.1, (hf.i _ _ (fun z => hw _ _ z (Or.inl ⟨rfl, rfl⟩))).trans hb.2.2.2.1, fun i x hx => (hf.i _ _ (fun z => hw _ _ z (Or.inr rfl))).trans (hb.2.2.2.2 i x hx)⟩
theorem ReS.fr {W : Nat → Nat → Prop} {h h' : PH} {c : Nat} (hf : Fr W h h') (hr : ReS h c) : ReS h' c := hr.gw hf.gw
theorem re_prefers2 {d : Nat} {h : PH} {Q : PQ} {gs : List (List Nat)} {m kd a b : Nat} (hk : kd < 3) (hG : GrS h 2) (hg : CGr h 2 gs m) (ha : a < gs.length) (hb : b < gs.length) (kt : pfR gs kd a b → Q (some (.int 1)) h) (kf : ¬ pfR gs kd a b → Q (some (.int 0)) h) : wpm (d + 1) 50 [.ref 2, .int (nI kd), .int (nI b), .int (nI a)] h Q := by
  refine wpm_in P_Re_prefers rfl (by decide) (by show ¬ 4 < 4; decide) ?_
  obtain ⟨a1, a2, a3⟩ := hg.1.at (gS ha)
  obtain ⟨b1, b2, b3⟩ := hg.1.at (gS hb)
  have a7 := a1.2
  have b7 := b1.2
  have va : vp_in (nI a) 14 := vp_in_nI a3 (by omega)
  have vb : vp_in (nI b) 14 := vp_in_nI b3 (by omega)
  have ea := (hg.2.2.2 _ _ (gS ha)).2
  have eb := (hg.2.2.2 _ _ (gS hb)).2
  refine B_Re_prefers_0 (fun z => ?_) (fun z => ?_)
  · have k0 : ¬ kd = 0 := fun y => z (by rw [y]; rfl)
    refine B_Re_prefers_25 (fun y => ?_) (fun y => ?_)
    · have k1 : ¬ kd = 1 := fun w => y (by rw [w]; rfl)
      refine B_Re_prefers_53 (fun w => B_Re_prefers_62 (B_Re_prefers_63 (by decide) (kf (fun v => ?_)))) (fun w => B_Re_prefers_58 (B_Re_prefers_63 (by decide) (kt (Or.inr (Or.inr ⟨by omega, ?_⟩)))))
      · rw [nI_leI (by omega) (by omega)] at w
        rcases v with v | v | v
        · exact k0 v.1
        · exact k1 v.1
        · omega
      · rw [nI_leI (by omega) (by omega)] at w
        omega
    · have k1 : kd = 1 := (nI_eq (b := 1) (by omega) (by omega)).mp y
      refine B_Re_prefers_30 hG.1 hG.2.2.1.1 hG.2.2.1.2 vb va (fun w => B_Re_prefers_49 (B_Re_prefers_63 (by decide) (kf (fun v => ?_)))) (fun w => B_Re_prefers_45 (B_Re_prefers_63 (by decide) (kt (Or.inr (Or.inl ⟨k1, ?_⟩)))))
      · rw [nI_clamp (by omega), nI_clamp (by omega), ea, eb, nI_leI (by omega) (by omega)] at w
        rcases v with v | v | v <;> omega
      · rw [nI_clamp (by omega), nI_clamp (by omega), ea, eb, nI_leI (by omega) (by omega)] at w
        omega
  · have k0 : kd = 0 := (nI_eq (b := 0) (by omega) (by omega)).mp z
    refine B_Re_prefers_4 hG.1 hG.2.2.1.1 hG.2.2.1.2 vb va (fun w => B_Re_prefers_23 (B_Re_prefers_24 (by decide) (kf (fun v => ?_)))) (fun w => B_Re_prefers_19 (B_Re_prefers_24 (by decide) (kt (Or.inl ⟨k0, ?_⟩))))
    · rw [nI_clamp (by omega), nI_clamp (by omega), ea, eb, nI_leI (by omega) (by omega)] at w
      rcases v with v | v | v <;> omega
    · rw [nI_clamp (by omega), nI_clamp (by omega), ea, eb, nI_leI (by omega) (by omega)] at w
      omega
theorem re_startTrial {d : Nat} {h : PH} {Q : PQ} {gs : List (List Nat)} {m c j : Nat} (hR : ReS h c) (hG : GrS h 2) (hg : CGr h 2 gs m) (hj : j < gs.length) (k : ∀ h', CTri h' c (gs.getD j []) → Fr (fun a k => (a = c ∧ k = 3) ∨ a = c + 2) h h' → Q none h') : wpm (d + 2) 55 [.ref c, .ref 2, .int (nI j)] h Q := by
  refine wpm_in P_Re_startTrial rfl (by decide) (by show ¬ 4 < 3; decide) ?_
  have gj := gS hj
  obtain ⟨l1, l2, l3⟩ := hg.1.at gj
  have l7 := l1.2
  have c63 := hR.2.2.2.2.1
  have vj : vp_in (nI j) 14 := vp_in_nI l3 (by omega)
  obtain ⟨e1, e2⟩ := hg.2.2.2 _ _ gj
  refine B_Re_startTrial_0 hG.1 hG.2.2.1.1 hG.2.2.1.2 vj hR.1 ?_
  rw [nI_clamp (by omega), e2]
  have loop : ∀ (e i : Nat) (g : PH), (gs.getD j []).length - i = e → i ≤ (gs.getD j []).length → Fr (fun a k => (a = c ∧ k = 3) ∨ a = c + 2) h g → h_i g c 3 = nI (gs.getD j []).length → (∀ i' x, i' < i → (gs.getD j [])[i']? = some x → h_i g (c + 2) i' = nI x) → wpx (d + 1) P_Re_startTrial 12 [.ref c, .ref 2, .int (nI j), .int (nI i)] [] g Q := by
    intro e
    induction e with
    | zero =>
      intro i g he hi hf h3 hx
      have ei : i = (gs.getD j []).length := by omega
      subst ei
      refine B_Re_startTrial_12 (hR.fr hf).1 (fun _ => B_Re_startTrial_49 (k g ⟨l1.1, by omega, h3, fun i x hi => hx i x (List.getElem?_eq_some_iff.mp hi).1 hi⟩ hf)) (fun q => ?_)
      rw [h3, nI_leI (by omega) (by omega)] at q
      omega
    | succ e ih =>
      intro i g he hi hf h3 hx
      have hR' := hR.fr hf
      have hG' := hf.gr hG
      have gx : (gs.getD j [])[i]? = some (gs.getD j [])[i] := List.getElem?_eq_getElem (by omega)
      have xb := l1.1 _ (List.mem_of_getElem? gx)
      have q1 : h_l g 3 (nI j).toNatClampNeg = pk (gs.getD j []) := by rw [nI_clamp (by omega), hf.l _ _ (by omega)]; exact e1
      have q2 : h_i g 4 (nI j).toNatClampNeg = nI (gs.getD j []).length := by rw [nI_clamp (by omega), hf.i _ _ (by omega)]; exact e2
      refine B_Re_startTrial_12 hR'.1 (fun q => ?_) (fun _ => B_Re_startTrial_20 hR'.1 hR'.2.2.1.1 hG'.1 hG'.2.1.1 hG'.2.1.2 vj hG'.2.2.1.1 hG'.2.2.1.2 vj ?_)
      · rw [h3, nI_leI (by omega) (by omega)] at q
        omega
      rw [q1, q2]
      refine ow_signOf l1 (B_Re_startTrial_41 hR'.2.2.1.2 (vp_in_nI (by omega) (by omega)) ?_)
      rw [sgn_le l1 gx, t_3 _ xb.2, nI_clamp (by omega), nI_1]
      refine ih (i + 1) _ (by omega) (by omega) (hf.tr (Fr.wi g _ (Or.inr rfl))) ((wi_ne _ _ (by omega)).trans h3) (fun i' x hi' hx' => ?_)
      by_cases w : i' = i
      · subst w
        rw [gx] at hx'
        rw [wi_eq, Option.some.inj hx']
      · exact (wi_ne _ _ (by omega)).trans (hx i' x (by omega) hx')
  exact loop (gs.getD j []).length 0 _ rfl (Nat.zero_le _) (Fr.wi h _ (Or.inl ⟨rfl, rfl⟩)) (wi_eq _ _ _ _) (fun i' x hi => absurd hi (Nat.not_lt_zero _))
theorem re_earlier {d : Nat} {h : PH} {Q : PQ} {c : Nat} {w b : List Nat} (hR : ReS h c) (hT : CTri h c w) (hB : CBst h c (some b)) (hl : w.length = b.length) (k : Q (some (.int (if pkN w < pkN b then 1 else 0))) h) : wpm (d + 1) 59 [.ref c] h Q := by
  refine wpm_in P_Re_trialIsEarlier rfl (by decide) (by show ¬ 2 < 1; decide) (B_Re_trialIsEarlier_0 ?_)
  obtain ⟨w1, w2, w3, w4⟩ := hT
  obtain ⟨b1, b2, b3, b4, b5⟩ := hB
  have loop : ∀ (e i : Nat), w.length - i = e → i ≤ w.length → (∀ j, j < i → w[j]? = b[j]?) → wpx d P_Re_trialIsEarlier 2 [.ref c, .int (nI i)] [] h Q := by
    intro e
    induction e with
    | zero =>
      intro i he hi hs
      have ew : w = b := List.ext_getElem? (fun j => by
        by_cases z : j < i
        · exact hs j z
        · rw [List.getElem?_eq_none (by omega), List.getElem?_eq_none (by omega)])
      refine B_Re_trialIsEarlier_2 hR.1 (fun _ => B_Re_trialIsEarlier_52 ?_) (fun q => ?_)
      · rw [if_neg (by rw [ew]; omega)] at k
        exact k
      · rw [w3, nI_leI (by omega) (by omega)] at q
        omega
    | succ e ih =>
      intro i he hi hs
      have gw : w[i]? = some w[i] := List.getElem?_eq_getElem (by omega)
      have gb : b[i]? = some b[i] := List.getElem?_eq_getElem (by omega)
      have xw := (w1 _ (List.mem_of_getElem? gw)).2
      have xb := (b1 _ (List.mem_of_getElem? gb)).2
      have vi : vp_in (nI i) 14 := vp_in_nI (by omega) (by omega)
      refine B_Re_trialIsEarlier_2 hR.1 (fun q => ?_) (fun _ => B_Re_trialIsEarlier_10 hR.1 hR.2.2.1.1 hR.2.2.1.2 vi hR.2.1.1 hR.2.1.2 vi (fun z => B_Re_trialIsEarlier_46 ?_) (fun z => B_Re_trialIsEarlier_25 hR.1 hR.2.2.1.1 hR.2.2.1.2 vi hR.2.1.1 hR.2.1.2 vi (fun y => B_Re_trialIsEarlier_44 (B_Re_trialIsEarlier_45 (by decide) ?_)) (fun y => B_Re_trialIsEarlier_40 (B_Re_trialIsEarlier_45 (by decide) ?_))))
      · rw [w3, nI_leI (by omega) (by omega)] at q
        omega
      · rw [nI_clamp (by omega), w4 _ _ gw, b5 _ _ gb, nI_eq (by omega) (by omega)] at z
        rw [nI_1]
        refine ih (i + 1) (by omega) (by omega) (fun j hj => ?_)
        by_cases v : j = i
        · rw [v, gw, gb, z]
        · exact hs j (by omega)
      · rw [nI_clamp (by omega), w4 _ _ gw, b5 _ _ gb, nI_eq (by omega) (by omega)] at z
        rw [nI_clamp (by omega), w4 _ _ gw, b5 _ _ gb, nI_leI (by omega) (by omega)] at y
        have := pkN_dif i b w _ _ b1 w1 hl.symm gb gw (fun j hj => (hs j hj).symm) (by omega)
        rw [if_neg (by omega)] at k
        exact k
      · rw [nI_clamp (by omega), w4 _ _ gw, b5 _ _ gb, nI_leI (by omega) (by omega)] at y
        have := pkN_dif i w b _ _ w1 b1 hl gw gb hs (by omega)
        rw [if_pos this] at k
        exact k
  exact loop w.length 0 rfl (Nat.zero_le _) (fun j hj => absurd hj (Nat.not_lt_zero _))
theorem fit_b : ∀ x : Nat, x < 28 → fits .byte (.int (nI x)) = true := by decide
theorem re_keepBetter {d : Nat} {h : PH} {Q : PQ} {c : Nat} {w : List Nat} {o : Option (List Nat)} (hR : ReS h c) (hT : CTri h c w) (h0 : 0 < w.length) (hB : CBst h c o) (k : ∀ h', CBst h' c (bet o w) → Fr (fun a k => (a = c ∧ k = 1) ∨ a = c + 1) h h' → Q none h') : wpm (d + 2) 58 [.ref c] h Q := by
  refine wpm_in P_Re_keepBetter rfl (by decide) (by show ¬ 1 < 1; decide) ?_
  obtain ⟨w1, w2, w3, w4⟩ := hT
  have copy : (∀ h', CBst h' c (some w) → Fr (fun a k => (a = c ∧ k = 1) ∨ a = c + 1) h h' → Q none h') → wpx (d + 1) P_Re_keepBetter 36 [.ref c] [] h Q := fun kk => by
    refine B_Re_keepBetter_36 hR.1 hR.2.2.1.1 hR.2.1.1 hR.2.2.1.2 hR.2.1.2 ⟨by decide, by decide, ?_, ?_, ?_, ?_⟩ (B_Re_keepBetter_61 ?_)
    · rw [w3]
      exact nI_pos (by omega)
    · rw [w3, nI_clamp (by omega)]
      show 0 + w.length ≤ 14
      omega
    · rw [w3, nI_clamp (by omega)]
      show 0 + w.length ≤ 14
      omega
    · rw [w3, nI_clamp (by omega)]
      refine List.all_eq_true.mpr (fun j hj => ?_)
      have hj' := List.mem_range.mp hj
      have gw : w[j]? = some w[j] := List.getElem?_eq_getElem hj'
      show fits .byte (.int (h_i h (c + 2) (0 + j))) = true
      rw [Nat.zero_add, w4 _ _ gw]
      exact fit_b _ (w1 _ (List.mem_of_getElem? gw)).2
    · rw [wri_ne _ _ (by omega), w3, nI_clamp (by omega)]
      refine kk _ ⟨w1, h0, w2, wi_eq _ _ _ _, fun i x hx => ?_⟩ ((Fr.wri h _ (fun _ => Or.inr rfl)).tr (Fr.wi _ _ (Or.inl ⟨rfl, rfl⟩)))
      have hi := (List.getElem?_eq_some_iff.mp hx).1
      rw [wi_ne _ _ (by omega), wri_eq, cpyI hi]
      exact w4 i x hx
  cases o with
  | none =>
    have b0 : h_i h c 1 = 0 := hB
    exact B_Re_keepBetter_0 hR.1 (fun _ => copy k) (fun z => absurd b0 z)
  | some b =>
    obtain ⟨b1, b2, b3, b4, b5⟩ := hB
    have hlt : pkN w < pkN b → wpx (d + 1) P_Re_keepBetter 36 [.ref c] [] h Q := fun z => copy (fun h' q f => k h' (by
      show CBst h' c (if pkN w < pkN b then some w else some b)
      rw [if_pos z]
      exact q) f)
    have hge : ¬ pkN w < pkN b → Q none h := fun z => k h (by
      show CBst h c (if pkN w < pkN b then some w else some b)
      rw [if_neg z]
      exact ⟨b1, b2, b3, b4, b5⟩) (Fr.rf _ _)
    refine B_Re_keepBetter_0 hR.1 (fun z => ?_) (fun _ => B_Re_keepBetter_7 hR.1 (fun z => hlt ?_) (fun z => B_Re_keepBetter_18 hR.1 (fun y => B_Re_keepBetter_61 (hge ?_)) (fun y => B_Re_keepBetter_29 hR.1 (re_earlier hR ⟨w1, w2, w3, w4⟩ ⟨b1, b2, b3, b4, b5⟩ ?_ ?_))))
    · rw [b4, show (0 : Int32) = nI 0 from rfl, nI_eq (by omega) (by omega)] at z
      omega
    · rw [w3, b4, nI_ltI (by omega) (by omega)] at z
      exact pkN_sh w1 b1 z
    · rw [w3, b4, nI_ltI (by omega) (by omega)] at z
      rw [w3, b4, nI_eq (by omega) (by omega)] at y
      have := pkN_sh b1 w1 (show b.length < w.length by omega)
      omega
    · rw [w3, b4, nI_eq (by omega) (by omega)] at y
      exact y
    · by_cases v : pkN w < pkN b
      · rw [if_pos v]
        exact B_Re_keepBetter_33 (fun q => absurd q (by decide)) (fun _ => hlt v)
      · rw [if_neg v]
        exact B_Re_keepBetter_33 (fun _ => B_Re_keepBetter_61 (hge v)) (fun q => absurd rfl q)
