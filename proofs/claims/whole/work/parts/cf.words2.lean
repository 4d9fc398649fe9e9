/-! words, nth, place on the class's side: the public calls -/
theorem CEN.fr {W : Nat → Nat → Prop} {h h' : PH} {c m K M E : Nat} {ad : Nat → Nat} {N gs V : List (List Nat)} {ed : List (Nat × Nat)} {F : Nat → Nat} (hf : Fr W h h') (hw : ∀ x k, W x k → ¬ Wce c ad x) (hC : CEN h c ad K M E N gs m V ed F) : CEN h' c ad K M E N gs m V ed F := by
  obtain ⟨⟨a1, a2, a3, a4, a5, a6, a7, a8⟩, hE, hF, hCt⟩ := hC
  have fi : ∀ f kk, f < 9 → f ≠ 4 → h_i h' (ad f) kk = h_i h (ad f) kk := fun f kk a b => hf.i _ _ (fun z => hw _ _ z (Or.inr ⟨f, a, b, rfl⟩))
  have fl : ∀ f kk, f < 9 → f ≠ 4 → h_l h' (ad f) kk = h_l h (ad f) kk := fun f kk a b => hf.l _ _ (fun z => hw _ _ z (Or.inr ⟨f, a, b, rfl⟩))
  have fc : ∀ kk, h_i h' c kk = h_i h c kk := fun kk => hf.i _ _ (fun z => hw _ _ z (Or.inl rfl))
  refine ⟨⟨CeS.fr hf a1, ⟨(fc 4).trans a2.1, fun t u ht => ?_, a2.2.2⟩, ?_, a4, a5, a6, ⟨(fc 9).trans a7.1, fun i q hq => ?_, fun i hi => ?_, a7.2.2.2⟩, a8⟩, hE, fun s' hs' => (fi 6 _ (by omega) (by omega)).trans (hF s' hs'), fun t u j ht hl => ?_⟩
  · rw [fi 0 _ (by omega) (by omega), fi 1 _ (by omega) (by omega)]
    exact a2.2.1 t u ht
  · obtain ⟨P, hP⟩ := a3
    exact ⟨P, hP.cg (fun p _ => fi 5 _ (by omega) (by omega))⟩
  · rw [fi 7 _ (by omega) (by omega), fi 8 _ (by omega) (by omega)]
    exact a7.2.1 i q hq
  · rw [fi 7 _ (by omega) (by omega)]
    exact a7.2.2.1 i hi
  · obtain ⟨y1, y2⟩ := hCt t u j ht hl
    exact ⟨(fl 2 _ (by omega) (by omega)).trans y1, (fl 3 _ (by omega) (by omega)).trans y2⟩
theorem CeOk.fr {W : Nat → Nat → Prop} {h h' : PH} {m K M E : Nat} {ad : Nat → Nat} {gs : List (List Nat)} (hf : Fr W h h') (hw : ∀ c, h_r h 0 10 = some c → ∀ x k, W x k → ¬ Wce c ad x) (h2 : ¬ W 2 6) (hC : CeOk h gs m ad K M E) : CeOk h' gs m ad K M E := by
  obtain ⟨caps, hn, hC⟩ := hC
  have h10 : h_r h' 0 10 = h_r h 0 10 := by rw [hf.2.1]
  refine ⟨caps, fun e => hn (by rw [← h10]; exact e), fun c e => ?_⟩
  rw [h10] at e
  obtain ⟨q1, q2, q3, q4⟩ := hC c e
  have w := hw c e
  have e10 : h_i h' c 10 = h_i h c 10 := hf.i _ _ (fun z => w _ _ z (Or.inl rfl))
  have e26 : h_i h' 2 6 = h_i h 2 6 := hf.i _ _ h2
  refine ⟨CeS.fr hf q1, fun i hi => ?_, fun z => ?_, fun t ht => ?_⟩
  · rw [hf.i _ _ (fun z => w _ _ z (Or.inr ⟨7, by omega, by omega, rfl⟩))]
    exact q2 i hi
  · rw [e10, e26] at z
    obtain ⟨N, V, ed, F, p1, p2, p3⟩ := q3 z
    exact ⟨N, V, ed, F, p1.fr hf w, p2, p3⟩
  · rw [e10]
    exact q4 t (by rw [← e26]; exact ht)
/-- what a call that asks the census leaves -/
def CeP (h h' : PH) (gs : List (List Nat)) (m : Nat) (ad : Nat → Nat) (K M E c : Nat) (ad' : Nat → Nat) (K' M' E' : Nat) (W : Nat → Nat → Prop) : Prop := h_r h' 0 10 = some c ∧ CeOk h' gs m ad' K' M' E' ∧ CTrz h' gs m ∧ (∀ tb, h_r h' 0 5 = some tb → ∀ x, tb ≤ x → x ≤ tb + 9 → ¬ Wce c ad' x) ∧ (h_r h 0 10 = none → ∀ x, Wce c ad' x → h_ct h ≤ x) ∧ (h_r h 0 5 = none → ∀ tb, h_r h' 0 5 = some tb → h_ct h ≤ tb) ∧ (∀ x, Wce c ad' x → (∃ c0, h_r h 0 10 = some c0 ∧ Wce c0 ad x) ∨ h_ct h ≤ x) ∧ Gq c W h h' ∧ AccR h h' K M E K' M' E' ∧ 63 ≤ c
def wdV (gs : List (List Nat)) (m n w : Nat) : Int64 := if w = 0 then lN (cnF oneN gs m n []) else if w = 1 then lN (cnF onlyN gs m n []) else lN (cnF oneN gs m n []) - lN (cnF onlyN gs m n [])
theorem nI_ofN {x : Int32} {n : Nat} (h0 : ¬ x < 0) (h1 : ¬ nI n < x) (hn : n < 2 ^ 31) : ∃ k, k ≤ n ∧ x = nI k := by
  obtain ⟨k, hk, e⟩ := nI_of h0
  subst e
  rw [nI_ltI hn hk] at h1
  exact ⟨k, by omega, rfl⟩
theorem lN_of0 {x : Int64} (h : 0 ≤ lg_cmp x (0 : Int64)) : ∃ k : Nat, k < 2 ^ 63 ∧ x = lN k := by
  have hx : ¬ x < 0 := fun z => by
    unfold lg_cmp at h
    have z' := Int64.lt_iff_toInt_lt.mp z
    have n1 : ¬ x > 0 := fun y => by
      have y' := Int64.lt_iff_toInt_lt.mp y
      omega
    have n2 : ¬ x = 0 := fun y => by
      rw [y] at z
      exact absurd z (by decide)
    rw [if_neg n1, if_neg n2] at h
    exact absurd h (by decide)
  have h0 : 0 ≤ x.toInt := by
    rw [Int64.lt_iff_toInt_lt] at hx
    have e0 : (0 : Int64).toInt = 0 := rfl
    omega
  have h1 := Int64.toInt_lt x
  refine ⟨x.toInt.toNat, by omega, Int64.toInt_inj.mp ?_⟩
  rw [lN_toI63 (by omega)]
  omega
theorem ow_words {d : Nat} {h : PH} {Q : PQ} {gs : List (List Nat)} {m t K M E : Nat} {ad : Nat → Nat} {x1 x2 : Int32} (hO : OwS h) (hc : 63 ≤ h_ct h) (hz : CTrz h gs m) (hC : CeOk h gs m ad K M E) (hdis : ∀ c tb, h_r h 0 10 = some c → h_r h 0 5 = some tb → ∀ x, tb ≤ x → x ≤ tb + 9 → ¬ Wce c ad x) (hg : CGr h 2 gs m) (hu : unlk gs) (ht : t < 2 ^ 31) (hst : h_i h 2 6 = nI t) (k1 : (x1 < 0 ∨ (10 : Int32) < x1 ∨ x2 < 0 ∨ (2 : Int32) < x2) → Q (some (.long (-1))) h) (k2 : ∀ n w c h' ad' K' M' E', n ≤ 10 → w ≤ 2 → x1 = nI n → x2 = nI w → CeP h h' gs m ad K M E c ad' K' M' E' (Wcn h ad) → Q (some (.long (wdV gs m n w))) h') : wpm (d + 6) 143 [.ref 0, .int x1, .int x2] h Q := by
  refine wpm_in P_Ow_words rfl (by decide) (by show ¬ 3 < 3; decide) ?_
  refine B_Ow_words_0 (fun z => B_Ow_words_19 (k1 (Or.inl z))) (fun z1 => B_Ow_words_4 (fun z => B_Ow_words_19 (k1 (Or.inr (Or.inl z)))) (fun z2 => B_Ow_words_10 (fun z => B_Ow_words_19 (k1 (Or.inr (Or.inr (Or.inl z))))) (fun z3 => B_Ow_words_14 (fun z4 => B_Ow_words_23 hO.1 ?_) (fun z4 => B_Ow_words_19 (k1 (Or.inr (Or.inr (Or.inr ?_))))))))
  · obtain ⟨n, hn, e1⟩ := nI_ofN (n := 10) z1 z2 (by omega)
    obtain ⟨w, hw, e2⟩ := nI_ofN (n := 2) z3 (fun q => absurd z4 (Int32.not_le.mpr q)) (by omega)
    subst e1
    subst e2
    refine ow_freshCensus (d := d) hO hc hz hC hdis hg hu ht hst (fun c h' ad' K' M' E' N V ed F p1 p2 p3 p4 p5 p6 p7 p8 p9 p10 p11 p12 p13 => ?_)
    exact B_Ow_words_27 p2.1.1.1 (ce_amount (d := d + 4) p2 hn hw (B_Ow_words_32 (k2 n w c h' ad' K' M' E' hn hw rfl rfl ⟨p1, p5, p6, p7, p8, p9, p10, p11, p12, p13⟩)))
  · exact Int32.not_le.mp z4
theorem ow_nth {d : Nat} {h : PH} {Q : PQ} {gs : List (List Nat)} {m t K M E : Nat} {ad : Nat → Nat} {x1 : Int32} {l2 : Int64} {w0 : List Nat} (hO : OwS h) (hc : 63 ≤ h_ct h) (hz : CTrz h gs m) (hC : CeOk h gs m ad K M E) (hdis : ∀ c tb, h_r h 0 10 = some c → h_r h 0 5 = some tb → ∀ x, tb ≤ x → x ≤ tb + 9 → ¬ Wce c ad x) (hg : CGr h 2 gs m) (hu : unlk gs) (hw0 : CWd h w0) (ht : t < 2 ^ 31) (hst : h_i h 2 6 = nI t) (k1 : (x1 < 0 ∨ (10 : Int32) < x1 ∨ ¬ 0 ≤ lg_cmp l2 (0 : Int64)) → Q (some (.int 0)) h) (k2 : ∀ n kk c h' ad' K' M' E', n ≤ 10 → x1 = nI n → l2 = lN kk → kk < 2 ^ 63 → cnF oneN gs m n [] ≤ kk → CWd h' w0 → CeP h h' gs m ad K M E c ad' K' M' E' (fun x k => Wcn h ad x k ∨ Wcd x k) → Q (some (.int 0)) h') (k3 : ∀ n kk c h' ad' K' M' E', n ≤ 10 → x1 = nI n → l2 = lN kk → kk < 2 ^ 63 → kk < cnF oneN gs m n [] → CWd h' (nthW gs m n [] kk) → CeP h h' gs m ad K M E c ad' K' M' E' (fun x k => Wcn h ad x k ∨ Wcd x k) → Q (some (.int 1)) h') : wpm (d + 6) 144 [.ref 0, .int x1, .long l2] h Q := by
  refine wpm_in P_Ow_nth rfl (by decide) (by show ¬ 4 < 4; decide) ?_
  refine B_Ow_nth_0 (fun z => B_Ow_nth_16 (k1 (Or.inl z))) (fun z1 => B_Ow_nth_4 (fun z => B_Ow_nth_16 (k1 (Or.inr (Or.inl z)))) (fun z2 => B_Ow_nth_10 (fun z3 => B_Ow_nth_18 hO.1 ?_) (fun z3 => B_Ow_nth_16 (k1 (Or.inr (Or.inr z3))))))
  obtain ⟨n, hn, e1⟩ := nI_ofN (n := 10) z1 z2 (by omega)
  subst e1
  obtain ⟨kk, hk, e2⟩ := lN_of0 z3
  subst e2
  refine ow_freshCensus (d := d) hO hc hz hC hdis hg hu ht hst (fun c h' ad' K' M' E' N V ed F p1 p2 p3 p4 p5 p6 p7 p8 p9 p10 p11 p12 p13 => ?_)
  have hO' := p11.ow hc p13 hO
  have w63 : ∀ x k, Wcd x k → x < 63 := fun x k z => by unfold Wcd at z; omega
  have c63 : ∀ x, Wce c ad' x → 63 ≤ x := fun x z => by
    rcases z with z | ⟨f, f1, f2, z⟩
    · omega
    · have := p2.1.1.2.2.2.2.2.2.2.2.2.1.2 f f1 f2
      omega
  have tr63 : ∀ tb, h_r h 0 5 = some tb → 63 ≤ tb := fun tb e => (hz tb e).1.2.2.2.2.2.2.2.2.2.2.1
  have wn : ∀ x k, x < 63 → ¬ Wcn h ad x k := fun x k hx z => by
    rcases z with ⟨tb, e, a, b⟩ | ⟨c0, e, z⟩
    · have := tr63 tb e
      omega
    · have s := (hC.2.2 c0 e).1
      rcases z with z | ⟨f, f1, f2, z⟩
      · have := s.2.2.2.2.2.2.2.2.2.2.1
        omega
      · have := s.2.2.2.2.2.2.2.2.2.1.2 f f1 f2
        omega
  have hw1 : CWd h' w0 := by
    obtain ⟨a, b, e⟩ := hw0
    exact ⟨a, (p11.i (by omega) (wn _ _ (by omega))).trans b, fun i x hx => (p11.i (by omega) (wn _ _ (by omega))).trans (e i x hx)⟩
  have cont : ∀ h2, Fr Wcd h' h2 → CeP h h2 gs m ad K M E c ad' K' M' E' (fun x k => Wcn h ad x k ∨ Wcd x k) := fun h2 f2 => by
    have c0 : (0 : Nat) ≠ c := by omega
    have hct' := p11.2.1
    refine ⟨by rw [f2.2.1]; exact p1, p5.fr f2 (fun c' e x k z y => ?_) (fun z => by unfold Wcd at z; omega), p6.to (by rw [f2.2.1]) (fun _ _ hT => hT.fr f2) (fun tb e x k a b => f2.i _ _ (fun z => ?_)) (f2.i _ _ (fun z => by unfold Wcd at z; omega)), fun tb e => p7 tb (by rw [← f2.2.1]; exact e), p8, fun e tb e' => p9 e tb (by rw [← f2.2.1]; exact e'), p10, (p11.up (fun _ _ z => Or.inl z)).tr ((f2.ge (c := c)).gq) (fun x k _ z => Or.inr z), p12.tr ((f2.ge (c := c)).accr c0 (by omega) (f2.acc K' M' E')), p13⟩
    · rw [p1] at e
      cases e
      have := w63 x k z
      have := c63 x y
      omega
    · have := w63 x k z
      have := (p6 tb e).1.2.2.2.2.2.2.2.2.2.2.1
      omega
  refine B_Ow_nth_22 hO'.1 (or_theWord hO') p2.1.1.1 (ce_bringTo (d := d + 3) hg.1 hu p3 p4 hO' p2 hn hk (fun hle => ?_) (fun hlt h2 w2 f2 => ?_))
  · exact B_Ow_nth_31 rfl (k2 n kk c h' ad' K' M' E' hn rfl rfl hk hle hw1 (cont h' (Fr.rf _ _)))
  · exact B_Ow_nth_31 rfl (k3 n kk c h2 ad' K' M' E' hn rfl rfl hk hlt w2 (cont h2 f2))
theorem ow_place {d : Nat} {h : PH} {Q : PQ} {gs : List (List Nat)} {m t K M E : Nat} {ad : Nat → Nat} {w : List Nat} (hO : OwS h) (hc : 63 ≤ h_ct h) (hz : CTrz h gs m) (hC : CeOk h gs m ad K M E) (hdis : ∀ c tb, h_r h 0 10 = some c → h_r h 0 5 = some tb → ∀ x, tb ≤ x → x ≤ tb + 9 → ¬ Wce c ad x) (hg : CGr h 2 gs m) (hu : unlk gs) (hw : CWd h w) (ht : t < 2 ^ 31) (hst : h_i h 2 6 = nI t) (k1 : 10 < w.length → Q (some (.long (-1))) h) (k2 : ∀ c h' ad' K' M' E', w.length ≤ 10 → CeP h h' gs m ad K M E c ad' K' M' E' (Wcn h ad) → CWd h' w → Q (some (.long (@ite Int64 (rdc gs m w = 0) (Nat.decEq _ _) (-1) (lN (rkW gs m [] w))))) h') : wpm (d + 6) 145 [.ref 0] h Q := by
  refine wpm_in P_Ow_place rfl (by decide) (by show ¬ 1 < 1; decide) ?_
  have wl := hw.1.1
  refine B_Ow_place_0 hO.1 (or_theWord hO) (os_theWord hO) (fun z => B_Ow_place_18 hO.1 ?_) (fun z => B_Ow_place_12 (B_Ow_place_29 (k1 ?_)))
  · rw [hw.2.1, show (10 : Int32) = nI 10 from rfl, nI_leI (by omega) (by omega)] at z
    refine ow_freshCensus (d := d) hO hc hz hC hdis hg hu ht hst (fun c h' ad' K' M' E' N V ed F p1 p2 p3 p4 p5 p6 p7 p8 p9 p10 p11 p12 p13 => ?_)
    have hO' := p11.ow hc p13 hO
    have tr63 : ∀ tb, h_r h 0 5 = some tb → 63 ≤ tb := fun tb e => (hz tb e).1.2.2.2.2.2.2.2.2.2.2.1
    have wn : ∀ x k, x < 63 → ¬ Wcn h ad x k := fun x k hx z => by
      rcases z with ⟨tb, e, a, b⟩ | ⟨c0, e, z⟩
      · have := tr63 tb e
        omega
      · have s := (hC.2.2 c0 e).1
        rcases z with z | ⟨f, f1, f2, z⟩
        · have := s.2.2.2.2.2.2.2.2.2.2.1
          omega
        · have := s.2.2.2.2.2.2.2.2.2.1.2 f f1 f2
          omega
    have hw1 : CWd h' w := by
      obtain ⟨a, b, e⟩ := hw
      exact ⟨a, (p11.i (by omega) (wn _ _ (by omega))).trans b, fun i x hx => (p11.i (by omega) (wn _ _ (by omega))).trans (e i x hx)⟩
    have kk := k2 c h' ad' K' M' E' z ⟨p1, p5, p6, p7, p8, p9, p10, p11, p12, p13⟩ hw1
    refine B_Ow_place_22 hO'.1 (or_theWord hO') p2.1.1.1 (ce_rankOf (d := d + 4) hg.1 hu p3 p4 hO' p2 hw1 z (fun r0 => B_Ow_place_29 ?_) (fun r1 => B_Ow_place_29 ?_))
    · rw [if_pos r0] at kk
      exact kk
    · rw [if_neg r1] at kk
      exact kk
  · rw [hw.2.1, show (10 : Int32) = nI 10 from rfl, nI_leI (by omega) (by omega)] at z
    omega
