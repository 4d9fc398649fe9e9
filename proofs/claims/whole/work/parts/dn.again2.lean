/-! calls that may make a reader or a speller: told again, with where it is made -/
theorem ow_reads8 {d : Nat} {h : PH} {Q : PQ} {gs : List (List Nat)} {m : Nat} {w : List Nat} {x : Int32} (hO : OwS h) (hc : 63 ≤ h_ct h) (hz : ∀ c, h_r h 0 8 = some c → ReS h c) (hw : CWd h w) (hg : CGr h 2 gs m) (k : ∀ h', Gw (fun _ _ => False) h h' → (∀ c, h_r h' 0 8 = some c → ReS h' c) → (h_r h 0 8 = none → ∀ c, h_r h' 0 8 = some c → h_ct h ≤ c) → Q (some (.int (rdsR gs m w x))) h') : wpm (d + 6) 137 [.ref 0, .int x] h Q := by
  refine wpm_in P_Ow_reads rfl (by decide) (by show ¬ 2 < 2; decide) (B_Ow_reads_0 (re_isKind (fun q => ?_) (fun q => ?_)))
  · refine B_Ow_reads_4 (fun z => absurd z (by decide)) (fun _ => B_Ow_reads_7 hO.1 (ow_theReader2 hO hc hz (fun c h' hG hr hR hn => ?_)))
    have hO' := hG.ow hc hO
    obtain ⟨kd, hk, rfl⟩ := kd_of q
    have e : rdsR gs m w (nI kd) = rdN gs m w kd (w.length + 1) 0 0 := by
      unfold rdsR
      rw [if_neg q, nI_clamp (by omega)]
    refine B_Ow_reads_11 hO'.1 (or_theWord hO') (or_groups hO') hR.1 (re_countTaken hk hO' (hw.gw hG hc (fun _ _ z => z.elim)) (hg.gw hG (by omega) (fun _ _ z => z.elim)) (B_Ow_reads_23 (B_Ow_reads_28 ?_)))
    rw [← e]
    refine k h' hG (fun c' hc' => ?_) (fun e c' e' => by rw [hr] at e'; cases e'; exact hn e)
    rw [hr] at hc'
    exact Option.some.inj hc' ▸ hR
  · refine B_Ow_reads_4 (fun _ => B_Ow_reads_26 (B_Ow_reads_28 ?_)) (fun z => absurd rfl z)
    have e : rdsR gs m w x = -2 := if_pos q
    have := k h (Fr.rf _ _).gw hz (fun e c e' => by rw [e] at e'; cases e')
    rw [e] at this
    exact this
theorem ow_took8 {d : Nat} {h : PH} {Q : PQ} {gs : List (List Nat)} {m : Nat} {w : List Nat} {x y : Int32} (hO : OwS h) (hc : 63 ≤ h_ct h) (hz : ∀ c, h_r h 0 8 = some c → ReS h c) (hw : CWd h w) (hg : CGr h 2 gs m) (k : ∀ h', Gw (fun _ _ => False) h h' → (∀ c, h_r h' 0 8 = some c → ReS h' c) → (h_r h 0 8 = none → ∀ c, h_r h' 0 8 = some c → h_ct h ≤ c) → Q (some (.int (tkR gs m w x y))) h') : wpm (d + 6) 138 [.ref 0, .int x, .int y] h Q := by
  refine wpm_in P_Ow_took rfl (by decide) (by show ¬ 3 < 3; decide) (B_Ow_took_0 (re_isKind (fun q => ?_) (fun q => ?_)))
  · refine B_Ow_took_4 (fun z => absurd z (by decide)) (fun _ => B_Ow_took_7 hO.1 (ow_theReader2 hO hc hz (fun c h' hG hr hR hn => ?_)))
    have hO' := hG.ow hc hO
    obtain ⟨kd, hk, rfl⟩ := kd_of q
    have e : tkR gs m w (nI kd) y = if y < 0 then -1 else rdT gs m w kd (w.length + 1) 0 y.toNatClampNeg := by
      unfold tkR
      rw [nI_clamp (by omega)]
      by_cases z : y < 0
      · rw [if_pos z, if_pos (Or.inr z)]
      · rw [if_neg z, if_neg (fun u => u.elim q z)]
    refine B_Ow_took_11 hO'.1 (or_theWord hO') (or_groups hO') hR.1 (re_takenAt hk hO' (hw.gw hG hc (fun _ _ z => z.elim)) (hg.gw hG (by omega) (fun _ _ z => z.elim)) (B_Ow_took_24 (B_Ow_took_28 ?_)))
    rw [← e]
    refine k h' hG (fun c' hc' => ?_) (fun e c' e' => by rw [hr] at e'; cases e'; exact hn e)
    rw [hr] at hc'
    exact Option.some.inj hc' ▸ hR
  · refine B_Ow_took_4 (fun _ => B_Ow_took_27 (B_Ow_took_28 ?_)) (fun z => absurd rfl z)
    have e : tkR gs m w x y = -1 := if_pos (Or.inl q)
    have := k h (Fr.rf _ _).gw hz (fun e c e' => by rw [e] at e'; cases e')
    rw [e] at this
    exact this
theorem ow_fool8 {d : Nat} {h : PH} {Q : PQ} {gs : List (List Nat)} {m : Nat} {w : List Nat} {x : Int32} (hO : OwS h) (hc : 63 ≤ h_ct h) (hz : ∀ c, h_r h 0 8 = some c → ReS h c) (hw : CWd h w) (hg : CGr h 2 gs m) (k1 : (x < 0 ∨ (2 : Int32) < x) → Q (some (.int (-2))) h) (k2 : ∀ kd o h', kd < 3 → x = nI kd → lst (FW gs m kd) o → CWd h' (o.getD w) → (∀ c, h_r h' 0 8 = some c → ReS h' c) → Gw (fun a k => Wlz 8 3 h a k ∨ Wcd a k) h h' → (h_r h 0 8 = none → ∀ c, h_r h' 0 8 = some c → h_ct h ≤ c) → Q (some (.int (foI o))) h') : wpm (d + 6) 139 [.ref 0, .int x] h Q := by
  refine wpm_in P_Ow_fool rfl (by decide) (by show ¬ 3 < 2; decide) (B_Ow_fool_0 (re_isKind (fun q => B_Ow_fool_4 (fun _ => B_Ow_fool_10 hO.1 (ow_theReader2 hO hc hz (fun c h1 hG hr hR hn => ?_))) (fun z => absurd z (by decide))) (fun q => B_Ow_fool_4 (fun z => absurd rfl z) (fun _ => B_Ow_fool_7 (k1 q)))))
  obtain ⟨kd, hk, rfl⟩ := kd_of q
  have hO1 := hG.ow hc hO
  have c63 := hR.2.2.2.2.1
  have hg1 := hg.gw hG (by omega) (fun _ _ z => z.elim)
  have hw1 := hw.gw hG hc (fun _ _ z => z.elim)
  have fr : ∀ {h' : PH}, h_r h' 0 8 = some c → (h_r h 0 8 = none → ∀ c', h_r h' 0 8 = some c' → h_ct h ≤ c') := fun e e0 c' e1 => by
    rw [e] at e1
    cases e1
    exact hn e0
  refine B_Ow_fool_14 hO1.1 (or_groups hO1) hR.1 (re_findFool hk hR (GrS_2 hO1) hg1 (fun h2 o s2 b2 f2 => ?_))
  have hO2 := f2.ow hO1
  have hR2 := hR.fr f2
  have hr2 : h_r h2 0 8 = some c := by rw [f2.2.1]; exact hr
  cases o with
  | none =>
    refine B_Ow_fool_24 (fun z => absurd rfl z) (fun _ => B_Ow_fool_27 (k2 kd none h2 hk rfl s2 (CWd.gw f2.gw (by have := hG.2.1; omega) (fun a k z => by unfold Wfo at z; omega) hw1) (fun c' e => ?_) (Gw.lz2 (W := Wcd) hc hG (f2.gw.up (fun a k z => Or.inl (by unfold Wfo at z; omega))) (fun _ _ z => z.elim) hr hn) (fr hr2)))
    rw [hr2] at e
    exact Option.some.inj e ▸ hR2
  | some w' =>
    refine B_Ow_fool_24 (fun _ => B_Ow_fool_29 hO2.1 (or_theWord hO2) hR2.1 (re_copyTo hO2 hR2 b2 (fun h3 c3 f3 => B_Ow_fool_37 (f3.ow hO2).1 (or_theWord (f3.ow hO2)) (os_theWord (f3.ow hO2)) ?_))) (fun z => by
      rw [if_neg (fun y => by cases y)] at z
      exact absurd z (by decide))
    rw [c3.2.1]
    refine k2 kd (some w') h3 hk rfl s2 c3 (fun c' e => ?_) (Gw.lz2 (W := Wcd) hc hG ((f2.gw.up (fun a k z => Or.inl (by unfold Wfo at z; omega))).tr (f3.gw.up (fun a k z => Or.inr z))) (fun _ _ z => z.elim) hr hn) (fr (by rw [f3.2.1]; exact hr2))
    rw [f3.2.1, hr2] at e
    exact Option.some.inj e ▸ hR2.fr f3
theorem ow_spell9 {d : Nat} {h : PH} {Q : PQ} {gs : List (List Nat)} {m S : Nat} {so : Nat → Int32} {x0 x1 x2 x3 : Int32} (hO : OwS h) (hc : 63 ≤ h_ct h) (hz : ∀ c, h_r h 0 9 = some c → SpS h c) (hg : CGr h 2 gs m) (hso : CSo h 2 gs.length so) (hs : h_i h 2 4 = nI S) (k1 : spV gs m so (nI S) [x0, x1, x2, x3] = none → ∀ h', Gw (fun x k => Wlz 9 5 h x k ∨ Wcd x k) h h' → (∀ x k, Wcd x k → h_i h' x k = h_i h x k) → (∀ c, h_r h' 0 9 = some c → SpS h' c) → (h_r h 0 9 = none → ∀ c, h_r h' 0 9 = some c → h_ct h ≤ c) → Q (some (.int (-1))) h') (k2 : ∀ v, spV gs m so (nI S) [x0, x1, x2, x3] = some v → (catG gs v).length ≤ 28 → ∀ h', CWd h' (catG gs v) → Gw (fun x k => Wlz 9 5 h x k ∨ Wcd x k) h h' → (∀ c, h_r h' 0 9 = some c → SpS h' c) → (h_r h 0 9 = none → ∀ c, h_r h' 0 9 = some c → h_ct h ≤ c) → Q (some (.int (nI (catG gs v).length))) h') : wpm (d + 11) 141 [.ref 0, .int x0, .int x1, .int x2, .int x3] h Q := by
  refine wpm_in P_Ow_spell rfl (by decide) (by show ¬ 5 < 5; decide) ?_
  refine ow_theSpeller (d := d + 8) hO hc hz (fun c g hG hr hS e1 e2 => ?_)
  have hO1 := hG.ow hc hO
  have hg1 : CGr g 2 gs m := hg.gw hG (by omega) (fun _ _ z => z.elim)
  have hso1 : CSo g 2 gs.length so := fun k hk => (hG.i (by omega) (fun z => z)).trans (hso k hk)
  have hs1 : h_i g 2 4 = nI S := (hG.i (by omega) (fun z => z)).trans hs
  have hc63 : 63 ≤ c := hS.2.2.2.2.2.2.1
  have fin : ∀ {W : Nat → Nat → Prop} {h' : PH}, Fr W g h' → (∀ x k, W x k → (c ≤ x ∧ x ≤ c + 5) ∨ Wcd x k) → Gw (fun x k => Wlz 9 5 h x k ∨ Wcd x k) h h' ∧ ∀ c', h_r h' 0 9 = some c' → SpS h' c' := fun {W h'} hf hw => by
    refine ⟨hG.lz (hf.gw.up hw) (fun c' e => (e1 c' e).1) e2, fun c' hc' => ?_⟩
    have hr' := hf.gw.rs (by have := hG.2.1; omega) hr
    rw [hr'] at hc'
    exact Option.some.inj hc' ▸ hS.fr hf
  have fr9 : ∀ {W : Nat → Nat → Prop} {h' : PH}, Fr W g h' → (h_r h 0 9 = none → ∀ c', h_r h' 0 9 = some c' → h_ct h ≤ c') := fun hf e c' e' => by
    have hr' := hf.gw.rs (by have := hG.2.1; omega) hr
    rw [hr'] at e'
    cases e'
    exact Nat.le_of_eq (e2 e).symm
  have old : ∀ {h' : PH}, Fr (Wsp c) g h' → ∀ x k, Wcd x k → h_i h' x k = h_i h x k := fun {h'} hf x k hx => by
    have hxx : x < 63 := by unfold Wcd at hx; omega
    rw [hf.i _ _ (fun z => by unfold Wsp at z; omega), hG.i (by omega) (fun z => z)]
  refine B_Ow_spell_18 hO1.1 hr (or_groups hO1) hS.1 (sp_ask (d := d + 9) hS hO1 hs1 (fun hn h' hf => ?_) (fun A hA hA4 hA0 h' hcn hen hf => ?_))
  · obtain ⟨f1, f2⟩ := fin hf (fun x k q => Or.inl q)
    refine B_Ow_spell_34 (fun _ => B_Ow_spell_51 (k1 ?_ h' f1 (old hf) f2 (fr9 hf))) (fun z => absurd rfl z)
    unfold spV
    rw [hn]
  · have hO2 := hf.ow hO1
    have hS2 := hS.fr hf
    have hg2 : CGr h' 2 gs m := hg1.fr hf (fun a k q => by unfold Wsp at q; omega)
    have hso2 : CSo h' 2 gs.length so := hso1.fr' hf (fun k q => by unfold Wsp at q; omega)
    have hr2 : h_r h' 0 9 = some c := hf.gw.rs (by have := hG.2.1; omega) hr
    have eV : spV gs m so (nI S) [x0, x1, x2, x3] = spF gs m so A [] none := by
      unfold spV
      rw [hA]
    refine B_Ow_spell_34 (fun z => absurd z (by decide)) (fun _ => B_Ow_spell_37 hO2.1 hr2 (or_groups hO2) hS2.1 (sp_search (d := d + 1) hA4 hA0 hS2 hO2 hg2 hso2 hcn hen (fun hn h2 hf2 => ?_) (fun v hv h2 hf2 hvl hv28 hcn2 hen2 => ?_)))
    · obtain ⟨f1, f2⟩ := fin (hf.tr hf2) (fun x k q => Or.inl q)
      exact B_Ow_spell_48 (fun z => absurd rfl z) (fun _ => B_Ow_spell_51 (k1 (eV.trans hn) h2 f1 (old (hf.tr hf2)) f2 (fr9 (hf.tr hf2))))
    · have hF := hf.tr hf2
      have hO3 := hF.ow hO1
      have hS3 := hS.fr hF
      have hg3 : CGr h2 2 gs m := hg1.fr hF (fun a k q => by unfold Wsp at q; omega)
      have hr3 : h_r h2 0 9 = some c := hF.gw.rs (by have := hG.2.1; omega) hr
      refine B_Ow_spell_48 (fun _ => B_Ow_spell_53 hO3.1 hr3 (or_groups hO3) (or_theWord hO3) hS3.1 (sp_copyTo (d := d + 7) (by omega) hS3 hO3 hg3 hv28 (by rw [hcn2, hvl]) hen2 (fun h3 hw3 hf3 => ?_))) (fun z => absurd z (by decide))
      have hF3 : Fr (fun x k => Wsp c x k ∨ Wcd x k) g h3 := (hF.up (fun x k q => Or.inl q)).tr (hf3.up (fun x k q => Or.inr q))
      obtain ⟨f1, f2⟩ := fin hF3 (fun x k q => q)
      have hO4 := hf3.ow hO3
      refine B_Ow_spell_68 hO4.1 (or_theWord hO4) (os_theWord hO4) ?_
      rw [hw3.2.1]
      exact k2 v (eV.trans hv) hv28 h3 hw3 f1 f2 (fr9 hF3)
