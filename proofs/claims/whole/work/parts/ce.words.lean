/-! words, nth, place on the class's side: the calls -/
theorem Gw.accr {W : Nat → Nat → Prop} {h h' : PH} (a : Gw W h h') (K M E : Nat) : AccR h h' K M E K M E := by
  have h1 := a.2.2.1
  have h2 := a.2.2.2.1
  exact ⟨by omega, by omega⟩
theorem AccR.tr {h h1 h2 : PH} {K M E K1 M1 E1 K2 M2 E2 : Nat} (a : AccR h h1 K M E K1 M1 E1) (b : AccR h1 h2 K1 M1 E1 K2 M2 E2) : AccR h h2 K M E K2 M2 E2 := by
  obtain ⟨a1, a2⟩ := a
  obtain ⟨b1, b2⟩ := b
  exact ⟨by omega, by omega⟩
theorem Ge.accr {c : Nat} {W : Nat → Nat → Prop} {h h' : PH} {K M E K' M' E' : Nat} (a : Ge c W h h') (hc : 0 ≠ c) (h0 : 0 < h_ct h) (b : Acc h h' K M E K' M' E') : AccR h h' K M E K' M' E' := by
  obtain ⟨e1, e2⟩ := rest_eq (h := h) (h' := h') (fun k => a.2.2.2.1 0 k h0 hc)
  obtain ⟨b1, b2⟩ := b
  unfold AccR
  rw [e1, e2]
  exact ⟨by omega, by omega⟩
def Wcn (h : PH) (ad : Nat → Nat) (x k : Nat) : Prop := Wlz 5 9 h x k ∨ ∃ c, h_r h 0 10 = some c ∧ Wce c ad x
theorem ow_freshCensus {d : Nat} {h : PH} {Q : PQ} {gs : List (List Nat)} {m t K M E : Nat} {ad : Nat → Nat} (hO : OwS h) (hc : 63 ≤ h_ct h) (hz : CTrz h gs m) (hC : CeOk h gs m ad K M E) (hdis : ∀ c tb, h_r h 0 10 = some c → h_r h 0 5 = some tb → ∀ x, tb ≤ x → x ≤ tb + 9 → ¬ Wce c ad x) (hg : CGr h 2 gs m) (hu : unlk gs) (ht : t < 2 ^ 31) (hst : h_i h 2 6 = nI t) (k : ∀ c h' ad' K' M' E' N V ed F, h_r h' 0 10 = some c → CEN h' c ad' K' M' E' N gs m V ed F → okN N → (∀ x, isI gs m x → x ∈ N) → CeOk h' gs m ad' K' M' E' → CTrz h' gs m → (∀ tb, h_r h' 0 5 = some tb → ∀ x, tb ≤ x → x ≤ tb + 9 → ¬ Wce c ad' x) → (h_r h 0 10 = none → ∀ x, Wce c ad' x → h_ct h ≤ x) → (h_r h 0 5 = none → ∀ tb, h_r h' 0 5 = some tb → h_ct h ≤ tb) → (∀ x, Wce c ad' x → (∃ c0, h_r h 0 10 = some c0 ∧ Wce c0 ad x) ∨ h_ct h ≤ x) → Gq c (Wcn h ad) h h' → AccR h h' K M E K' M' E' → 63 ≤ c → Q (some (.ref c)) h') : wpm (d + 5) 154 [.ref 0] h Q := by
  refine wpm_in P_Ow_freshCensus rfl (by decide) (by show ¬ 1 < 1; decide) ?_
  have ho := hg.1
  obtain ⟨caps, hn64, hC⟩ := hC
  have at18 : ∀ c g ad1, Gw (fun _ _ => False) h g → h_r g 0 10 = some c → CeS g c ad1 K M E → (∀ i, i < E → ∃ x, x < 28 ∧ h_i g (ad1 7) i = nI x) → (h_i g c 10 = h_i g 2 6 → ∃ N V ed F, CEN g c ad1 K M E N gs m V ed F ∧ okN N ∧ ∀ x, isI gs m x → x ∈ N) → (∀ t, h_i g 2 6 = nI t → SB (h_i g c 10) t) → ((h_r h 0 10 = some c ∧ ad1 = ad) ∨ (h_r h 0 10 = none ∧ ∀ x, Wce c ad1 x → h_ct h ≤ x)) → h_r g 0 5 = h_r h 0 5 → wpx (d + 4) P_Ow_freshCensus 18 [.ref 0] [] g Q := fun c g ad1 hG hr hS hby hsm hsb hold h5 => by
    have hO1 := hG.ow hc hO
    have hcg : 63 ≤ h_ct g := by have := hG.2.1; omega
    have hg1 : CGr g 2 gs m := hg.gw hG (by omega) (fun _ _ z => z.elim)
    have hst1 : h_i g 2 6 = nI t := (hG.i (by omega) (fun z => z)).trans hst
    have hz1 : CTrz g gs m := hz.gw hG hc h5 (fun _ _ _ _ z => z.elim) (fun _ z => z)
    have c63 : 63 ≤ c := hS.2.2.2.2.2.2.2.2.2.2.1
    have cct : c < h_ct g := hS.2.2.2.2.2.2.2.2.2.2.2
    have s9 : adI c (h_ct g) ad1 := hS.2.2.2.2.2.2.2.2.2.1
    have wl : ∀ x, Wce c ad1 x → x < h_ct g ∧ 63 ≤ x := fun x z => by
      rcases z with z | ⟨f, f1, f2, z⟩
      · omega
      · have := s9.2 f f1 f2
        omega
    have wold : ∀ x, Wce c ad1 x → (∃ c0, h_r h 0 10 = some c0 ∧ Wce c0 ad x) ∨ h_ct h ≤ x := fun x z => by
      rcases hold with ⟨a, b⟩ | ⟨_, b⟩
      · rw [b] at z
        exact Or.inl ⟨c, a, z⟩
      · exact Or.inr (b x z)
    have nnew : h_r h 0 10 = none → ∀ x, Wce c ad1 x → h_ct h ≤ x := fun e x z => by
      rcases hold with ⟨a, _⟩ | ⟨_, b⟩
      · rw [a] at e
        cases e
      · exact b x z
    have dj : ∀ tb, h_r h 0 5 = some tb → ∀ x, tb ≤ x → x ≤ tb + 9 → ¬ Wce c ad1 x := fun tb e x a b z => by
      rcases hold with ⟨e1, e2⟩ | ⟨_, e2⟩
      · rw [e2] at z
        exact hdis c tb e1 e x a b z
      · have := (hz tb e).1.2.2.2.2.2.2.2.2.2.2.2
        have := e2 x z
        omega
    refine B_Ow_freshCensus_18 hO1.1 hr hS.1 (or_groups hO1) (os_groups hO1) (fun z => ?_) (fun z => B_Ow_freshCensus_35 hO1.1 hr (ow_freshTree (d := d) hO1 hcg hz1 hg1 ht hst1 (fun tb g2 N hG2 hr5 hT2 hN2 hz2 hn5 => ?_)))
    · obtain ⟨N, V, ed, F, e1, e2, e3⟩ := hsm z
      refine B_Ow_freshCensus_53 hO1.1 hr (k c g ad1 K M E N V ed F hr e1 e2 e3 ⟨caps, fun e => (by rw [hr] at e; cases e), fun c' e => ?_⟩ hz1 (fun tb e => dj tb (by rw [← h5]; exact e)) nnew (fun e tb e' => by rw [h5, e] at e'; cases e') wold ((hG.gq).up (fun _ _ z => z.elim)) (hG.accr K M E) c63)
      rw [hr] at e
      cases e
      exact ⟨hS, hby, hsm, hsb⟩
    · have hO2 := hG2.ow hcg hO1
      have hr2 := hG2.rs (by omega) hr
      have hS2 := hS.gw hG2
      have dj2 : ∀ x, tb ≤ x → x ≤ tb + 9 → ¬ Wce c ad1 x := fun x a b z => by
        have := wl x z
        cases e5 : h_r g 0 5 with
        | none =>
          have := hn5 e5
          omega
        | some tb0 =>
          have e6 := hG2.rs (by omega) e5
          rw [hr5] at e6
          have et : tb = tb0 := Option.some.inj e6
          subst et
          rw [h5] at e5
          exact dj tb e5 x a b z
      have tb63 := hT2.2.2.2.2.2.2.2.2.2.2.1
      have nW : ∀ x k, Wce c ad1 x → ¬ Wlz 5 9 g x k := fun x k z ⟨tb0, e5, a, b⟩ => by
        rw [h5] at e5
        exact dj tb0 e5 x a b z
      have i7 : ∀ i, h_i g2 (ad1 7) i = h_i g (ad1 7) i := fun i => hG2.i (by have := s9.2 7 (by omega) (by omega); omega) (nW _ _ (Or.inr ⟨7, by omega, by omega, rfl⟩))
      have st2 : h_i g2 2 6 = nI t := (hG2.i (by omega) (fun ⟨tb0, e5, a, b⟩ => by have := (hz1 tb0 e5).1.2.2.2.2.2.2.2.2.2.2.1; omega)).trans hst1
      refine B_Ow_freshCensus_43 hO2.1 (or_groups hO2) (os_groups hO2) hS2.1 ?_
      refine ce_build (d := d) ho hu hT2 hN2 dj2 hS2 caps.1 caps.2.1 caps.2.2 (fun i hi => by rw [i7]; exact hby i hi) (fun g3 ad' K' M' E' V ed F hN3 hG3 hA3 had3 hs3 => ?_)
      have c0 : (0 : Nat) ≠ c := by omega
      have ct2 : 63 ≤ h_ct g2 := by have := hG2.2.1; omega
      have hr3 : h_r g3 0 10 = some c := (hG3.2.2.2.1 0 10 (by omega) c0).trans hr2
      have hr35 : h_r g3 0 5 = some tb := (hG3.2.2.2.1 0 5 (by omega) c0).trans hr5
      have w63 : ∀ x k, x < 63 → ¬ (WcK c ad1 x k ∨ (x = c ∧ k = 10)) := fun x k hx z => by
        rcases z with z | z
        · have := wl x z.W
          omega
        · omega
      have i26 : h_i g3 2 6 = h_i g2 2 6 := hG3.i (by omega) (w63 2 6 (by omega))
      have wW : ∀ x k, (WcK c ad1 x k ∨ (x = c ∧ k = 10)) → Wce c ad1 x := fun x k z => z.elim WcK.W (fun y => Or.inl y.1)
      have hz3 : CTrz g3 gs m := hz2.to (hG3.2.2.2.1 0 5 (by omega) c0) (fun c' e hT => by
        rw [hr5] at e
        cases e
        exact hT.ge hG3 (fun q => dj2 tb (Nat.le_refl _) (by omega) (Or.inl q))) (fun c' e x k a b => by
        rw [hr5] at e
        cases e
        exact hG3.i (by have := hT2.2.2.2.2.2.2.2.2.2.2.2; omega) (fun q => dj2 x a b (wW x k q))) i26
      have hS3 := hN3.1.1
      have c3 : ∀ x, Wce c ad' x → Wce c ad1 x ∨ h_ct g2 ≤ x := fun x z => by
        rcases z with z | ⟨f, f1, f2, z⟩
        · exact Or.inl (Or.inl z)
        · rcases had3 f with q | q
          · exact Or.inl (Or.inr ⟨f, f1, f2, by rw [z, q]⟩)
          · exact Or.inr (by omega)
      have ctg := hG.2.1
      have ctg2 := hG2.2.1
      have iNw : ∀ x, isI gs m x → x ∈ N := fun x hx => (hN2.2.1 x).mpr (Or.inr (Or.inl hx))
      refine B_Ow_freshCensus_53 (hO2.1 ▸ (hG3.2.2.1 0 (by omega))) hr3 (k c g3 ad' K' M' E' N V ed F hr3 hN3 hN2.1.1 iNw ⟨hN3.1.2.2.2.1, fun e => (by rw [hr3] at e; cases e), fun c' e => ?_⟩ hz3 (fun tb' e x a b z => ?_) (fun e x z => ?_) (fun e tb' e' => ?_) (fun x z => ?_) ?_ ((hG.accr K M E).tr ((hG2.accr K M E).tr (hG3.accr c0 (by omega) hA3))) c63)
      · rw [hr3] at e
        cases e
        exact ⟨hS3, hN3.1.2.2.2.2.2.2.1.2.2.1, fun _ => ⟨N, V, ed, F, hN3, hN2.1.1, iNw⟩, fun t' ht' => Or.inr ⟨t', Nat.le_refl _, by rw [hs3, ← i26]; exact ht'⟩⟩
      · rw [hr35] at e
        cases e
        rcases c3 x z with q | q
        · exact dj2 x a b q
        · have := hT2.2.2.2.2.2.2.2.2.2.2.2
          omega
      · rcases c3 x z with q | q
        · exact nnew e x q
        · omega
      · rw [hr35] at e'
        cases e'
        have := hn5 (by rw [h5]; exact e)
        omega
      · rcases c3 x z with q | q
        · exact wold x q
        · exact Or.inr (by omega)
      · have G1 : Gq c (Wcn h ad) h g2 := ((hG.gq (c := c)).up (fun _ _ z => z.elim)).tr (hG2.gq (c := c)) (fun x k hx z => Or.inl (by
          obtain ⟨tb0, e5, a, b⟩ := z
          exact ⟨tb0, by rw [← h5]; exact e5, a, b⟩))
        refine G1.tr (hG3.gq) (fun x k hx z => ?_)
        rcases wold x (wW x k z) with q | q
        · exact Or.inr q
        · omega
  refine B_Ow_freshCensus_0 hO.1 (fun a ha => ?_) (fun hn => B_Ow_freshCensus_7 (i_Ce_init (Nat.lt_succ_self _) (sh_new_eq _ _ _) ?_))
  · obtain ⟨q1, q2, q3, q4⟩ := hC a ha
    exact at18 a h ad (Fr.rf _ _).gw ha q1 q2 q3 q4 (Or.inl ⟨ha, rfl⟩) rfl
  · have hG := gw_list (f := 10) (ci := 1) (L := L_Ce_init) (by decide) (by decide) hn (by omega) rfl
    obtain ⟨m1, m2, m3⟩ := ce_made hc
    obtain ⟨e1, e2, e3⟩ := hn64 hn
    subst e1
    subst e2
    subst e3
    have hs0 : h_sh (mkO (h_new h (0, 1) (fN 1)) (h_ct h) L_Ce_init) 0 = some (0, 11) := (lz_sh (by omega)).trans hO.1
    have smm : Same h (mkO (h_new h (0, 1) (fN 1)) (h_ct h) L_Ce_init) 0 := (Same.new (by omega)).tr (mkO_same (by omega) L_Ce_init _ (by show 0 < h_ct h + 1; omega))
    generalize mkO (h_new h (0, 1) (fN 1)) (h_ct h) L_Ce_init = G at hG m1 m2 m3 hs0 smm ⊢
    have e26 : h_i (w_r G 0 10 (some (h_ct h))) 2 6 = nI t := (hG.i (by omega) (fun y => y)).trans hst
    have e10 : h_i (w_r G 0 10 (some (h_ct h))) (h_ct h) 10 = -1 := (i_wr ..).trans m3
    refine B_Ow_freshCensus_15 hs0 (at18 (h_ct h) _ (fun f => if f < 4 then h_ct h + (f + 1) else h_ct h + f) hG w_r_eq m1.wr (fun i _ => ⟨0, by omega, (i_wr ..).trans (m2 i)⟩) (fun z => ?_) (fun t' ht' => Or.inl e10) (Or.inr ⟨hn, fun x z => ?_⟩) ?_)
    · exact absurd (e26.symm.trans (z.symm.trans e10)) (nI_neg1 ht)
    · rcases z with z | ⟨f, f1, f2, z⟩
      · omega
      · have z : x = if f < 4 then h_ct h + (f + 1) else h_ct h + f := z
        split at z <;> omega
    · rw [w_r_ne (by omega), smm.2.2.2]
