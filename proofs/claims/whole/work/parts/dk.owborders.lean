/-! borders on the class's side: kept till the table changes; both calls -/
def Wbc (b la x : Nat) : Prop := (b ≤ x ∧ x ≤ b + 4) ∨ x = la
def BoOk (h : PH) (gs : List (List Nat)) (m la cap : Nat) : Prop := capL cap ∧ (h_r h 0 11 = none → cap = 64) ∧ ∀ b, h_r h 0 11 = some b → BoS h b la cap ∧ (h_i h b 5 = h_i h 2 6 → CBo h b la cap gs m) ∧ ∀ t, h_i h 2 6 = nI t → SB (h_i h b 5) t
def AcBR (h h' : PH) (c c' : Nat) : Prop := 64 * (h_ct h' + restC h') + c ≤ 64 * (h_ct h + restC h) + c' ∧ h_sl h' + restS h' + 2 * c ≤ h_sl h + restS h + 2 * c'
theorem Gw.acbr {W : Nat → Nat → Prop} {h h' : PH} (a : Gw W h h') (c : Nat) : AcBR h h' c c := by
  have h1 := a.2.2.1
  have h2 := a.2.2.2.1
  exact ⟨by omega, by omega⟩
theorem AcBR.tr {h h1 h2 : PH} {c c1 c2 : Nat} (a : AcBR h h1 c c1) (b : AcBR h1 h2 c1 c2) : AcBR h h2 c c2 := by
  obtain ⟨a1, a2⟩ := a
  obtain ⟨b1, b2⟩ := b
  exact ⟨by omega, by omega⟩
theorem Ge.acbr {c : Nat} {W : Nat → Nat → Prop} {h h' : PH} {K K' : Nat} (a : Ge c W h h') (hc : 0 ≠ c) (h0 : 0 < h_ct h) (b : AcB h h' K K') : AcBR h h' K K' := by
  obtain ⟨e1, e2⟩ := rest_eq (h := h) (h' := h') (fun k => a.2.2.2.1 0 k h0 hc)
  obtain ⟨b1, b2⟩ := b
  unfold AcBR
  rw [e1, e2]
  exact ⟨by omega, by omega⟩
theorem bo_made {h : PH} (hc : 63 ≤ h_ct h) : BoS (mkO (h_new h (0, 0) (fN 0)) (h_ct h) L_Bo_init) (h_ct h) (h_ct h + 3) 64 ∧ h_i (mkO (h_new h (0, 0) (fN 0)) (h_ct h) L_Bo_init) (h_ct h) 5 = -1 := by
  have a0 := mk_at (h := h) (L := L_Bo_init) (q0 := (0, 0)) (n0 := fN 0) (pre := []) (i := 0) (f := 0) (q := (4, 10)) (post := [(1, .inl (4, 10)), (2, .inl (1, 64)), (4, .inl (1, 6)), (5, .inr (-1))]) rfl rfl (by decide)
  have a1 := mk_at (h := h) (L := L_Bo_init) (q0 := (0, 0)) (n0 := fN 0) (pre := [(0, .inl (4, 10))]) (i := 1) (f := 1) (q := (4, 10)) (post := [(2, .inl (1, 64)), (4, .inl (1, 6)), (5, .inr (-1))]) rfl rfl (by decide)
  have a2 := mk_at (h := h) (L := L_Bo_init) (q0 := (0, 0)) (n0 := fN 0) (pre := [(0, .inl (4, 10)), (1, .inl (4, 10))]) (i := 2) (f := 2) (q := (1, 64)) (post := [(4, .inl (1, 6)), (5, .inr (-1))]) rfl rfl (by decide)
  have a4 := mk_at (h := h) (L := L_Bo_init) (q0 := (0, 0)) (n0 := fN 0) (pre := [(0, .inl (4, 10)), (1, .inl (4, 10)), (2, .inl (1, 64))]) (i := 3) (f := 4) (q := (1, 6)) (post := [(5, .inr (-1))]) rfl rfl (by decide)
  have a5 := mkO_num [(0, .inl (4, 10)), (1, .inl (4, 10)), (2, .inl (1, 64)), (4, .inl (1, 6))] 5 (-1) [] (h_new h (0, 0) (fN 0)) (o := h_ct h) (Nat.lt_succ_self _) (by decide)
  have eL : ([(0, .inl (4, 10)), (1, .inl (4, 10)), (2, .inl (1, 64)), (4, .inl (1, 6))] : List MkI) ++ (5, .inr (-1)) :: [] = L_Bo_init := rfl
  rw [eL] at a5
  have hs : h_sh (mkO (h_new h (0, 0) (fN 0)) (h_ct h) L_Bo_init) (h_ct h) = some (0, 0) := (sh_mkO (Nat.lt_succ_self _)).trans (sh_new_eq _ _ _)
  have hct : h_ct (mkO (h_new h (0, 0) (fN 0)) (h_ct h) L_Bo_init) = h_ct h + 1 + 4 := mkO_ct _ _ _
  generalize mkO (h_new h (0, 0) (fN 0)) (h_ct h) L_Bo_init = G at *
  exact ⟨⟨hs, ⟨a0.1, a0.2.1⟩, ⟨a1.1, a1.2.1⟩, ⟨a2.1, a2.2.1⟩, ⟨a4.1, a4.2.1⟩, hc, by omega, by omega, Or.inl rfl⟩, a5⟩
theorem BoS.wr {g : PH} {b la cap f : Nat} {v : Option Nat} (h : BoS g b la cap) : BoS (w_r g 0 f v) b la cap := by
  have b63 := h.2.2.2.2.2.1
  have e : ∀ k, h_r (w_r g 0 f v) b k = h_r g b k := fun k => by rw [h_r_wr, if_neg (fun z => by omega)]
  unfold BoS
  rw [e, e, e, e]
  exact h
theorem BoS.gw {W : Nat → Nat → Prop} {h h' : PH} {b la cap : Nat} (hf : Gw W h h') (hS : BoS h b la cap) : BoS h' b la cap := by
  obtain ⟨s0, s1, s2, s3, s4, b63, bct, lct, lb⟩ := hS
  have hs : ∀ x, x < h_ct h → h_sh h' x = h_sh h x := hf.2.2.2.2.1
  have ct := hf.2.1
  exact ⟨(hs b (by omega)).trans s0, ⟨hf.rs (by omega) s1.1, (hs _ (by omega)).trans s1.2⟩, ⟨hf.rs (by omega) s2.1, (hs _ (by omega)).trans s2.2⟩, ⟨hf.rs (by omega) s3.1, (hs _ (by omega)).trans s3.2⟩, ⟨hf.rs (by omega) s4.1, (hs _ (by omega)).trans s4.2⟩, b63, by omega, by omega, lb⟩
def Wbn (h : PH) (la x k : Nat) : Prop := Wlz 5 9 h x k ∨ ∃ b, h_r h 0 11 = some b ∧ Wbc b la x
/-- what a call that asks the borders leaves -/
def BoP (h h' : PH) (gs : List (List Nat)) (m la cap b la' cap' : Nat) (W : Nat → Nat → Prop) : Prop := h_r h' 0 11 = some b ∧ CBo h' b la' cap' gs m ∧ BoOk h' gs m la' cap' ∧ CTrz h' gs m ∧ (∀ tb, h_r h' 0 5 = some tb → ∀ x, tb ≤ x → x ≤ tb + 9 → ¬ Wbc b la' x) ∧ (h_r h 0 11 = none → ∀ x, Wbc b la' x → h_ct h ≤ x) ∧ (h_r h 0 5 = none → ∀ tb, h_r h' 0 5 = some tb → h_ct h ≤ tb) ∧ (∀ x, Wbc b la' x → (∃ b0, h_r h 0 11 = some b0 ∧ Wbc b0 la x) ∨ h_ct h ≤ x) ∧ Gq b W h h' ∧ AcBR h h' cap cap' ∧ 63 ≤ b
theorem ow_freshBorders {d : Nat} {h : PH} {Q : PQ} {gs : List (List Nat)} {m t la cap : Nat} (hO : OwS h) (hc : 63 ≤ h_ct h) (hz : CTrz h gs m) (hC : BoOk h gs m la cap) (hdis : ∀ b tb, h_r h 0 11 = some b → h_r h 0 5 = some tb → ∀ x, tb ≤ x → x ≤ tb + 9 → ¬ Wbc b la x) (hg : CGr h 2 gs m) (ht : t < 2 ^ 31) (hst : h_i h 2 6 = nI t) (k : ∀ b h' la' cap', BoP h h' gs m la cap b la' cap' (Wbn h la) → Q (some (.ref b)) h') : wpm (d + 9) 155 [.ref 0] h Q := by
  refine wpm_in P_Ow_freshBorders rfl (by decide) (by show ¬ 1 < 1; decide) ?_
  have ho := hg.1
  obtain ⟨caps, hn64, hC⟩ := hC
  have at18 : ∀ b g la1, Gw (fun _ _ => False) h g → h_r g 0 11 = some b → BoS g b la1 cap → (h_i g b 5 = h_i g 2 6 → CBo g b la1 cap gs m) → (∀ t, h_i g 2 6 = nI t → SB (h_i g b 5) t) → ((h_r h 0 11 = some b ∧ la1 = la) ∨ (h_r h 0 11 = none ∧ ∀ x, Wbc b la1 x → h_ct h ≤ x)) → h_r g 0 5 = h_r h 0 5 → wpx (d + 8) P_Ow_freshBorders 18 [.ref 0] [] g Q := fun b g la1 hG hr hS hsm hsb hold h5 => by
    have hO1 := hG.ow hc hO
    have hcg : 63 ≤ h_ct g := by have := hG.2.1; omega
    have hg1 : CGr g 2 gs m := hg.gw hG (by omega) (fun _ _ z => z.elim)
    have hst1 : h_i g 2 6 = nI t := (hG.i (by omega) (fun z => z)).trans hst
    have hz1 : CTrz g gs m := hz.gw hG hc h5 (fun _ _ _ _ z => z.elim) (fun _ z => z)
    have b63 : 63 ≤ b := hS.2.2.2.2.2.1
    have bct : b + 4 < h_ct g := hS.2.2.2.2.2.2.1
    have lct : la1 < h_ct g := hS.2.2.2.2.2.2.2.1
    have lab := hS.2.2.2.2.2.2.2.2
    have wl : ∀ x, Wbc b la1 x → x < h_ct g ∧ 63 ≤ x := fun x z => by
      unfold Wbc at z
      omega
    have wold : ∀ x, Wbc b la1 x → (∃ b0, h_r h 0 11 = some b0 ∧ Wbc b0 la x) ∨ h_ct h ≤ x := fun x z => by
      rcases hold with ⟨a, e⟩ | ⟨_, e⟩
      · rw [e] at z
        exact Or.inl ⟨b, a, z⟩
      · exact Or.inr (e x z)
    have nnew : h_r h 0 11 = none → ∀ x, Wbc b la1 x → h_ct h ≤ x := fun e x z => by
      rcases hold with ⟨a, _⟩ | ⟨_, q⟩
      · rw [a] at e
        cases e
      · exact q x z
    have dj : ∀ tb, h_r h 0 5 = some tb → ∀ x, tb ≤ x → x ≤ tb + 9 → ¬ Wbc b la1 x := fun tb e x a q z => by
      rcases hold with ⟨e1, e2⟩ | ⟨_, e2⟩
      · rw [e2] at z
        exact hdis b tb e1 e x a q z
      · have := (hz tb e).1.2.2.2.2.2.2.2.2.2.2.2
        have := e2 x z
        omega
    refine B_Ow_freshBorders_18 hO1.1 hr hS.1 (or_groups hO1) (os_groups hO1) (fun z => ?_) (fun z => B_Ow_freshBorders_35 hO1.1 hr (ow_freshTree (d := d + 4) hO1 hcg hz1 hg1 ht hst1 (fun tb g2 N hG2 hr5 hT2 hN2 hz2 hn5 => ?_)))
    · refine B_Ow_freshBorders_53 hO1.1 hr (k b g la1 cap ⟨hr, hsm z, ⟨caps, fun e => (by rw [hr] at e; cases e), fun b' e => ?_⟩, hz1, fun tb e => dj tb (by rw [← h5]; exact e), nnew, fun e tb e' => (by rw [h5, e] at e'; cases e'), wold, (hG.gq).up (fun _ _ z => z.elim), hG.acbr cap, b63⟩)
      rw [hr] at e
      cases e
      exact ⟨hS, hsm, hsb⟩
    · have hO2 := hG2.ow hcg hO1
      have hr2 := hG2.rs (by omega) hr
      have hS2 := hS.gw hG2
      have dj2 : ∀ x, tb ≤ x → x ≤ tb + 9 → ¬ Wbc b la1 x := fun x a q z => by
        have := wl x z
        cases e5 : h_r g 0 5 with
        | none =>
          have := hn5 e5
          omega
        | some tb0 =>
          have e6 := hG2.rs (by omega) e5
          rw [hr5] at e6
          have et : tb = tb0 := Option.some.inj e6
          subst et
          rw [h5] at e5
          exact dj tb e5 x a q z
      have tb63 := hT2.2.2.2.2.2.2.2.2.2.2.1
      have tbct := hT2.2.2.2.2.2.2.2.2.2.2.2
      have st2 : h_i g2 2 6 = nI t := (hG2.i (by omega) (fun ⟨tb0, e5, a, q⟩ => by have := (hz1 tb0 e5).1.2.2.2.2.2.2.2.2.2.2.1; omega)).trans hst1
      have geo1 : tb + 9 < b ∨ b + 4 < tb := by
        refine Classical.byContradiction (fun q => ?_)
        by_cases y : tb ≤ b
        · exact dj2 b y (by omega) (Or.inl ⟨Nat.le_refl _, by omega⟩)
        · exact dj2 tb (Nat.le_refl _) (by omega) (Or.inl ⟨by omega, by omega⟩)
      have geo2 : la1 < tb ∨ tb + 9 < la1 := by
        refine Classical.byContradiction (fun q => ?_)
        exact dj2 la1 (by omega) (by omega) (Or.inr rfl)
      refine B_Ow_freshBorders_43 hO2.1 (or_groups hO2) (os_groups hO2) hS2.1 ?_
      refine bo_build (d := d) ho hS2 caps hT2 hN2 geo1 geo2 (fun g3 la' cap' hN3 hc3 hla3 hs3 hA3 hG3 => ?_)
      have c0 : (0 : Nat) ≠ b := by omega
      have ct2 : 63 ≤ h_ct g2 := by have := hG2.2.1; omega
      have hr3 : h_r g3 0 11 = some b := (hG3.2.2.2.1 0 11 (by omega) c0).trans hr2
      have hr35 : h_r g3 0 5 = some tb := (hG3.2.2.2.1 0 5 (by omega) c0).trans hr5
      have wW : ∀ x k, Wbd b la1 x k → Wbc b la1 x := fun x k z => by
        unfold Wbd at z
        unfold Wbc
        omega
      have i26 : h_i g3 2 6 = h_i g2 2 6 := hG3.i (by omega) (fun z => by have := wl _ (wW _ _ z); omega)
      have hz3 : CTrz g3 gs m := hz2.to (hG3.2.2.2.1 0 5 (by omega) c0) (fun c' e hT => by
        rw [hr5] at e
        cases e
        exact hT.ge hG3 (fun q => dj2 tb (Nat.le_refl _) (by omega) (Or.inl ⟨by omega, by omega⟩))) (fun c' e x k a q => by
        rw [hr5] at e
        cases e
        exact hG3.i (by omega) (fun z => dj2 x a q (wW x k z))) i26
      have hS3 := hN3.1
      have c3 : ∀ x, Wbc b la' x → Wbc b la1 x ∨ h_ct g2 ≤ x := fun x z => by
        rcases z with z | z
        · exact Or.inl (Or.inl z)
        · rcases hla3 with q | q
          · exact Or.inl (Or.inr (by rw [z, q]))
          · exact Or.inr (by omega)
      have ctg := hG.2.1
      have ctg2 := hG2.2.1
      refine B_Ow_freshBorders_53 (hO2.1 ▸ (hG3.2.2.1 0 (by omega))) hr3 (k b g3 la' cap' ⟨hr3, hN3, ⟨hc3, fun e => (by rw [hr3] at e; cases e), fun b' e => ?_⟩, hz3, fun tb' e x a q z => ?_, fun e x z => ?_, fun e tb' e' => ?_, fun x z => ?_, ?_, (hG.acbr cap).tr ((hG2.acbr cap).tr (hG3.acbr c0 (by omega) hA3)), b63⟩)
      · rw [hr3] at e
        cases e
        exact ⟨hS3, fun _ => hN3, fun t' ht' => Or.inr ⟨t', Nat.le_refl _, by rw [hs3, ← i26]; exact ht'⟩⟩
      · rw [hr35] at e
        cases e
        rcases c3 x z with y | y
        · exact dj2 x a q y
        · omega
      · rcases c3 x z with q | q
        · exact nnew e x q
        · omega
      · rw [hr35] at e'
        cases e'
        have := hn5 (by rw [h5]; exact e)
        omega
      · rcases c3 x z with q | q
        · exact wold x q
        · exact Or.inr (by omega)
      · have G1 : Gq b (Wbn h la) h g2 := ((hG.gq (c := b)).up (fun _ _ z => z.elim)).tr (hG2.gq (c := b)) (fun x k hx z => Or.inl (by
          obtain ⟨tb0, e5, a, q⟩ := z
          exact ⟨tb0, by rw [← h5]; exact e5, a, q⟩))
        refine G1.tr (hG3.gq) (fun x k hx z => ?_)
        rcases wold x (wW x k z) with q | q
        · exact Or.inr q
        · omega
  refine B_Ow_freshBorders_0 hO.1 (fun a ha => ?_) (fun hn => B_Ow_freshBorders_7 (i_Bo_init (Nat.lt_succ_self _) (sh_new_eq _ _ _) ?_))
  · obtain ⟨q1, q2, q3⟩ := hC a ha
    exact at18 a h la (Fr.rf _ _).gw ha q1 q2 q3 (Or.inl ⟨ha, rfl⟩) rfl
  · have hG := gw_list (f := 11) (ci := 0) (L := L_Bo_init) (by decide) (by decide) hn (by omega) rfl
    obtain ⟨m1, m2⟩ := bo_made hc
    have e64 := hn64 hn
    subst e64
    have hs0 : h_sh (mkO (h_new h (0, 0) (fN 0)) (h_ct h) L_Bo_init) 0 = some (0, 11) := (lz_sh (by omega)).trans hO.1
    have smm : Same h (mkO (h_new h (0, 0) (fN 0)) (h_ct h) L_Bo_init) 0 := (Same.new (by omega)).tr (mkO_same (by omega) L_Bo_init _ (by show 0 < h_ct h + 1; omega))
    generalize mkO (h_new h (0, 0) (fN 0)) (h_ct h) L_Bo_init = G at hG m1 m2 hs0 smm ⊢
    have e26 : h_i (w_r G 0 11 (some (h_ct h))) 2 6 = nI t := (hG.i (by omega) (fun y => y)).trans hst
    have e5 : h_i (w_r G 0 11 (some (h_ct h))) (h_ct h) 5 = -1 := (i_wr ..).trans m2
    refine B_Ow_freshBorders_15 hs0 (at18 (h_ct h) _ (h_ct h + 3) hG w_r_eq m1.wr (fun z => ?_) (fun t' ht' => Or.inl e5) (Or.inr ⟨hn, fun x z => ?_⟩) ?_)
    · exact absurd (e26.symm.trans (z.symm.trans e5)) (nI_neg1 ht)
    · unfold Wbc at z
      omega
    · rw [w_r_ne (by omega), smm.2.2.2]
theorem ow_borders {d : Nat} {h : PH} {Q : PQ} {gs : List (List Nat)} {m t la cap : Nat} {x1 : Int32} (hO : OwS h) (hc : 63 ≤ h_ct h) (hz : CTrz h gs m) (hC : BoOk h gs m la cap) (hdis : ∀ b tb, h_r h 0 11 = some b → h_r h 0 5 = some tb → ∀ x, tb ≤ x → x ≤ tb + 9 → ¬ Wbc b la x) (hg : CGr h 2 gs m) (ht : t < 2 ^ 31) (hst : h_i h 2 6 = nI t) (k1 : (x1 < 1 ∨ (4 : Int32) < x1) → Q (some (.int (bosR gs m x1))) h) (k2 : ∀ b h' la' cap', BoP h h' gs m la cap b la' cap' (Wbn h la) → Q (some (.int (bosR gs m x1))) h') : wpm (d + 10) 146 [.ref 0, .int x1] h Q := by
  refine wpm_in P_Ow_borders rfl (by decide) (by show ¬ 2 < 2; decide) ?_
  by_cases b1 : x1 < 1 ∨ (4 : Int32) < x1
  · have kk := k1 b1
    unfold bosR at kk
    rw [if_pos b1] at kk
    exact B_Ow_borders_0 (fun _ => B_Ow_borders_10 (B_Ow_borders_22 kk)) (fun z => B_Ow_borders_5 (fun w => b1.elim (fun q => absurd q z) (fun q => absurd q (Int32.not_lt.mpr w))) (fun _ => B_Ow_borders_10 (B_Ow_borders_22 kk)))
  · obtain ⟨n, n1, n4, e⟩ := nI_of1 (fun z => b1 (Or.inl z)) (fun z => b1 (Or.inr z))
    subst e
    refine B_Ow_borders_0 (fun z => absurd (Or.inl z) b1) (fun _ => B_Ow_borders_5 (fun _ => B_Ow_borders_14 hO.1 (ow_freshBorders (d := d) hO hc hz hC hdis hg ht hst (fun b h' la' cap' hP => B_Ow_borders_18 hP.2.1.1.1 (bo_sizeOf hg.1 hP.2.1 n1 n4 (B_Ow_borders_22 ?_))))) (fun z => absurd (Or.inr (Int32.not_le.mp z)) b1))
    have kk := k2 b h' la' cap' hP
    unfold bosR at kk
    rw [if_neg b1, nI_clamp (by omega)] at kk
    exact kk
theorem ow_border {d : Nat} {h : PH} {Q : PQ} {gs : List (List Nat)} {m t la cap : Nat} {x1 x2 x3 : Int32} (hO : OwS h) (hc : 63 ≤ h_ct h) (hz : CTrz h gs m) (hC : BoOk h gs m la cap) (hdis : ∀ b tb, h_r h 0 11 = some b → h_r h 0 5 = some tb → ∀ x, tb ≤ x → x ≤ tb + 9 → ¬ Wbc b la x) (hg : CGr h 2 gs m) (ht : t < 2 ^ 31) (hst : h_i h 2 6 = nI t) (k : ∀ b h' la' cap', BoP h h' gs m la cap b la' cap' (Wbn h la) → Q (some (.int (borR gs m x1 x2 x3))) h') : wpm (d + 10) 147 [.ref 0, .int x1, .int x2, .int x3] h Q := by
  refine wpm_in P_Ow_border rfl (by decide) (by show ¬ 6 < 4; decide) ?_
  have ho := hg.1
  refine B_Ow_border_0 hO.1 (ow_freshBorders (d := d) hO hc hz hC hdis hg ht hst (fun b h' la' cap' hP => B_Ow_border_4 hP.2.1.1.1 ?_))
  have kk := k b h' la' cap' hP
  unfold borR at kk
  have hC' := hP.2.1
  refine bo_indexOf ho hC' (fun hno => B_Ow_border_13 (fun z => absurd rfl z) (fun _ => B_Ow_border_21 (B_Ow_border_37 ?_))) (fun n q n1 n4 e1 e2 hq => ?_)
  · have em : (if x1 < 1 ∨ (4 : Int32) < x1 then (-1 : Int32) else if x3 < 0 ∨ x1 - (1 : Int32) < x3 then -1 else if x2 < 0 ∨ nI (bor gs m x1.toNatClampNeg).length - (1 : Int32) < x2 then -1 else nI ((((bor gs m x1.toNatClampNeg).getD x2.toNatClampNeg []).getD x3.toNatClampNeg 0) + 96)) = -1 := by
      by_cases b1 : x1 < 1 ∨ (4 : Int32) < x1
      · rw [if_pos b1]
      · rw [if_neg b1]
        by_cases b3 : x3 < 0 ∨ x1 - (1 : Int32) < x3
        · rw [if_pos b3]
        · rw [if_neg b3, if_pos]
          rcases hno with z | z | z | ⟨n, n1, n4, e, z⟩
          · exact absurd (Or.inl z) b1
          · exact absurd (Or.inr z) b1
          · exact Or.inl z
          · by_cases y : x2 < 0
            · exact Or.inl y
            · obtain ⟨q, hq, eq'⟩ := nI_of y
              have bl := bor_20k (gs := gs) (m := m) ho n1 n4
              rw [e, nI_clamp (by omega)]
              rw [eq'] at z ⊢
              rw [nI_ltI hq (by omega)] at z
              by_cases y0 : (bor gs m n).length = 0
              · rw [y0]
                exact Or.inr (by rw [show nI 0 - (1 : Int32) = -1 from by decide]; exact Int32.lt_of_lt_of_le (b := 0) (by decide) (Int32.not_lt.mp (nI_pos hq)))
              · refine Or.inr ?_
                rw [show (1 : Int32) = nI 1 from rfl, nI_subN (by omega), nI_ltI (by omega) hq]
                omega
    rw [em] at kk
    exact kk
  · subst e1
    subst e2
    obtain ⟨n', rfl⟩ : ∃ n', n = n' + 1 := ⟨n - 1, by omega⟩
    have bl := bor_20k (gs := gs) (m := m) ho n1 n4
    obtain ⟨z, ez, _⟩ : ∃ z, catB gs m 4 = catB gs m (n' + 1) ++ z ∧ ∀ r ∈ z, n' + 1 < r.length := by
      have := catB_cut (gs := gs) (m := m) (n := n' + 1) (4 - (n' + 1))
      rw [show n' + 1 + (4 - (n' + 1)) = 4 by omega] at this
      exact this
    have ec : catB gs m (n' + 1) = catB gs m n' ++ bor gs m (n' + 1) := rfl
    have gr : (bor gs m (n' + 1))[q]? = some ((bor gs m (n' + 1))[q]'hq) := List.getElem?_eq_getElem hq
    generalize (bor gs m (n' + 1))[q]'hq = r at gr
    have gc : (catB gs m 4)[(catB gs m n').length + q]? = some r := by
      rw [ez, ec, List.append_assoc, List.getElem?_append_right (by omega), Nat.add_sub_cancel_left, List.getElem?_append_left hq]
      exact gr
    have l60 := catB_len (m := m) ho
    have il := (List.getElem?_eq_some_iff.mp gc).1
    obtain ⟨r1, r2⟩ := bor_row (by omega) (List.mem_of_getElem? gr)
    refine B_Ow_border_13 (fun _ => B_Ow_border_25 hC'.1.1 (bo_codeAt ho hC' gc (B_Ow_border_32 ?_))) (fun w => absurd w (nI_neg1 (by show (catB gs m n').length + q < 2 ^ 31; omega)))
    have hs : wpm (d + 9) 166 [.long (pk r), .int (nI r.length), .int x3] h' (fun rr h'' => wpx (d + 9) P_Ow_border 37 [.ref 0, .int (nI (n' + 1)), .int (nI q), .int x3, .ref b, .int (nI ((catB gs m (n' + 1 - 1)).length + q))] (rr.toList ++ []) h'' Q) := by
      refine ow_shown ⟨r2, by omega⟩ (B_Ow_border_37 ?_)
      have b1 : ¬ (nI (n' + 1) < 1 ∨ (4 : Int32) < nI (n' + 1)) := fun w => by
        rw [show (1 : Int32) = nI 1 from rfl, show (4 : Int32) = nI 4 from rfl, nI_ltI (by omega) (by omega), nI_ltI (by omega) (by omega)] at w
        omega
      have b2 : ¬ (nI q < 0 ∨ nI (bor gs m (n' + 1)).length - (1 : Int32) < nI q) := fun w => by
        rcases w with w | w
        · exact nI_lt0 (by omega) w
        · rw [show (1 : Int32) = nI 1 from rfl, nI_subN (by omega), nI_ltI (by omega) (by omega)] at w
          omega
      rw [if_neg b1] at kk
      unfold shw
      rw [r1]
      by_cases b3 : x3 < 0 ∨ nI (n' + 1) - (1 : Int32) < x3
      · rw [if_pos b3] at kk
        rw [if_pos]
        · exact kk
        · rcases b3 with w | w
          · exact Or.inl w
          · by_cases y : x3 < 0
            · exact Or.inl y
            · obtain ⟨i, hi, ei⟩ := nI_of y
              rw [ei, show (1 : Int32) = nI 1 from rfl, nI_subN (by omega), nI_ltI (by omega) hi] at w
              refine Or.inr ?_
              rw [ei, nI_leI (by omega) hi]
              omega
      · rw [if_neg b3, nI_clamp (by omega), if_neg b2, nI_clamp (show q < 2 ^ 31 by omega), gD gr] at kk
        rw [if_neg]
        · exact kk
        · rintro (w | w)
          · exact b3 (Or.inl w)
          · obtain ⟨i, hi, ei⟩ := nI_of (fun z => b3 (Or.inl z))
            rw [ei, nI_leI (by omega) hi] at w
            refine b3 (Or.inr ?_)
            rw [ei, show (1 : Int32) = nI 1 from rfl, nI_subN (by omega), nI_ltI (by omega) hi]
            omega
    rw [r1] at hs
    exact hs
