/-! witness on the class's side: the call -/
theorem CTr.eq {h h' : PH} {b m : Nat} {N gs : List (List Nat)} (e : ∀ x k, b ≤ x → x ≤ b + 9 → h_i h' x k = h_i h x k) (hc : CTr h b N gs m) : CTr h' b N gs m := by
  obtain ⟨⟨a1, a2, a3, a4, a5⟩, c2, c3, c4, c5⟩ := hc
  have e0 : h_i h' b 9 = h_i h b 9 := e _ _ (Nat.le_refl _) (by omega)
  have e1 : ∀ k, h_i h' (b + 1) k = h_i h (b + 1) k := fun k => e _ _ (by omega) (by omega)
  have e2 : ∀ k, h_i h' (b + 2) k = h_i h (b + 2) k := fun k => e _ _ (by omega) (by omega)
  have e3 : ∀ k, h_i h' (b + 3) k = h_i h (b + 3) k := fun k => e _ _ (by omega) (by omega)
  have e4 : ∀ k, h_i h' (b + 4) k = h_i h (b + 4) k := fun k => e _ _ (by omega) (by omega)
  have e5 : ∀ k, h_i h' (b + 5) k = h_i h (b + 5) k := fun k => e _ _ (by omega) (by omega)
  have e6 : ∀ k, h_i h' (b + 6) k = h_i h (b + 6) k := fun k => e _ _ (by omega) (by omega)
  have e7 : ∀ k, h_i h' (b + 7) k = h_i h (b + 7) k := fun k => e _ _ (by omega) (by omega)
  have e8 : ∀ k, h_i h' (b + 8) k = h_i h (b + 8) k := fun k => e _ _ (by omega) (by omega)
  have e9 : ∀ k, h_i h' (b + 9) k = h_i h (b + 9) k := fun k => e _ _ (by omega) (by omega)
  refine ⟨⟨a1, e0.trans a2, a3, fun u x hu => ?_, fun u h1 h2 => ?_⟩, c2, fun u x hu d hd => (e2 _).trans (c3 u x hu d hd), fun s hs => (e9 _).trans (c4 s hs), fun i u hu => (e8 _).trans (c5 i u hu)⟩
  · obtain ⟨d1, d2, d3, d4, d5⟩ := a4 u x hu
    exact ⟨by rw [e3]; exact d1, by rw [e4]; exact d2, by rw [e5]; exact d3, fun y s ee => by rw [e6, e7]; exact d4 y s ee, fun s hs => by rw [e1]; exact d5 s hs⟩
  · obtain ⟨d1, d2, d3⟩ := a5 u h1 h2
    exact ⟨by rw [e4]; exact d1, by rw [e5]; exact d2, fun s hs => by rw [e1]; exact d3 s hs⟩
theorem CTrz.gw {W : Nat → Nat → Prop} {h h' : PH} {gs : List (List Nat)} {m : Nat} (hf : Gw W h h') (hc : 63 ≤ h_ct h) (h5 : h_r h' 0 5 = h_r h 0 5) (hw : ∀ c, h_r h 0 5 = some c → ∀ x k, W x k → x < c ∨ c + 9 < x) (h2 : ∀ k, ¬ W 2 k) (hz : CTrz h gs m) : CTrz h' gs m := fun c e => by
  rw [h5] at e
  obtain ⟨z1, z2, z3, z4⟩ := hz c e
  have lt := z1.2.2.2.2.2.2.2.2.2.2.2
  have ei : ∀ x k, c ≤ x → x ≤ c + 9 → h_i h' x k = h_i h x k := fun x k a b => hf.i (by omega) (fun z => by have := hw c e x k z; omega)
  have e2 : h_i h' 2 6 = h_i h 2 6 := hf.i (by omega) (h2 _)
  refine ⟨z1.gw hf, (ei _ _ (by omega) (by omega)).trans z2, fun z => ?_, fun t ht => ?_⟩
  · rw [ei _ _ (Nat.le_refl _) (by omega), e2] at z
    obtain ⟨N, hN⟩ := z3 z
    exact ⟨N, hN.eq ei⟩
  · rw [ei _ _ (Nat.le_refl _) (by omega)]
    rw [e2] at ht
    exact z4 t ht
theorem tw_made {h : PH} (hc : 63 ≤ h_ct h) : TwS (mkO (h_new h (0, 9) (fN 9)) (h_ct h) L_Tw_init) (h_ct h) := by
  have a0 := mk_at (h := h) (L := L_Tw_init) (q0 := (0, 9)) (n0 := fN 9) (pre := []) (i := 0) (f := 0) (q := (3, 792)) (post := [(1, .inl (1, 792)), (2, .inl (1, 792)), (3, .inl (2, 792)), (4, .inl (1, 792)), (9, .inl (2, 800))]) rfl rfl (by decide)
  have a1 := mk_at (h := h) (L := L_Tw_init) (q0 := (0, 9)) (n0 := fN 9) (pre := [(0, .inl (3, 792))]) (i := 1) (f := 1) (q := (1, 792)) (post := [(2, .inl (1, 792)), (3, .inl (2, 792)), (4, .inl (1, 792)), (9, .inl (2, 800))]) rfl rfl (by decide)
  have a2 := mk_at (h := h) (L := L_Tw_init) (q0 := (0, 9)) (n0 := fN 9) (pre := [(0, .inl (3, 792)), (1, .inl (1, 792))]) (i := 2) (f := 2) (q := (1, 792)) (post := [(3, .inl (2, 792)), (4, .inl (1, 792)), (9, .inl (2, 800))]) rfl rfl (by decide)
  have a3 := mk_at (h := h) (L := L_Tw_init) (q0 := (0, 9)) (n0 := fN 9) (pre := [(0, .inl (3, 792)), (1, .inl (1, 792)), (2, .inl (1, 792))]) (i := 3) (f := 3) (q := (2, 792)) (post := [(4, .inl (1, 792)), (9, .inl (2, 800))]) rfl rfl (by decide)
  have a4 := mk_at (h := h) (L := L_Tw_init) (q0 := (0, 9)) (n0 := fN 9) (pre := [(0, .inl (3, 792)), (1, .inl (1, 792)), (2, .inl (1, 792)), (3, .inl (2, 792))]) (i := 4) (f := 4) (q := (1, 792)) (post := [(9, .inl (2, 800))]) rfl rfl (by decide)
  have a5 := mk_at (h := h) (L := L_Tw_init) (q0 := (0, 9)) (n0 := fN 9) (pre := [(0, .inl (3, 792)), (1, .inl (1, 792)), (2, .inl (1, 792)), (3, .inl (2, 792)), (4, .inl (1, 792))]) (i := 5) (f := 9) (q := (2, 800)) (post := []) rfl rfl (by decide)
  have hs : h_sh (mkO (h_new h (0, 9) (fN 9)) (h_ct h) L_Tw_init) (h_ct h) = some (0, 9) := (sh_mkO (Nat.lt_succ_self _)).trans (sh_new_eq _ _ _)
  have hct : h_ct (mkO (h_new h (0, 9) (fN 9)) (h_ct h) L_Tw_init) = h_ct h + 1 + 6 := mkO_ct _ _ _
  generalize mkO (h_new h (0, 9) (fN 9)) (h_ct h) L_Tw_init = G at *
  exact ⟨hs, ⟨a0.1, a0.2.1⟩, ⟨a1.1, a1.2.1⟩, ⟨a2.1, a2.2.1⟩, ⟨a3.1, a3.2.1⟩, ⟨a4.1, a4.2.1⟩, ⟨a5.1, a5.2.1⟩, hc, by omega⟩
theorem TwS.wr {g : PH} {c f : Nat} {v : Option Nat} (h : TwS g c) : TwS (w_r g 0 f v) c := by
  have c63 := h.2.2.2.2.2.2.2.1
  have e : ∀ k, h_r (w_r g 0 f v) c k = h_r g c k := fun k => by rw [h_r_wr, if_neg (fun z => by omega)]
  unfold TwS
  rw [e, e, e, e, e, e]
  exact h
theorem ow_witness {d : Nat} {h : PH} {Q : PQ} {gs : List (List Nat)} {m t : Nat} {w : List Nat} (hO : OwS h) (hc : 63 ≤ h_ct h) (hzt : ∀ c, h_r h 0 7 = some c → TwS h c) (hz : CTrz h gs m) (hdis : ∀ b c, h_r h 0 7 = some b → h_r h 0 5 = some c → c + 9 < b ∨ b + 6 < c) (hw : CWd h w) (hg : CGr h 2 gs m) (ht : t < 2 ^ 31) (hst : h_i h 2 6 = nI t) (k : ∀ o h' b c, lst (Twn gs m) o → CWd h' (o.getD w) → h_r h' 0 7 = some b → TwS h' b → h_r h' 0 5 = some c → TrS h' c → CTrz h' gs m → (c + 9 < b ∨ b + 6 < c) → (h_r h 0 7 = none → h_ct h ≤ b) → (h_r h 0 5 = none → h_ct h ≤ c) → Gw (fun x k => Wlz 7 6 h x k ∨ (Wlz 5 9 h x k ∨ Wcd x k)) h h' → Q (some (.int (foI o))) h') : wpm (d + 5) 129 [.ref 0] h Q := by
  refine wpm_in P_Ow_witness rfl (by decide) (by show ¬ 1 < 1; decide) ?_
  have ho := hg.1
  have at18 : ∀ b g, Gw (fun _ _ => False) h g → h_r g 0 7 = some b → TwS g b → h_r g 0 5 = h_r h 0 5 → (h_r h 0 7 = none → h_ct h ≤ b) → wpx (d + 4) P_Ow_witness 18 [.ref 0] [] g Q := fun b g hG hr hS h5 hnb => by
    have hO1 := hG.ow hc hO
    have hcg : 63 ≤ h_ct g := by have := hG.2.1; omega
    have hg1 : CGr g 2 gs m := hg.gw hG (by omega) (fun _ _ z => z.elim)
    have hw1 : CWd g w := hw.gw hG hc (fun _ _ z => z.elim)
    have hst1 : h_i g 2 6 = nI t := (hG.i (by omega) (fun z => z)).trans hst
    have hz1 : CTrz g gs m := hz.gw hG hc h5 (fun _ _ _ _ z => z.elim) (fun _ z => z)
    refine B_Ow_witness_18 hO1.1 hr (ow_freshTree hO1 hcg hz1 hg1 ht hst1 (fun c g2 N hG2 hr5 hT2 hN2 hz2 hn5 => ?_))
    have hS2 := hS.gw hG2
    have hr72 := hG2.rs (by omega) hr
    have hO2 := hG2.ow hcg hO1
    have bct := hS.2.2.2.2.2.2.2.2
    have b63 : 63 ≤ b := hS.2.2.2.2.2.2.2.1
    have hd : c + 9 < b ∨ b + 6 < c := by
      cases e5 : h_r g 0 5 with
      | none =>
        have := hn5 e5
        omega
      | some c0 =>
        have e6 := hG2.rs (by omega) e5
        rw [hr5] at e6
        have ec : c = c0 := Option.some.inj e6
        subst ec
        rw [h5] at e5
        cases e7 : h_r h 0 7 with
        | none =>
          have := hnb e7
          have := (hz c e5).1.2.2.2.2.2.2.2.2.2.2.2
          omega
        | some b0 =>
          have e8 := hG.rs (by omega) e7
          rw [hr] at e8
          have eb : b = b0 := Option.some.inj e8
          subst eb
          exact hdis b c e7 e5
    have hnc : h_r h 0 5 = none → h_ct h ≤ c := fun e => by
      have := hn5 (by rw [h5]; exact e)
      have := hG.2.1
      omega
    have c63 : 63 ≤ c := hT2.2.2.2.2.2.2.2.2.2.2.1
    have hG02 : Gw (Wlz 5 9 h) h g2 := (hG.up (fun _ _ z => z.elim)).tr (hG2.up (fun x k z => by
      obtain ⟨c', z1, z2⟩ := z
      exact ⟨c', by rw [← h5]; exact z1, z2⟩))
    have hc2 : 63 ≤ h_ct g2 := by have := hG2.2.1; omega
    have hw2 : CWd g2 w := hw1.gw hG2 hcg (fun x k z => by
      obtain ⟨c', z1, z2, z3⟩ := z
      have := (hz1 c' z1).1.2.2.2.2.2.2.2.2.2.2.1
      omega)
    have fin : ∀ {W : Nat → Nat → Prop} {h' : PH}, Fr W g2 h' → (∀ x k, W x k → (b ≤ x ∧ x ≤ b + 6) ∨ Wcd x k) → Gw (fun x k => Wlz 7 6 h x k ∨ (Wlz 5 9 h x k ∨ Wcd x k)) h h' ∧ h_r h' 0 7 = some b ∧ TwS h' b ∧ h_r h' 0 5 = some c ∧ TrS h' c ∧ CTrz h' gs m := fun {W h'} hf hW => by
      refine ⟨Gw.lz2 (W := fun x k => Wlz 5 9 h x k ∨ Wcd x k) hc hG02 (hf.gw.up (fun x k z => (hW x k z).imp id Or.inr)) (fun x k z => Or.inr (Or.inl z)) hr72 hnb, by rw [hf.2.1]; exact hr72, hS2.fr hf, by rw [hf.2.1]; exact hr5, hT2.fr hf, hz2.gw hf.gw hc2 (by rw [hf.2.1]) (fun c' e x k z => ?_) (fun k z => ?_)⟩
      · rw [hr5] at e
        cases e
        rcases hW x k z with y | y
        · omega
        · unfold Wcd at y
          omega
      · rcases hW 2 k z with y | y
        · omega
        · unfold Wcd at y
          omega
    refine B_Ow_witness_26 hS2.1 (tw_find ho hT2 hN2 hS2 hd (fun hl h3 f3 => ?_) (fun h3 E e q s j1 j2 j3 j4 j5 j6 j7 f3 => ?_))
    · obtain ⟨r1, r2, r3, r4, r5, r6⟩ := fin f3 (fun x k z => Or.inl (by unfold Wtv at z; omega))
      exact B_Ow_witness_29 (fun z => absurd rfl z) (fun _ => B_Ow_witness_32 (k none h3 b c (lst_cl ho hl) (CWd.gw f3.gw hc2 (fun x k z => by unfold Wtv at z; omega) hw2) r2 r3 r4 r5 r6 hd hnb hnc r1))
    · have hO3 := f3.ow hO2
      have hS3 := hS2.fr f3
      have r7 : h_r h3 0 7 = some b := by rw [f3.2.1]; exact hr72
      refine B_Ow_witness_29 (fun _ => B_Ow_witness_34 hO3.1 r7 (or_theWord hO3) hS3.1 (tw_copyTo hO3 hN2.1.1 hS3 j1 j2 j3 j4 j5 j6 (fun h4 w4 f4 => ?_))) (fun z => absurd z (by decide))
      have F := (f3.up (fun x k z => Or.inl (by unfold Wtv at z; omega) : ∀ x k, Wtv b x k → ((b ≤ x ∧ x ≤ b + 6) ∨ Wcd x k))).tr (f4.up (fun x k z => z.imp (fun y => by omega) id))
      obtain ⟨r1, r2, r3, r4, r5, r6⟩ := fin F (fun x k z => z)
      have hO4 := f4.ow hO3
      refine B_Ow_witness_45 hO4.1 (or_theWord hO4) (os_theWord hO4) ?_
      rw [w4.2.1]
      exact k (some (q.1 ++ [s])) h4 b c (lst_cl ho j7) w4 r2 r3 r4 r5 r6 hd hnb hnc r1
  refine B_Ow_witness_0 hO.1 (fun a ha => at18 a h (Fr.rf _ _).gw ha (hzt a ha) rfl (fun e => by rw [e] at ha; cases ha)) (fun hn => B_Ow_witness_7 (i_Tw_init (Nat.lt_succ_self _) (sh_new_eq _ _ _) ?_))
  have hG := gw_list (f := 7) (ci := 9) (L := L_Tw_init) (by decide) (by decide) hn (by omega) rfl
  have m1 := tw_made hc
  have hs0 : h_sh (mkO (h_new h (0, 9) (fN 9)) (h_ct h) L_Tw_init) 0 = some (0, 11) := (lz_sh (by omega)).trans hO.1
  have sm : Same h (mkO (h_new h (0, 9) (fN 9)) (h_ct h) L_Tw_init) 0 := (Same.new (by omega)).tr (mkO_same (by omega) L_Tw_init _ (by show 0 < h_ct h + 1; omega))
  generalize mkO (h_new h (0, 9) (fN 9)) (h_ct h) L_Tw_init = G at hG m1 sm hs0 ⊢
  refine B_Ow_witness_15 hs0 (at18 _ _ hG (by rw [h_r_wr, if_pos ⟨rfl, rfl⟩]) m1.wr ?_ (fun _ => Nat.le_refl _))
  rw [h_r_wr, if_neg (by omega), sm.2.2.2]
