/-! the calls, one by one: the tape, and new words -/
theorem MCo.tape {W : Nat → Nat → Prop} {h h' : PH} {tp tp' : List Int32} {gs : List (List Nat)} {m S : Nat} {so : Nat → Int32} {f1 f2 : Int32} {L : List Act} (f : Fr W h h') (hw : ∀ x k, W x k → ¬ Wcor x k ∨ x = 21 ∨ (x = 17 ∧ k = 12)) (ht : MTp h' tp') (c : MCo h tp gs m so f1 f2 S L) : MCo h' tp' gs m so f1 f2 S L := by
  obtain ⟨c1, c2, c3, c4, c5, c6⟩ := c
  have no : ∀ x k, Wcor x k → ¬ (x = 21 ∨ (x = 17 ∧ k = 12)) → ¬ W x k := fun x k a b y => (hw x k y).elim (fun q => q a) b
  exact ⟨f.md c1, ht, c3.fr f (fun x k z y => no x k (by unfold Wcor; omega) (by omega) z), c4.fr' f (fun k => no _ _ (by unfold Wcor; omega) (by omega)), ⟨(f.i _ _ (no _ _ (by unfold Wcor; omega) (by omega))).trans c5.1, (f.i _ _ (no _ _ (by unfold Wcor; omega) (by omega))).trans c5.2.1, (f.i _ _ (no _ _ (by unfold Wcor; omega) (by omega))).trans c5.2.2⟩, c6.fr f (fun x k z y => no x k (by unfold Wcor; omega) (by omega) z)⟩
/-- a call of the class that only writes fixed cells of its own: what the reference holds stays -/
theorem cls_md {W : Nat → Nat → Prop} {h h1 : PH} {tp : List Int32} {gs : List (List Nat)} {m : Nat} {so : Nat → Int32} {f1 f2 : Int32} {S : Nat} {w : List Nat} {A : List Act} (ho : okg gs m) (mc : MCo h tp gs m so f1 f2 S A) (mw : MWd h w) (ma : MCa h gs m) (f : Fr W h h1) (hw : ∀ x k, W x k → x < 17) : MCo h1 tp gs m so f1 f2 S A ∧ MWd h1 w ∧ MCa h1 gs m := by
  have e : ∀ x k, 17 ≤ x → x < 63 → h_i h1 x k = h_i h x k ∧ h_l h1 x k = h_l h x k := fun x k a _ => ⟨f.i _ _ (fun y => by have := hw _ _ y; omega), f.l _ _ (fun y => by have := hw _ _ y; omega)⟩
  exact ⟨mc.cl e (f.md mc.1), mw.cl e, ma.cl ho e⟩
theorem op_feed {L n : Nat} {xs : Nat → Int32} (a b d e g : Int32) : OpI (Inv L xs) 20 118 178 [.int a, .int b, .int d, .int e, .int g] n := by
  intro h hI
  obtain ⟨sc, ct, tp, gs, m, so, f1, f2, S, w, A, t, ad, K, M, E, la, cap, c, mc, mw, ma, z, r, ab⟩ := hI
  refine ow_feed (d0 := 18) c.1 c.2.1 (fun h1 ht f => ?_)
  obtain ⟨m1, m2, m3⟩ := cls_md c.2.2.1.1 mc mw ma f (fun x k y => by unfold Wct at y; omega)
  have c1 := c.tape f (fun _ _ y => y) ht
  have z1 := z.fr f (fun x k y => by unfold Wct at y; omega)
  refine ⟨_, rfl, f.2.2.2.2.1, m1.1.1, ?_⟩
  refine md_feed (d0 := 18) m1.1 m1.2.1 (fun h2 ht2 f2 => ⟨rfl, ?_⟩)
  have wm : ∀ x k, Wmt x k → x = 21 ∨ (x = 17 ∧ (k = 0 ∨ k = 12)) := fun x k y => by unfold Wmt at y; omega
  exact inv_fin (f.2.2.2.2.1.trans sc) (by rw [f.2.2.1]; exact ct) c1 z1 (r.fr f) ⟨okt_feed ab.1 a b d e g, ab.up.2⟩ f2 (fun x k y => by have := wm x k y; omega) (m1.tape f2 (fun x k y => by have := wm x k y; unfold Wcor; omega) ht2) (m2.fr f2 (fun x k y q => by have := wm x k y; omega)) (m3.fr c.2.2.1.1 f2 (fun x k y q => by have := wm x k y; unfold Wcac Wlt at q; omega))
theorem op_end {L n : Nat} {xs : Nat → Int32} (a : Int32) : OpI (Inv L xs) 20 119 179 [.int a] n := by
  intro h hI
  obtain ⟨sc, ct, tp, gs, m, so, f1, f2, S, w, A, t, ad, K, M, E, la, cap, c, mc, mw, ma, z, r, ab⟩ := hI
  refine ow_end (d0 := 19) c.1 c.2.1 (fun h1 ht f => ?_)
  obtain ⟨m1, m2, m3⟩ := cls_md c.2.2.1.1 mc mw ma f (fun x k y => by unfold Wct at y; omega)
  have c1 := c.tape f (fun _ _ y => y) ht
  have z1 := z.fr f (fun x k y => by unfold Wct at y; omega)
  refine ⟨_, rfl, f.2.2.2.2.1, m1.1.1, ?_⟩
  refine md_end (d0 := 18) m1.1 m1.2.1 (fun h2 ht2 f2 => ⟨rfl, ?_⟩)
  have wm : ∀ x k, Wmt x k → x = 21 ∨ (x = 17 ∧ (k = 0 ∨ k = 12)) := fun x k y => by unfold Wmt at y; omega
  exact inv_fin (f.2.2.2.2.1.trans sc) (by rw [f.2.2.1]; exact ct) c1 z1 (r.fr f) ⟨okt_end ab.1 a, ab.up.2⟩ f2 (fun x k y => by have := wm x k y; omega) (m1.tape f2 (fun x k y => by have := wm x k y; unfold Wcor; omega) ht2) (m2.fr f2 (fun x k y q => by have := wm x k y; omega)) (m3.fr c.2.2.1.1 f2 (fun x k y q => by have := wm x k y; unfold Wcac Wlt at q; omega))
theorem CIn.tw {W : Nat → Nat → Prop} {h h' : PH} {tp tp' : List Int32} {gs : List (List Nat)} {m S t : Nat} {so : Nat → Int32} {f1 f2 : Int32} {w w' : List Nat} {L : List Act} (f : Fr W h h') (hw : ∀ x k, W x k → Wct x k ∨ Wcd x k) (ht : CTp h' tp') (hw' : CWd h' w') (c : CIn h tp gs m so f1 f2 S w L t) : CIn h' tp' gs m so f1 f2 S w' L t := by
  obtain ⟨c1, c2, c3, c4, c5, c6, c7, c8⟩ := c
  have no : ∀ x k, ¬ (Wct x k ∨ Wcd x k) → ¬ W x k := fun x k hn z => hn (hw x k z)
  refine ⟨f.ow c1, ht, c3.fr f (fun x k z y => no x k (by unfold Wct Wcd; omega) z), c4.fr' f (fun k => no _ _ (by unfold Wct Wcd; omega)), ⟨(f.i _ _ (no _ _ (by unfold Wct Wcd; omega))).trans c5.1, (f.i _ _ (no _ _ (by unfold Wct Wcd; omega))).trans c5.2.1, (f.i _ _ (no _ _ (by unfold Wct Wcd; omega))).trans c5.2.2⟩, hw', c7.fr f (fun x k z y => no x k (by unfold Wac at y; unfold Wct Wcd; omega) z), (f.i _ _ (no _ _ (by unfold Wct Wcd; omega))).trans c8⟩
theorem wdL_len (tp : List Int32) : (wdL tp).length = tp.length := List.length_map ..
theorem op_word {L n : Nat} {xs : Nat → Int32} : OpI (Inv L xs) 20 132 228 [] n := by
  intro h hI
  obtain ⟨sc, ct, tp, gs, m, so, f1, f2, S, w, A, t, ad, K, M, E, la, cap, c, mc, mw, ma, z, r, ab⟩ := hI
  have ok0 : okt [] := fun v hv => by cases hv
  refine ow_word (d := 18) c.1 c.2.1 ab.1 (fun hl hiw h1 ht hwd f => ?_) (fun hno h1 ht f => ?_)
  · obtain ⟨m1, m2, m3⟩ := cls_md c.2.2.1.1 mc mw ma f (fun x k y => by unfold Wcw Wcd at y; omega)
    have c1 := c.tw f (fun x k y => by unfold Wcw at y; exact y.elim (fun q => Or.inl (Or.inr q)) Or.inr) ht hwd
    have z1 := z.fr f (fun x k y => by unfold Wcw Wcd at y; omega)
    refine ⟨_, rfl, f.2.2.2.2.1, m1.1.1, ?_⟩
    refine md_word (d := 18) m1.1 m1.2.1 ab.1 (fun _ _ h2 ht2 hwd2 f2 => ⟨rfl, ?_⟩) (fun hno => absurd ⟨hl, hiw⟩ hno)
    have wm : ∀ x k, Wmw x k → x = 26 ∨ (x = 17 ∧ (k = 0 ∨ k = 12 ∨ k = 24)) := fun x k y => by unfold Wmw Wmd at y; omega
    exact inv_fin (f.2.2.2.2.1.trans sc) (by rw [f.2.2.1]; exact ct) c1 z1 (r.fr f) ⟨ok0, ab.2.1, ab.2.2.1, ab.2.2.2.1, ab.2.2.2.2.1, ab.up.2.2.2.2.2.1, Bd.short ab.2.1 (by rw [wdL_len]; omega)⟩ f2 (fun x k y => by have := wm x k y; omega) (m1.tape f2 (fun x k y => by have := wm x k y; unfold Wcor; omega) ht2) hwd2 (m3.fr c.2.2.1.1 f2 (fun x k y q => by have := wm x k y; unfold Wcac Wlt at q; omega))
  · obtain ⟨m1, m2, m3⟩ := cls_md c.2.2.1.1 mc mw ma f (fun x k y => by omega)
    have c1 := c.tape f (fun x k y => by unfold Wct; omega) ht
    have z1 := z.fr f (fun x k y => by omega)
    refine ⟨_, rfl, f.2.2.2.2.1, m1.1.1, ?_⟩
    refine md_word (d := 18) m1.1 m1.2.1 ab.1 (fun hl hiw => absurd ⟨hl, hiw⟩ hno) (fun _ h2 ht2 f2 => ⟨rfl, ?_⟩)
    exact inv_fin (f.2.2.2.2.1.trans sc) (by rw [f.2.2.1]; exact ct) c1 z1 (r.fr f) ⟨ok0, ab.up.2⟩ f2 (fun x k y => by omega) (m1.tape f2 (fun x k y => by unfold Wcor; omega) ht2) (m2.fr f2 (fun x k y q => by omega)) (m3.fr c.2.2.1.1 f2 (fun x k y q => by unfold Wcac Wlt at q; omega))
theorem op_drawn {L n : Nat} {xs : Nat → Int32} (x y : Int32) : OpI (Inv L xs) 20 142 246 [.int x, .int y] n := by
  intro h hI
  obtain ⟨sc, ct, tp, gs, m, so, f1, f2, S, w, A, t, ad, K, M, E, la, cap, c, mc, mw, ma, z, r, ab⟩ := hI
  refine ow_drawn (d := 16) c.1 c.2.2.1 (fun hno => ⟨_, rfl, rfl, mc.1.1, ?_⟩) (fun h1 hd hwd f => ?_)
  · exact md_drawn (d := 17) mc.1 mc.2.2.1 (fun h2 _ f2 => ⟨rfl, inv_plain sc ct c z r ab mc mw ma f2 wth_p⟩) (fun h2 hd => absurd hd hno)
  · obtain ⟨m1, m2, m3⟩ := cls_md c.2.2.1.1 mc mw ma f (fun x k y => by unfold Wcd at y; omega)
    have c1 := c.wd f.ce0 (f.ow c.1) (fun _ _ y => Or.inl y) hwd
    have z1 := z.fr f (fun x k y => by unfold Wcd at y; omega)
    refine ⟨_, rfl, f.2.2.2.2.1, m1.1.1, ?_⟩
    refine md_drawn (d := 17) m1.1 m1.2.2.1 (fun h2 hno => absurd hd hno) (fun h2 _ hwd2 f2 => ⟨rfl, ?_⟩)
    have wm : ∀ x k, Wdr x k → x = 26 ∨ x = 34 ∨ (x = 17 ∧ (k = 0 ∨ k = 38 ∨ k = 24)) := fun x k y => by unfold Wdr Wth Wtr Wmd at y; omega
    have lw : (drw gs m y.toNatClampNeg x).length ≤ 62 := by
      have h1 := (drw_le c.2.2.1.1 hd.1 y.toNatClampNeg x).1
      have h2 : y.toNatClampNeg ≤ 5 := by
        obtain ⟨q, hq, e⟩ := nI_of (x := y) (fun q => hd.2.1 (Int32.lt_trans q (by decide)))
        have := hd.2.2
        rw [e, show (5 : Int32) = nI 5 from rfl, nI_leI hq (by omega)] at this
        rw [e, nI_clamp hq]
        exact this
      omega
    exact inv_fin (f.2.2.2.2.1.trans sc) (by rw [f.2.2.1]; exact ct) c1 z1 (r.fr f) ⟨ab.1, ab.2.1, ab.2.2.1, ab.2.2.2.1, ab.2.2.2.2.1, ab.up.2.2.2.2.2.1, Bd.short ab.2.1 lw⟩ f2 (fun x k y => by have := wm x k y; omega) (m1.fr f2 (fun x k y q => by have := wm x k y; unfold Wcor at q; omega)) hwd2 (m3.fr c.2.2.1.1 f2 (fun x k y q => by have := wm x k y; unfold Wcac Wlt at q; omega))
