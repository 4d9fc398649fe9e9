/-! the calls, one by one: the table changed: out, undo -/
theorem MCo.grp {W : Nat → Nat → Prop} {h h' : PH} {tp : List Int32} {gs gs' : List (List Nat)} {m m' S : Nat} {so : Nat → Int32} {f1 f2 : Int32} {A A' : List Act} (f : Fr W h h') (hw : ∀ x k, W x k → ¬ Wcor x k ∨ x = 18 ∨ x = 19 ∨ x = 62 ∨ (x = 17 ∧ (k = 6 ∨ k = 76))) (hg : MGr h' gs' m') (hl : gs'.length = gs.length) (hk : MKp h' (snL A')) (c : MCo h tp gs m so f1 f2 S A) : MCo h' tp gs' m' so f1 f2 S A' := by
  obtain ⟨c1, c2, c3, c4, c5, c6⟩ := c
  have no : ∀ x k, Wcor x k → ¬ (x = 18 ∨ x = 19 ∨ x = 62 ∨ (x = 17 ∧ (k = 6 ∨ k = 76))) → ¬ W x k := fun x k a b y => (hw x k y).elim (fun q => q a) b
  exact ⟨f.md c1, c2.fr f (no _ _ (by unfold Wcor; omega) (by omega)) (fun k => no _ _ (by unfold Wcor; omega) (by omega)), hg, by rw [hl]; exact c4.fr' f (fun k => no _ _ (by unfold Wcor; omega) (by omega)), ⟨(f.i _ _ (no _ _ (by unfold Wcor; omega) (by omega))).trans c5.1, (f.i _ _ (no _ _ (by unfold Wcor; omega) (by omega))).trans c5.2.1, (f.i _ _ (no _ _ (by unfold Wcor; omega) (by omega))).trans c5.2.2⟩, hk⟩
theorem MCa.new {W : Nat → Nat → Prop} {h h' : PH} {gs' : List (List Nat)} {m' : Nat} (f : Fr W h h') (hw : ∀ x k, W x k → ¬ (46 ≤ x ∧ x ≤ 50)) (h25 : h_i h' 17 25 = 0) (h26 : h_i h' 17 26 = 0) (h70 : h_i h' 17 70 = 0) (c : LyO h) : MCa h' gs' m' :=
  ⟨fun z => absurd h25 z, fun z => absurd h26 z, fun n n1 n4 z => by
    rw [h70, show (0 : Int32) = nI 0 from rfl, nI_eq (by omega) (by omega)] at z
    omega, MCa.ly f hw c⟩
theorem Did.cor {x : Int32} {s m0 m : Nat} {g0 gs : List (List Nat)} (h : Did x s g0 m0 gs m) : gs.map cor = g0.map cor := by
  rcases h with ⟨_, e, _⟩ | ⟨_, e, _⟩
  · rw [e]
  · rw [e, cor_mkg]
theorem inv_new {W : Nat → Nat → Prop} {h1 h2 : PH} {Ls n : Nat} {xs : Nat → Int32} {tp : List Int32} {gs gs' : List (List Nat)} {m m' : Nat} {so : Nat → Int32} {f1 f2 : Int32} {S : Nat} {w : List Nat} {A A' : List Act} {t : Nat} {ad : Nat → Nat} {K M E la cap : Nat} (sc : h_sc h1 = (Ls, xs)) (ct : 63 ≤ h_ct h1) (c : CIn h1 tp gs' m' so f1 f2 S w A' t) (z : Lz h1 gs' m' ad K M E la cap) (r : Rm h1 K M E cap) (ab : Abs tp gs' m' S w A' t (n + 1)) (mc : MCo h1 tp gs m so f1 f2 S A) (mw : MWd h1 w) (ma : MCa h1 gs m) (f : Fr W h1 h2) (hw : ∀ x k, W x k → x = 18 ∨ x = 19 ∨ x = 60 ∨ x = 61 ∨ x = 62 ∨ (x = 17 ∧ (k = 0 ∨ k = 6 ∨ k = 76 ∨ k = 25 ∨ k = 26 ∨ k = 70 ∨ k = 74))) (hg : MGr h2 gs' m') (hl : gs'.length = gs.length) (hk : MKp h2 (snL A')) (h25 : h_i h2 17 25 = 0) (h26 : h_i h2 17 26 = 0) (h70 : h_i h2 17 70 = 0) : Inv Ls xs (n + 1) h2 :=
  inv_fin sc ct c z r ab f (fun x k y => by have := hw x k y; omega) (mc.grp f (fun x k y => by have := hw x k y; unfold Wcor; omega) hg hl hk) (mw.fr f (fun x k y q => by have := hw x k y; omega)) (MCa.new f (fun x k y q => by have := hw x k y; omega) h25 h26 h70 ma.2.2.2)
theorem op_out {L n : Nat} {xs : Nat → Int32} (x b : Int32) (hn : n < 512) : OpI (Inv L xs) 20 150 280 [.int x, .int b] n := by
  intro h hI
  obtain ⟨sc, ct, tp, gs, m, so, f1, f2, S, w, A, t, ad, K, M, E, la, cap, c, mc, mw, ma, z, r, ab⟩ := hI
  have ho := c.2.2.1.1
  have ht : t ≤ n := ab.2.2.2.2.2.1
  have hA : A.length ≤ 12 := ab.2.2.2.1
  refine ow_out (d := 17) c.1 c.2.2.1 c.2.2.2.2.2.2.1 (fun hp h1 ha hg hs f => ?_) (fun hp => ⟨_, rfl, rfl, mc.1.1, ?_⟩)
  · have wc : ∀ a k, Wco a k → a = 6 ∨ a = 7 ∨ (a = 2 ∧ (k = 5 ∨ k = 6 ∨ k = 9)) := fun a k y => by unfold Wco Wac at y; omega
    obtain ⟨m1, m2, m3⟩ := cls_md ho mc mw ma f (fun a k y => by have := wc a k y; omega)
    obtain ⟨k, hk, ek⟩ := isg_of ho hp.1
    have ecl : x.toNatClampNeg = k := by rw [ek, nI_clamp (by have := ho.1; omega)]
    rw [ecl] at ha hg
    have est : h_i h1 2 6 = nI (t + 1) := by rw [hs, c.2.2.2.2.2.2.2, nI_1]
    have ha' : CAc h1 2 (acL ((2, 2 ^ k, gs, m) :: A.take 11)) := by
      rw [acL_cons, ← acd_take hA]
      exact ha
    have c1 := c.grp f.ce0 (f.ow c.1) (fun a k y => Or.inl (by have := wc a k y; unfold Wgc; omega)) hg rfl ha' est
    have z1 := z.frn (gs' := gs) (m' := m ^^^ 2 ^ k) f (fun a k y => by have := wc a k y; omega) (by omega) c.2.2.2.2.2.2.2 est
    refine ⟨_, rfl, f.2.2.2.2.1, m1.1.1, ?_⟩
    refine md_out (d := 17) m1.1 m1.2.2.1 m1.2.2.2.2.2 (fun _ h2 hk2 hg2 f2' h25 h26 h70 => ⟨rfl, ?_⟩) (fun q => absurd hp q)
    rw [ecl] at hg2
    have hk' : MKp h2 (snL ((2, 2 ^ k, gs, m) :: A.take 11)) := by
      rw [snL_cons, ← kpd_take hA]
      exact hk2
    refine inv_new (f.2.2.2.2.1.trans sc) (by rw [f.2.2.1]; exact ct) c1 z1 (r.fr f) ⟨ab.1, ab.2.1, Chn.out ho hk ab.2.2.1, ?_, ab.2.2.2.2.1, by omega, ab.2.2.2.2.2.2⟩ m1 m2 m3 f2' (fun a k y => by unfold Wmo Wkp at y; omega) hg2 rfl hk' h25 h26 h70
    rw [List.length_cons, List.length_take]
    omega
  · exact md_out (d := 17) mc.1 mc.2.2.1 mc.2.2.2.2.2 (fun q => absurd q hp) (fun _ => ⟨rfl, inv_plain sc ct c z r ab mc mw ma (th_fr h) wth_p⟩)
theorem op_undo {L n : Nat} {xs : Nat → Int32} (hn : n < 512) : OpI (Inv L xs) 20 151 281 [] n := by
  intro h hI
  obtain ⟨sc, ct, tp, gs, m, so, f1, f2, S, w, A, t, ad, K, M, E, la, cap, c, mc, mw, ma, z, r, ab⟩ := hI
  have ho := c.2.2.1.1
  have ht : t ≤ n := ab.2.2.2.2.2.1
  have hA : A.length ≤ 12 := ab.2.2.2.1
  have hch := ab.2.2.1
  refine ow_undo (d := 16) c.1 c.2.2.1 c.2.2.2.2.2.2.1 hch (fun e => ⟨_, rfl, rfl, mc.1.1, ?_⟩) (fun x s g0 m0 r0 eA h1 ha hg hs f => ?_)
  · refine md_undo (d := 18) mc.1 mc.2.2.1 mc.2.2.2.2.2 hch.len (fun _ => ⟨rfl, inv_plain sc ct c z r ab mc mw ma (th_fr h) wth_p⟩) (fun as' gs' m' e2 => ?_)
    rw [e] at e2
    exact absurd e2.symm (by show ¬ as' ++ [(gs', m')] = []; simp)
  · have wc : ∀ a k, Wcu a k → a = 3 ∨ a = 4 ∨ (a = 2 ∧ (k = 5 ∨ k = 6 ∨ k = 9)) := fun a k y => by unfold Wcu at y; omega
    obtain ⟨m1, m2, m3⟩ := cls_md ho mc mw ma f (fun a k y => by have := wc a k y; omega)
    subst eA
    obtain ⟨g1, g2, g3, g4⟩ := hch
    have est : h_i h1 2 6 = nI (t + 1) := by rw [hs, c.2.2.2.2.2.2.2, nI_1]
    have c1 := c.grp f.ce0 (f.ow c.1) (fun a k y => Or.inl (by have := wc a k y; unfold Wgc; omega)) hg g3.len.symm ha est
    have z1 := z.frn (gs' := g0) (m' := m0) f (fun a k y => by have := wc a k y; omega) (by omega) c.2.2.2.2.2.2.2 est
    have huC : unlD g0 := g3.unlD.mp ab.2.1
    refine ⟨_, rfl, f.2.2.2.2.1, m1.1.1, ?_⟩
    refine md_undo (d := 18) m1.1 m1.2.2.1 m1.2.2.2.2.2 (Chn.len (gs := gs) (m := m) ⟨g1, g2, g3, g4⟩) (fun e2 => ?_) (fun as' gs' m' e2 h2 hk2 hg2 f2' h25 h26 h70 => ⟨rfl, ?_⟩)
    · rw [snL_cons] at e2
      exact absurd e2 (by simp)
    · rw [snL_cons] at e2
      have e3 := List.append_inj' e2 rfl
      have e4 := (List.cons.inj e3.2).1
      have eg : g0 = gs' := congrArg Prod.fst e4
      have em : m0 = m' := congrArg Prod.snd e4
      subst eg
      subst em
      rw [← e3.1] at hk2
      rw [List.length_cons] at hA
      exact inv_new (f.2.2.2.2.1.trans sc) (by rw [f.2.2.1]; exact ct) c1 z1 (r.fr f) ⟨ab.1, huC, g4, by omega, ab.2.2.2.2.1, by omega, ab.2.2.2.2.2.2.to g3.cor.symm⟩ m1 m2 m3 f2' (fun a k y => by unfold Wmu at y; omega) hg2 g3.len.symm hk2 h25 h26 h70
