/-! the calls, one by one: those that change nothing -/
theorem inv_plain {W : Nat → Nat → Prop} {h1 h2 : PH} {Ls n : Nat} {xs : Nat → Int32} {tp : List Int32} {gs : List (List Nat)} {m : Nat} {so : Nat → Int32} {f1 f2 : Int32} {S : Nat} {w : List Nat} {A : List Act} {t : Nat} {ad : Nat → Nat} {K M E la cap : Nat} (sc : h_sc h1 = (Ls, xs)) (ct : 63 ≤ h_ct h1) (c : CIn h1 tp gs m so f1 f2 S w A t) (z : Lz h1 gs m ad K M E la cap) (r : Rm h1 K M E cap) (ab : Abs tp gs m S w A t n) (mc : MCo h1 tp gs m so f1 f2 S A) (mw : MWd h1 w) (ma : MCa h1 gs m) (f : Fr W h1 h2) (hw : ∀ x k, W x k → (17 ≤ x ∧ x < 63) ∧ ¬ Wcor x k ∧ ¬ Wcac x k ∧ ¬ ((x = 17 ∧ k = 24) ∨ x = 26)) : Inv Ls xs (n + 1) h2 :=
  inv_fin sc ct c z r ab.up f (fun x k y => (hw x k y).1) (mc.fr f (fun x k y => (hw x k y).2.1)) (mw.fr f (fun x k y => (hw x k y).2.2.2)) (ma.fr c.2.2.1.1 f (fun x k y => (hw x k y).2.2.1))
theorem wth_p : ∀ x k, Wth x k → (17 ≤ x ∧ x < 63) ∧ ¬ Wcor x k ∧ ¬ Wcac x k ∧ ¬ ((x = 17 ∧ k = 24) ∨ x = 26) := fun x k y => by
  unfold Wth at y
  unfold Wcor Wcac Wlt
  omega
/-- behind a call of the class that touches only its scratch -/
theorem cls_fr {W : Nat → Nat → Prop} {h h1 : PH} {Ls : Nat} {xs : Nat → Int32} {tp : List Int32} {gs : List (List Nat)} {m : Nat} {so : Nat → Int32} {f1 f2 : Int32} {S : Nat} {w : List Nat} {A : List Act} {t : Nat} {ad : Nat → Nat} {K M E la cap : Nat} (sc : h_sc h = (Ls, xs)) (ct : 63 ≤ h_ct h) (c : CIn h tp gs m so f1 f2 S w A t) (z : Lz h gs m ad K M E la cap) (r : Rm h K M E cap) (mc : MCo h tp gs m so f1 f2 S A) (mw : MWd h w) (ma : MCa h gs m) (f : Fr W h h1) (hw : ∀ x k, W x k → x < 17 ∧ Wig x k) : h_sc h1 = h_sc h ∧ h_sc h1 = (Ls, xs) ∧ 63 ≤ h_ct h1 ∧ CIn h1 tp gs m so f1 f2 S w A t ∧ Lz h1 gs m ad K M E la cap ∧ Rm h1 K M E cap ∧ MCo h1 tp gs m so f1 f2 S A ∧ MWd h1 w ∧ MCa h1 gs m := by
  have e : ∀ x k, 17 ≤ x → x < 63 → h_i h1 x k = h_i h x k ∧ h_l h1 x k = h_l h x k := fun x k a _ => ⟨f.i _ _ (fun y => by have := (hw _ _ y).1; omega), f.l _ _ (fun y => by have := (hw _ _ y).1; omega)⟩
  exact ⟨f.2.2.2.2.1, f.2.2.2.2.1.trans sc, by rw [f.2.2.1]; exact ct, c.same f.ce0 (f.ow c.1) (fun x k y => (hw x k y).2), z.fr f (fun x k y => ⟨by have := (hw x k y).1; omega, fun q => by have := (hw x k y).2; unfold Wig at this; omega⟩), r.fr f, mc.cl e (f.md mc.1), mw.cl e, ma.cl c.2.2.1.1 e⟩
theorem op_fault {L n : Nat} {xs : Nat → Int32} (x : Int32) : OpI (Inv L xs) 20 121 196 [.int x] n := by
  intro h hI
  obtain ⟨sc, ct, tp, gs, m, so, f1, f2, S, w, A, t, ad, K, M, E, la, cap, c, mc, mw, ma, z, r, ab⟩ := hI
  refine ow_fault (d := 19) c.1 ⟨_, rfl, rfl, mc.1.1, ?_⟩
  refine md_fault (d := 19) mc.1 ⟨?_, inv_plain sc ct c z r ab mc mw ma (th_fr h) wth_p⟩
  rw [mc.2.2.2.2.1.1, mc.2.2.2.2.1.2.1, c.2.2.2.2.1.1, c.2.2.2.2.1.2.1]
theorem op_group {L n : Nat} {xs : Nat → Int32} (x y : Int32) : OpI (Inv L xs) 20 122 203 [.int x, .int y] n := by
  intro h hI
  obtain ⟨sc, ct, tp, gs, m, so, f1, f2, S, w, A, t, ad, K, M, E, la, cap, c, mc, mw, ma, z, r, ab⟩ := hI
  refine ow_group (d := 17) c.1 c.2.2.1 c.2.2.2.1 ⟨_, rfl, rfl, mc.1.1, ?_⟩
  exact md_group (d := 17) mc.1 mc.2.2.1 mc.2.2.2.1 ⟨rfl, inv_plain sc ct c z r ab mc mw ma (th_fr h) wth_p⟩
theorem acl_len (A : List Act) : (acL A).length = A.length := by
  unfold acL
  rw [List.length_reverse, List.length_map]
theorem snl_len (A : List Act) : (snL A).length = A.length := by
  unfold snL
  rw [List.length_reverse, List.length_map]
theorem op_about {L n : Nat} {xs : Nat → Int32} (x : Int32) : OpI (Inv L xs) 20 123 204 [.int x] n := by
  intro h hI
  obtain ⟨sc, ct, tp, gs, m, so, f1, f2, S, w, A, t, ad, K, M, E, la, cap, c, mc, mw, ma, z, r, ab⟩ := hI
  refine ow_about (d := 16) c.1 c.2.2.1 c.2.2.2.2.2.1 ⟨_, rfl, rfl, mc.1.1, ?_⟩
  refine md_about (d := 15) mc.1 mc.2.2.1 mw ⟨?_, inv_plain sc ct c z r ab mc mw ma (th_fr h) wth_p⟩
  rw [mc.2.2.2.2.1.2.2, mc.2.2.2.2.2.1, mc.2.1.1, c.2.2.2.2.1.2.2, c.2.2.2.2.2.2.1.1, c.2.1.1, acl_len, snl_len]
theorem op_meets {L n : Nat} {xs : Nat → Int32} (x y : Int32) : OpI (Inv L xs) 20 124 205 [.int x, .int y] n := by
  intro h hI
  obtain ⟨sc, ct, tp, gs, m, so, f1, f2, S, w, A, t, ad, K, M, E, la, cap, c, mc, mw, ma, z, r, ab⟩ := hI
  refine ow_meets (d := 17) c.1 c.2.2.1 ⟨_, rfl, rfl, mc.1.1, ?_⟩
  exact md_meets (d := 17) mc.1 mc.2.2.1 ⟨rfl, inv_plain sc ct c z r ab mc mw ma (th_fr h) wth_p⟩
theorem op_share {L n : Nat} {xs : Nat → Int32} (x : Int32) : OpL (Inv L xs) 20 131 225 [.int x] n := by
  intro h hI
  obtain ⟨sc, ct, tp, gs, m, so, f1, f2, S, w, A, t, ad, K, M, E, la, cap, c, mc, mw, ma, z, r, ab⟩ := hI
  refine ow_share (d := 16) c.1 c.2.2.1 ⟨_, rfl, rfl, mc.1.1, ?_⟩
  exact md_share (d := 16) mc.1 mc.2.2.1 (fun h2 f => ⟨rfl, inv_plain sc ct c z r ab mc mw ma f wth_p⟩)
theorem op_letter {L n : Nat} {xs : Nat → Int32} (x : Int32) : OpI (Inv L xs) 20 133 229 [.int x] n := by
  intro h hI
  obtain ⟨sc, ct, tp, gs, m, so, f1, f2, S, w, A, t, ad, K, M, E, la, cap, c, mc, mw, ma, z, r, ab⟩ := hI
  refine ow_letter (d := 19) c.1 c.2.2.2.2.2.1 ⟨_, rfl, rfl, mc.1.1, ?_⟩
  exact md_letter (d := 18) mc.1 mw ⟨rfl, inv_plain sc ct c z r ab mc mw ma (th_fr h) wth_p⟩
theorem op_readings {L n : Nat} {xs : Nat → Int32} : OpL (Inv L xs) 20 134 230 [] n := by
  intro h hI
  obtain ⟨sc, ct, tp, gs, m, so, f1, f2, S, w, A, t, ad, K, M, E, la, cap, c, mc, mw, ma, z, r, ab⟩ := hI
  have hb := ab.2.2.2.2.2.2.at c.2.2.1.1
  refine ow_readings (d := 15) c.1 c.2.2.2.2.2.1 c.2.2.1 hb (fun h1 f => ?_)
  obtain ⟨s0, s1, s2, s3, s4, s5, s6, s7, s8⟩ := cls_fr sc ct c z r mc mw ma f (fun x k y => by unfold Wig; omega)
  refine ⟨_, rfl, s0, s6.1.1, ?_⟩
  exact md_readings (d := 16) s6.1 s7 s6.2.2.1 (fun h2 f2 => ⟨rfl, inv_plain s1 s2 s3 s4 s5 ab s6 s7 s8 f2 (fun x k y => by unfold Wml at y; unfold Wcor Wcac Wlt; omega)⟩)
theorem op_reading {L n : Nat} {xs : Nat → Int32} (x y : Int32) : OpI (Inv L xs) 20 135 232 [.int x, .int y] n := by
  intro h hI
  obtain ⟨sc, ct, tp, gs, m, so, f1, f2, S, w, A, t, ad, K, M, E, la, cap, c, mc, mw, ma, z, r, ab⟩ := hI
  have hb := ab.2.2.2.2.2.2.at c.2.2.1.1
  refine ow_reading (d := 14) c.1 c.2.2.2.2.2.1 c.2.2.1 hb (fun h1 f => ?_)
  obtain ⟨s0, s1, s2, s3, s4, s5, s6, s7, s8⟩ := cls_fr sc ct c z r mc mw ma f (fun x k y => by unfold Wrd at y; unfold Wig; omega)
  refine ⟨_, rfl, s0, s6.1.1, ?_⟩
  exact md_reading (d := 16) s6.1 s7 s6.2.2.1 hb (fun h2 f2 => ⟨rfl, inv_plain s1 s2 s3 s4 s5 ab s6 s7 s8 f2 (fun x k y => by unfold Wmr at y; unfold Wcor Wcac Wlt; omega)⟩)
theorem op_sounds {L n : Nat} {xs : Nat → Int32} : OpI (Inv L xs) 20 136 233 [] n := by
  intro h hI
  obtain ⟨sc, ct, tp, gs, m, so, f1, f2, S, w, A, t, ad, K, M, E, la, cap, c, mc, mw, ma, z, r, ab⟩ := hI
  have hb := ab.2.2.2.2.2.2.at c.2.2.1.1
  refine ow_sounds (d := 14) c.1 c.2.2.2.2.2.1 c.2.2.1 c.2.2.2.1 hb (fun h1 f => ?_)
  obtain ⟨s0, s1, s2, s3, s4, s5, s6, s7, s8⟩ := cls_fr sc ct c z r mc mw ma f (fun x k y => by unfold Wrd at y; unfold Wig; omega)
  refine ⟨_, rfl, s0, s6.1.1, ?_⟩
  exact md_sounds (d := 16) s6.1 s7 s6.2.2.1 s6.2.2.2.1 hb (fun h2 f2 => ⟨rfl, inv_plain s1 s2 s3 s4 s5 ab s6 s7 s8 f2 (fun x k y => by unfold Wms at y; unfold Wcor Wcac Wlt; omega)⟩)
theorem op_goes {L n : Nat} {xs : Nat → Int32} : OpI (Inv L xs) 20 140 242 [] n := by
  intro h hI
  obtain ⟨sc, ct, tp, gs, m, so, f1, f2, S, w, A, t, ad, K, M, E, la, cap, c, mc, mw, ma, z, r, ab⟩ := hI
  refine ow_goes (d := 15) c.1 c.2.2.2.2.2.1 c.2.2.1 (fun h1 f => ?_)
  obtain ⟨s0, s1, s2, s3, s4, s5, s6, s7, s8⟩ := cls_fr sc ct c z r mc mw ma f (fun x k y => by unfold Wig; omega)
  refine ⟨_, rfl, s0, s6.1.1, ?_⟩
  exact md_goes (d := 18) s6.1 s7 s6.2.2.1 (fun h2 f2 => ⟨rfl, inv_plain s1 s2 s3 s4 s5 ab s6 s7 s8 f2 (fun x k y => by unfold Wmg at y; unfold Wcor Wcac Wlt; omega)⟩)
