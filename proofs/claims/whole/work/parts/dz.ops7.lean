/-! the calls, one by one: words, nth, place, borders, border -/
theorem kp10 {ic : Nat} {h h1 : PH} (hic : ic = 143 ∨ ic = 144 ∨ ic = 145) (kp : Kps ic h h1) : ∀ g, g ≠ 10 → g ≠ 5 → 5 ≤ g → g ≤ 12 → h_r h1 0 g = h_r h 0 g := fun g a b d e => kp g d e (by rcases (show g = 6 ∨ g = 7 ∨ g = 8 ∨ g = 9 ∨ g = 11 ∨ g = 12 by omega) with e | e | e | e | e | e <;> subst e <;> rcases hic with e | e | e <;> subst e <;> decide)
theorem kp11 {ic : Nat} {h h1 : PH} (hic : ic = 146 ∨ ic = 147) (kp : Kps ic h h1) : ∀ g, g ≠ 11 → g ≠ 5 → 5 ≤ g → g ≤ 12 → h_r h1 0 g = h_r h 0 g := fun g a b d e => kp g d e (by rcases (show g = 6 ∨ g = 7 ∨ g = 8 ∨ g = 9 ∨ g = 10 ∨ g = 12 by omega) with e | e | e | e | e | e <;> subst e <;> rcases hic with e | e <;> subst e <;> decide)
theorem inv_cen {W : Nat → Nat → Prop} {h1 h2 : PH} {Ls n : Nat} {xs : Nat → Int32} {tp : List Int32} {gs N : List (List Nat)} {m : Nat} {so : Nat → Int32} {f1 f2 : Int32} {S : Nat} {w : List Nat} {A : List Act} {t : Nat} {ad : Nat → Nat} {K M E la cap : Nat} (sc : h_sc h1 = (Ls, xs)) (ct : 63 ≤ h_ct h1) (c : CIn h1 tp gs m so f1 f2 S w A t) (z : Lz h1 gs m ad K M E la cap) (r : Rm h1 K M E cap) (ab : Abs tp gs m S w A t n) (mc : MCo h1 tp gs m so f1 f2 S A) (mw : MWd h2 w) (ma : MCa h1 gs m) (hC : CNd h2 N gs m) (hO : LyO h2) (f : Fr W h1 h2) (hw : ∀ x k, W x k → Wmwo x k ∨ x = 36 ∨ x = 26 ∨ (x = 17 ∧ k = 24)) : Inv Ls xs (n + 1) h2 := by
  have wm : ∀ x k, W x k → (x = 17 ∧ (k = 0 ∨ k = 26 ∨ k = 53 ∨ k = 61 ∨ k = 62 ∨ k = 24)) ∨ (44 ≤ x ∧ x ≤ 54) ∨ x = 36 ∨ x = 26 := fun x k y => by
    have := hw x k y
    unfold Wmwo Wnd Wcfm at this
    omega
  exact inv_fin sc ct c z r ab.up f (fun x k y => by have := wm x k y; omega) (mc.fr f (fun x k y q => by have := wm x k y; unfold Wcor at q; omega)) mw ⟨ma.1.fr f (fun x k y q => by have := wm x k y; unfold Wlt at q; omega) c.2.2.1.1, fun _ => ⟨N, hC⟩, MCa.bz f (fun x k y q => by have := wm x k y; omega) ma.2.2.1, hO⟩
theorem op_words {L n : Nat} {xs : Nat → Int32} (x1 x2 : Int32) (hn : n < 512) : OpL (Inv L xs) 20 143 257 [.int x1, .int x2] n := by
  intro h hI
  obtain ⟨sc, ct, tp, gs, m, so, f1, f2, S, w, A, t, ad, K, M, E, la, cap, c, mc, mw, ma, z, r, ab⟩ := hI
  have hu := ab.2.1.unlk
  have ht : t ≤ n := ab.2.2.2.2.2.1
  have f0 : ∀ {g g2 : PH}, Fr (fun x k => x = 17 ∧ k = 0) g g2 → Fr Wth g g2 := fun f => f
  refine wpm_k (R := fun r h1 => (r = some (.long (-1)) ∧ h1 = h ∧ (x1 < 0 ∨ (10 : Int32) < x1 ∨ x2 < 0 ∨ (2 : Int32) < x2)) ∨ ∃ k q d ad' K' M' E', r = some (.long (wdV gs m k q)) ∧ k ≤ 10 ∧ q ≤ 2 ∧ x1 = nI k ∧ x2 = nI q ∧ CeP h h1 gs m ad K M E d ad' K' M' E' (Wcn h ad)) (ow_words (d := 14) c.1 ct z.o5 z.o10 z.d10 c.2.2.1 hu (by omega) c.2.2.2.2.2.2.2 (fun b => Or.inl ⟨rfl, rfl, b⟩) (fun k q d h1 ad' K' M' E' a1 a2 a3 a4 a5 => Or.inr ⟨k, q, d, ad', K', M', E', rfl, a1, a2, a3, a4, a5⟩)) c.1.1 (by omega) (fun rr h1 q kp => ?_)
  rcases q with ⟨e, eh, bad⟩ | ⟨k, q, d, ad', K', M', E', e, k10, q2, e1, e2, P⟩
  · subst eh
    refine ⟨_, e, rfl, mc.1.1, ?_⟩
    refine md_words (d := 14) mc.1 mc.2.2.1 hu ma.2.1 ma.2.2.2 (fun _ h2 f => ⟨rfl, inv_plain sc ct c z r ab mc mw ma (f0 f) wth_p⟩) (fun k q h2 N k10 q2 e1 e2 => ?_)
    rw [e1, e2, show (0 : Int32) = nI 0 from rfl, show (10 : Int32) = nI 10 from rfl, show (2 : Int32) = nI 2 from rfl, nI_ltI (by omega) (by omega), nI_ltI (by omega) (by omega), nI_ltI (by omega) (by omega), nI_ltI (by omega) (by omega)] at bad
    omega
  · obtain ⟨s0, s1, s2, s3, s6, s7, s8⟩ := cls_gq sc ct c mc mw ma P.2.2.2.2.2.2.2.1 P.2.2.2.2.2.2.2.2.2 (fun x k y => Or.inl (wcn_63 z y))
    have c1 := c.same (P.2.2.2.2.2.2.2.1.ce0 ct) s3 (fun x k y => Or.inr (Or.inr (Or.inr (wcn_63 z y))))
    have z1 := lz_ce ct z P (fun x k y => Or.inl y) (kp10 (Or.inl rfl) kp)
    have r1 := r.acc P.2.2.2.2.2.2.2.2.1
    refine ⟨_, e, s0, s6.1.1, ?_⟩
    refine md_words (d := 14) s6.1 s6.2.2.1 hu s8.2.1 s8.2.2.2 (fun bad => ?_) (fun k' q' h2 N _ _ e1' e2' hC hO f => ?_)
    · rw [e1, e2, show (0 : Int32) = nI 0 from rfl, show (10 : Int32) = nI 10 from rfl, show (2 : Int32) = nI 2 from rfl, nI_ltI (by omega) (by omega), nI_ltI (by omega) (by omega), nI_ltI (by omega) (by omega), nI_ltI (by omega) (by omega)] at bad
      omega
    · have ek : k = k' := nI_i (by omega) (by omega) (e1.symm.trans e1')
      have eq' : q = q' := nI_i (by omega) (by omega) (e2.symm.trans e2')
      subst ek
      subst eq'
      exact ⟨rfl, inv_cen s1 s2 c1 z1 r1 ab s6 (s7.fr f (fun x k y q => by unfold Wmwo Wnd Wcfm at y; omega)) s8 hC hO f (fun x k y => Or.inl y)⟩
theorem op_nth {L n : Nat} {xs : Nat → Int32} (x1 : Int32) (l2 : Int64) (hn : n < 512) : OpI (Inv L xs) 20 144 260 [.int x1, .long l2] n := by
  intro h hI
  obtain ⟨sc, ct, tp, gs, m, so, f1, f2, S, w, A, t, ad, K, M, E, la, cap, c, mc, mw, ma, z, r, ab⟩ := hI
  have hu := ab.2.1.unlk
  have ht : t ≤ n := ab.2.2.2.2.2.1
  have nbad : ∀ {k kk : Nat}, k ≤ 10 → kk < 2 ^ 63 → x1 = nI k → l2 = lN kk → ¬ (x1 < 0 ∨ (10 : Int32) < x1 ∨ ¬ 0 ≤ lg_cmp l2 (0 : Int64)) := fun {k kk} a b e1 e2 bad => by
    rw [e1, e2, show (0 : Int64) = lN 0 from rfl, lg_ge b (by omega), show (0 : Int32) = nI 0 from rfl, show (10 : Int32) = nI 10 from rfl, nI_ltI (by omega) (by omega), nI_ltI (by omega) (by omega)] at bad
    omega
  refine wpm_k (R := fun r h1 => (r = some (.int 0) ∧ h1 = h ∧ (x1 < 0 ∨ (10 : Int32) < x1 ∨ ¬ 0 ≤ lg_cmp l2 (0 : Int64))) ∨ ∃ k kk d ad' K' M' E', k ≤ 10 ∧ kk < 2 ^ 63 ∧ x1 = nI k ∧ l2 = lN kk ∧ CeP h h1 gs m ad K M E d ad' K' M' E' (fun x k => Wcn h ad x k ∨ Wcd x k) ∧ ((r = some (.int 0) ∧ cnF oneN gs m k [] ≤ kk ∧ CWd h1 w) ∨ (r = some (.int 1) ∧ kk < cnF oneN gs m k [] ∧ CWd h1 (nthW gs m k [] kk)))) (ow_nth (d := 14) c.1 ct z.o5 z.o10 z.d10 c.2.2.1 hu c.2.2.2.2.2.1 (by omega) c.2.2.2.2.2.2.2 (fun b => Or.inl ⟨rfl, rfl, b⟩) (fun k kk d h1 ad' K' M' E' a1 a2 a3 a4 a5 a6 a7 => Or.inr ⟨k, kk, d, ad', K', M', E', a1, a4, a2, a3, a7, Or.inl ⟨rfl, a5, a6⟩⟩) (fun k kk d h1 ad' K' M' E' a1 a2 a3 a4 a5 a6 a7 => Or.inr ⟨k, kk, d, ad', K', M', E', a1, a4, a2, a3, a7, Or.inr ⟨rfl, a5, a6⟩⟩)) c.1.1 (by omega) (fun rr h1 q kp => ?_)
  rcases q with ⟨e, eh, bad⟩ | ⟨k, kk, d, ad', K', M', E', k10, kk63, e1, e2, P, fin⟩
  · subst eh
    refine ⟨_, e, rfl, mc.1.1, ?_⟩
    exact md_nth (d := 13) mc.1 mc.2.2.1 hu ma.2.1 ma.2.2.2 (fun _ h2 f => ⟨rfl, inv_plain sc ct c z r ab mc mw ma (show Fr Wth _ h2 from f) wth_p⟩) (fun k kk h2 N a1 a2 a3 a4 => absurd bad (nbad a1 a4 a2 a3)) (fun k kk h2 N a1 a2 a3 a4 => absurd bad (nbad a1 a4 a2 a3))
  · have w63 : ∀ x k, (Wcn h ad x k ∨ Wcd x k) → 63 ≤ x ∨ Wcd x k := fun x k y => y.imp (fun q => wcn_63 z q) id
    obtain ⟨s0, s1, s2, s3, s6, s7, s8⟩ := cls_gq sc ct c mc mw ma P.2.2.2.2.2.2.2.1 P.2.2.2.2.2.2.2.2.2 w63
    have z1 := lz_ce ct z P (fun x k y => y) (kp10 (Or.inr (Or.inl rfl)) kp)
    have r1 := r.acc P.2.2.2.2.2.2.2.2.1
    have cw : ∀ {w'}, CWd h1 w' → CIn h1 tp gs m so f1 f2 S w' A t := fun hwd => c.wd (P.2.2.2.2.2.2.2.1.ce0 ct) s3 (fun x k y => (w63 x k y).elim (fun q => Or.inr (Or.inr (Or.inr (Or.inr q)))) Or.inl) hwd
    rcases fin with ⟨e, hle, hwd⟩ | ⟨e, hlt, hwd⟩
    · refine ⟨_, e, s0, s6.1.1, ?_⟩
      refine md_nth (d := 13) s6.1 s6.2.2.1 hu s8.2.1 s8.2.2.2 (fun bad => absurd bad (nbad k10 kk63 e1 e2)) (fun k' kk' h2 N a1 a2 a3 a4 a5 hC hO f => ⟨rfl, inv_cen s1 s2 (cw hwd) z1 r1 ab s6 (s7.fr f (fun x k y q => by unfold Wmwo Wnd Wcfm at y; omega)) s8 hC hO f (fun x k y => Or.inl y)⟩) (fun k' kk' h2 N a1 a2 a3 a4 a5 => ?_)
      have ek : k = k' := nI_i (by omega) (by omega) (e1.symm.trans a2)
      have ekk : kk = kk' := (lN_inj64 (by omega) (by omega)).mp (e2.symm.trans a3)
      subst ek
      subst ekk
      omega
    · refine ⟨_, e, s0, s6.1.1, ?_⟩
      refine md_nth (d := 13) s6.1 s6.2.2.1 hu s8.2.1 s8.2.2.2 (fun bad => absurd bad (nbad k10 kk63 e1 e2)) (fun k' kk' h2 N a1 a2 a3 a4 a5 => ?_) (fun k' kk' h2 N a1 a2 a3 a4 a5 hC hO hwd2 f => ?_)
      · have ek : k = k' := nI_i (by omega) (by omega) (e1.symm.trans a2)
        have ekk : kk = kk' := (lN_inj64 (by omega) (by omega)).mp (e2.symm.trans a3)
        subst ek
        subst ekk
        omega
      · have ek : k = k' := nI_i (by omega) (by omega) (e1.symm.trans a2)
        have ekk : kk = kk' := (lN_inj64 (by omega) (by omega)).mp (e2.symm.trans a3)
        subst ek
        subst ekk
        have ab' : Abs tp gs m S (nthW gs m k [] kk) A t n := ⟨ab.1, ab.2.1, ab.2.2.1, ab.2.2.2.1, ab.2.2.2.2.1, ab.2.2.2.2.2.1, Bd.short ab.2.1 (by rw [nthW_len]; show 0 + k ≤ 62; omega)⟩
        exact ⟨rfl, inv_cen s1 s2 (cw hwd) z1 r1 ab' s6 hwd2 s8 hC hO f (fun x k y => by unfold Wmnt at y; exact y.imp id Or.inr)⟩
theorem op_place {L n : Nat} {xs : Nat → Int32} (hn : n < 512) : OpL (Inv L xs) 20 145 261 [] n := by
  intro h hI
  obtain ⟨sc, ct, tp, gs, m, so, f1, f2, S, w, A, t, ad, K, M, E, la, cap, c, mc, mw, ma, z, r, ab⟩ := hI
  have hu := ab.2.1.unlk
  have ht : t ≤ n := ab.2.2.2.2.2.1
  have wp : ∀ x k, (x = 36 ∨ (x = 17 ∧ k = 0)) → (17 ≤ x ∧ x < 63) ∧ ¬ Wcor x k ∧ ¬ Wcac x k ∧ ¬ ((x = 17 ∧ k = 24) ∨ x = 26) := fun x k y => by
    unfold Wcor Wcac Wlt
    omega
  refine wpm_k (R := fun r h1 => (r = some (.long (-1)) ∧ h1 = h ∧ 10 < w.length) ∨ ∃ d ad' K' M' E', r = some (.long (@ite Int64 (rdc gs m w = 0) (Nat.decEq _ _) (-1) (lN (rkW gs m [] w)))) ∧ w.length ≤ 10 ∧ CeP h h1 gs m ad K M E d ad' K' M' E' (Wcn h ad) ∧ CWd h1 w) (ow_place (d := 14) c.1 ct z.o5 z.o10 z.d10 c.2.2.1 hu c.2.2.2.2.2.1 (by omega) c.2.2.2.2.2.2.2 (fun b => Or.inl ⟨rfl, rfl, b⟩) (fun d h1 ad' K' M' E' a1 a2 a3 => Or.inr ⟨d, ad', K', M', E', rfl, a1, a2, a3⟩)) c.1.1 (by omega) (fun rr h1 q kp => ?_)
  rcases q with ⟨e, eh, bad⟩ | ⟨d, ad', K', M', E', e, w10, P, hwd⟩
  · subst eh
    refine ⟨_, e, rfl, mc.1.1, ?_⟩
    exact md_place (d := 13) mc.1 mc.2.2.1 hu mw ma.2.1 ma.2.2.2 (fun _ h2 f => ⟨rfl, inv_plain sc ct c z r ab mc mw ma f wp⟩) (fun q => absurd q (by omega))
  · obtain ⟨s0, s1, s2, s3, s6, s7, s8⟩ := cls_gq sc ct c mc mw ma P.2.2.2.2.2.2.2.1 P.2.2.2.2.2.2.2.2.2 (fun x k y => Or.inl (wcn_63 z y))
    have c1 := c.same (P.2.2.2.2.2.2.2.1.ce0 ct) s3 (fun x k y => Or.inr (Or.inr (Or.inr (wcn_63 z y))))
    have z1 := lz_ce ct z P (fun x k y => Or.inl y) (kp10 (Or.inr (Or.inr rfl)) kp)
    have r1 := r.acc P.2.2.2.2.2.2.2.2.1
    refine ⟨_, e, s0, s6.1.1, ?_⟩
    by_cases y : rdc gs m w = 0
    · rw [if_pos y]
      exact md_place (d := 13) s6.1 s6.2.2.1 hu s7 s8.2.1 s8.2.2.2 (fun _ h2 f => ⟨rfl, inv_plain s1 s2 c1 z1 r1 ab s6 s7 s8 f wp⟩) (fun _ q => absurd y q)
    · rw [if_neg y]
      exact md_place (d := 13) s6.1 s6.2.2.1 hu s7 s8.2.1 s8.2.2.2 (fun q => absurd q (by omega)) (fun _ _ h2 N hC hO f => ⟨rfl, inv_cen s1 s2 c1 z1 r1 ab s6 (s7.fr f (fun x k y q => by unfold Wmpl Wmwo Wnd Wcfm at y; omega)) s8 hC hO f (fun x k y => by unfold Wmpl at y; exact y.imp id Or.inl)⟩)
theorem inv_bor {W : Nat → Nat → Prop} {h1 h2 : PH} {Ls n : Nat} {xs : Nat → Int32} {tp : List Int32} {gs : List (List Nat)} {m : Nat} {so : Nat → Int32} {f1 f2 : Int32} {S : Nat} {w : List Nat} {A : List Act} {t : Nat} {ad : Nat → Nat} {K M E la cap : Nat} (sc : h_sc h1 = (Ls, xs)) (ct : 63 ≤ h_ct h1) (c : CIn h1 tp gs m so f1 f2 S w A t) (z : Lz h1 gs m ad K M E la cap) (r : Rm h1 K M E cap) (ab : Abs tp gs m S w A t n) (mc : MCo h1 tp gs m so f1 f2 S A) (mw : MWd h1 w) (ma : MCa h1 gs m) (hB : MBz h2 gs m) (f : Fr W h1 h2) (hw : ∀ x k, W x k → Wbo x k) : Inv Ls xs (n + 1) h2 := by
  have wm : ∀ x k, W x k → (x = 17 ∧ (k = 0 ∨ k = 70 ∨ k = 71)) ∨ (55 ≤ x ∧ x ≤ 59) := fun x k y => by
    have := hw x k y
    unfold Wbo Wbz Wbm at this
    omega
  exact inv_fin sc ct c z r ab.up f (fun x k y => by have := wm x k y; omega) (mc.fr f (fun x k y q => by have := wm x k y; unfold Wcor at q; omega)) (mw.fr f (fun x k y q => by have := wm x k y; omega)) ⟨ma.1.fr f (fun x k y q => by have := wm x k y; unfold Wlt at q; omega) c.2.2.1.1, MCa.nd f (fun x k y q => by have := wm x k y; omega) ma.2.1, hB, MCa.ly f (fun x k y q => by have := wm x k y; omega) ma.2.2.2⟩
theorem op_borders {L n : Nat} {xs : Nat → Int32} (x1 : Int32) (hn : n < 512) : OpI (Inv L xs) 20 146 268 [.int x1] n := by
  intro h hI
  obtain ⟨sc, ct, tp, gs, m, so, f1, f2, S, w, A, t, ad, K, M, E, la, cap, c, mc, mw, ma, z, r, ab⟩ := hI
  have ht : t ≤ n := ab.2.2.2.2.2.1
  refine wpm_k (R := fun r h1 => r = some (.int (bosR gs m x1)) ∧ (h1 = h ∨ ∃ b la' cap', BoP h h1 gs m la cap b la' cap' (Wbn h la))) (ow_borders (d := 10) c.1 ct z.o5 z.o11 z.d11 c.2.2.1 (by omega) c.2.2.2.2.2.2.2 (fun b => ⟨rfl, Or.inl rfl⟩) (fun b h1 la' cap' P => ⟨rfl, Or.inr ⟨b, la', cap', P⟩⟩)) c.1.1 (by omega) (fun rr h1 q kp => ?_)
  obtain ⟨e, q⟩ := q
  rcases q with eh | ⟨b, la', cap', P⟩
  · subst eh
    exact ⟨_, e, rfl, mc.1.1, md_borders (d := 15) mc.1 mc.2.2.1 ma.2.2.1 (fun h2 hB f => ⟨rfl, inv_bor sc ct c z r ab mc mw ma hB f (fun x k y => y)⟩)⟩
  · obtain ⟨s0, s1, s2, s3, s6, s7, s8⟩ := cls_gq sc ct c mc mw ma P.2.2.2.2.2.2.2.2.1 P.2.2.2.2.2.2.2.2.2.2 (fun x k y => Or.inl (wbn_63 z y))
    have c1 := c.same (P.2.2.2.2.2.2.2.2.1.ce0 ct) s3 (fun x k y => Or.inr (Or.inr (Or.inr (wbn_63 z y))))
    have z1 := lz_bo ct z P (kp11 (Or.inl rfl) kp)
    have r1 := r.acb P.2.2.2.2.2.2.2.2.2.1
    exact ⟨_, e, s0, s6.1.1, md_borders (d := 15) s6.1 s6.2.2.1 s8.2.2.1 (fun h2 hB f => ⟨rfl, inv_bor s1 s2 c1 z1 r1 ab s6 s7 s8 hB f (fun x k y => y)⟩)⟩
theorem op_border {L n : Nat} {xs : Nat → Int32} (x1 x2 x3 : Int32) (hn : n < 512) : OpI (Inv L xs) 20 147 269 [.int x1, .int x2, .int x3] n := by
  intro h hI
  obtain ⟨sc, ct, tp, gs, m, so, f1, f2, S, w, A, t, ad, K, M, E, la, cap, c, mc, mw, ma, z, r, ab⟩ := hI
  have ht : t ≤ n := ab.2.2.2.2.2.1
  refine wpm_k (R := fun r h1 => r = some (.int (borR gs m x1 x2 x3)) ∧ ∃ b la' cap', BoP h h1 gs m la cap b la' cap' (Wbn h la)) (ow_border (d := 10) c.1 ct z.o5 z.o11 z.d11 c.2.2.1 (by omega) c.2.2.2.2.2.2.2 (fun b h1 la' cap' P => ⟨rfl, b, la', cap', P⟩)) c.1.1 (by omega) (fun rr h1 q kp => ?_)
  obtain ⟨e, b, la', cap', P⟩ := q
  obtain ⟨s0, s1, s2, s3, s6, s7, s8⟩ := cls_gq sc ct c mc mw ma P.2.2.2.2.2.2.2.2.1 P.2.2.2.2.2.2.2.2.2.2 (fun x k y => Or.inl (wbn_63 z y))
  have c1 := c.same (P.2.2.2.2.2.2.2.2.1.ce0 ct) s3 (fun x k y => Or.inr (Or.inr (Or.inr (wbn_63 z y))))
  have z1 := lz_bo ct z P (kp11 (Or.inr rfl) kp)
  have r1 := r.acb P.2.2.2.2.2.2.2.2.2.1
  exact ⟨_, e, s0, s6.1.1, md_border (d := 15) s6.1 s6.2.2.1 s8.2.2.1 (fun h2 hB f => ⟨rfl, inv_bor s1 s2 c1 z1 r1 ab s6 s7 s8 hB f (fun x k y => y)⟩)⟩
