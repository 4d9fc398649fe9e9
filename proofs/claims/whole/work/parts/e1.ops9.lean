/-! the calls, one by one: cures asked for, and done -/
theorem wcc_is : ∀ a k, Wcc a k → a = 18 ∨ a = 19 ∨ a = 60 ∨ a = 61 ∨ (a = 17 ∧ (k = 0 ∨ k = 6 ∨ k = 74)) := fun a k y => by unfold Wcc Wic Wpn at y; omega
theorem inv_cc {h1 h2 : PH} {Ls n : Nat} {xs : Nat → Int32} {tp : List Int32} {gs : List (List Nat)} {m : Nat} {so : Nat → Int32} {f1 f2 : Int32} {S : Nat} {w : List Nat} {A : List Act} {t : Nat} {ad : Nat → Nat} {K M E la cap : Nat} (sc : h_sc h1 = (Ls, xs)) (ct : 63 ≤ h_ct h1) (c : CIn h1 tp gs m so f1 f2 S w A t) (z : Lz h1 gs m ad K M E la cap) (r : Rm h1 K M E cap) (ab : Abs tp gs m S w A t n) (mc : MCo h1 tp gs m so f1 f2 S A) (mw : MWd h1 w) (ma : MCa h1 gs m) (f : Fr Wcc h1 h2) (hg : MGr h2 gs m) : Inv Ls xs (n + 1) h2 :=
  inv_fin sc ct c z r ab.up f (fun x k y => by have := wcc_is x k y; omega) (mc.grp f (fun x k y => by have := wcc_is x k y; unfold Wcor; omega) hg rfl (mc.2.2.2.2.2.fr f (fun x k y q => by have := wcc_is x k y; omega))) (mw.fr f (fun x k y q => by have := wcc_is x k y; omega)) (ma.fr c.2.2.1.1 f (fun x k y q => by have := wcc_is x k y; unfold Wcac Wlt at q; omega))
theorem kp12 {ic : Nat} {h h1 : PH} (hic : ic = 148 ∨ ic = 149) (kp : Kps ic h h1) : ∀ g, g ≠ 12 → 5 ≤ g → g ≤ 12 → h_r h1 0 g = h_r h 0 g := fun g a d e => kp g d e (by rcases (show g = 5 ∨ g = 6 ∨ g = 7 ∨ g = 8 ∨ g = 9 ∨ g = 10 ∨ g = 11 by omega) with e | e | e | e | e | e | e <;> subst e <;> rcases hic with e | e <;> subst e <;> decide)
theorem op_cure {L n : Nat} {xs : Nat → Int32} (x : Int32) (hn : n < 512) : OpI (Inv L xs) 20 148 277 [.int x] n := by
  intro h hI
  obtain ⟨sc, ct, tp, gs, m, so, f1, f2, S, w, A, t, ad, K, M, E, la, cap, c, mc, mw, ma, z, r, ab⟩ := hI
  have ho := c.2.2.1.1
  have ht : t ≤ n := ab.2.2.2.2.2.1
  have u14 : 2 ^ gs.length ≤ 2 ^ 14 := Nat.pow_le_pow_right (by decide) ho.1
  refine wpm_k (R := fun r h1 => ((r = some (.int (-1)) ∧ (x < 0 ∨ 2 < x)) ∨ ∃ o, ¬ (x < 0 ∨ 2 < x) ∧ IsCu x gs m o ∧ r = some (.int (oN o))) ∧ Gw (Wlz 12 20 h) h h1 ∧ CCu h1 gs m ∧ (h_r h 0 12 = none → ∀ c, h_r h1 0 12 = some c → h_ct h ≤ c)) (ow_cure12 (d := 11) c.1 ct z.o12 c.2.2.1 (by omega) c.2.2.2.2.2.2.2 (fun b h1 a d e => ⟨Or.inl ⟨rfl, b⟩, a, d, e⟩) (fun b o ho h1 a d e => ⟨Or.inr ⟨o, b, ho, rfl⟩, a, d, e⟩)) c.1.1 (by omega) (fun rr h1 q kp => ?_)
  obtain ⟨q, G, o12, hnew⟩ := q
  have w63 : ∀ a k, Wlz 12 20 h a k → 63 ≤ a := fun a k y => wlz_63 z (f := 12) (by omega) y
  obtain ⟨s0, s1, s2, s3, s5, s6, s7, s8⟩ := cls_gw sc ct c r mc mw ma G (fun a k y => Or.inl (w63 a k y))
  have c1 := c.same (G.ce0 ct) s3 (fun a k y => Or.inr (Or.inr (Or.inr (w63 a k y))))
  have z1 := Lz.one (f := 12) (by omega) ct G (fun a k y => Or.inl y) (kp12 (Or.inl rfl) kp) z (ok12 o12) hnew
  rcases q with ⟨e, b⟩ | ⟨o, b, hcu, e⟩
  · refine ⟨_, e, s0, s6.1.1, ?_⟩
    exact md_cure (d := 13) s6.1 s6.2.2.1 ab.2.1.1 (fun _ => ⟨rfl, inv_plain s1 s2 c1 z1 s5 ab s6 s7 s8 (th_fr h1) wth_p⟩) (fun b' => absurd b b')
  · refine ⟨_, e, s0, s6.1.1, ?_⟩
    refine md_cure (d := 13) s6.1 s6.2.2.1 ab.2.1.1 (fun b' => absurd b' b) (fun _ o' hcu' h2 hg f => ?_)
    have eo : o = o' := CuB.uni u14 hcu hcu'
    subst eo
    exact ⟨rfl, inv_cc s1 s2 c1 z1 s5 ab s6 s7 s8 f hg⟩
theorem op_mend {L n : Nat} {xs : Nat → Int32} (x : Int32) (hn : n < 512) : OpI (Inv L xs) 20 149 279 [.int x] n := by
  intro h hI
  obtain ⟨sc, ct, tp, gs, m, so, f1, f2, S, w, A, t, ad, K, M, E, la, cap, c, mc, mw, ma, z, r, ab⟩ := hI
  have ho := c.2.2.1.1
  have ht : t ≤ n := ab.2.2.2.2.2.1
  have hA : A.length ≤ 12 := ab.2.2.2.1
  have u14 : 2 ^ gs.length ≤ 2 ^ 14 := Nat.pow_le_pow_right (by decide) ho.1
  have w63 : ∀ a k, Wlz 12 20 h a k → 63 ≤ a := fun a k y => wlz_63 z (f := 12) (by omega) y
  refine wpm_k (R := fun r h1 => (r = some (.int (-1)) ∧ ((x < 0 ∨ 2 < x) ∨ ∃ o, ¬ (x < 0 ∨ 2 < x) ∧ IsCu x gs m o ∧ ∀ s, o = some s → s = 0) ∧ Gw (Wlz 12 20 h) h h1 ∧ CCu h1 gs m ∧ (h_r h 0 12 = none → ∀ c, h_r h1 0 12 = some c → h_ct h ≤ c)) ∨ ∃ s, ¬ (x < 0 ∨ 2 < x) ∧ IsCu x gs m (some s) ∧ 0 < s ∧ r = some (.int (nI (pop s 14))) ∧ CAc h1 2 (acd (acL A) ++ [(x, nI s)]) ∧ CGr h1 2 (hlg x s gs) (hlm x s m) ∧ h_i h1 2 6 = h_i h 2 6 + 1 ∧ (∀ c, h_r h1 0 12 = some c → CuS h1 c ∧ ∀ w, w < 3 → SB (h_i h1 (c + 16) w) t) ∧ Gw (fun a k => Wlz 12 20 h a k ∨ Wom a k) h h1 ∧ (h_r h 0 12 = none → ∀ c, h_r h1 0 12 = some c → h_ct h ≤ c)) (ow_mend12 (d := 11) c.1 ct z.o12 c.2.2.1 c.2.2.2.2.2.2.1 (by omega) c.2.2.2.2.2.2.2 (fun b h1 a d e => Or.inl ⟨rfl, Or.inl b, a, d, e⟩) (fun b o ho h0 h1 a d e => Or.inl ⟨rfl, Or.inr ⟨o, b, ho, h0⟩, a, d, e⟩) (fun b s hs s0 h1 a1 a2 a3 a4 a5 a6 => Or.inr ⟨s, b, hs, s0, rfl, a1, a2, a3, a4, a5, a6⟩)) c.1.1 (by omega) (fun rr h1 q kp => ?_)
  rcases q with ⟨e, why, G, o12, hnew⟩ | ⟨s, b, hs, spos, e, ha, hg, hst, hcu, G, hnew⟩
  · obtain ⟨s0, s1, s2, s3, s5, s6, s7, s8⟩ := cls_gw sc ct c r mc mw ma G (fun a k y => Or.inl (w63 a k y))
    have c1 := c.same (G.ce0 ct) s3 (fun a k y => Or.inr (Or.inr (Or.inr (w63 a k y))))
    have z1 := Lz.one (f := 12) (by omega) ct G (fun a k y => Or.inl y) (kp12 (Or.inr rfl) kp) z (ok12 o12) hnew
    refine ⟨_, e, s0, s6.1.1, ?_⟩
    refine md_mend (d := 13) s6.1 s6.2.2.1 ab.2.1.1 s6.2.2.2.2.2 (fun _ => ⟨rfl, inv_plain s1 s2 c1 z1 s5 ab s6 s7 s8 (th_fr h1) wth_p⟩) (fun _ o' _ _ h2 hg f => ⟨rfl, inv_cc s1 s2 c1 z1 s5 ab s6 s7 s8 f hg⟩) (fun b s hs spos => ?_)
    rcases why with q | ⟨o, _, ho', h0⟩
    · exact absurd q b
    · have eo : o = some s := CuB.uni u14 ho' hs
      have := h0 s eo
      omega
  · obtain ⟨cs1, cs2⟩ := can_sub hs.2.1.1
    have gw63 : ∀ a k, (Wlz 12 20 h a k ∨ Wom a k) → 63 ≤ a ∨ Wom a k := fun a k y => y.imp (w63 a k) id
    have e17 : ∀ a k, 17 ≤ a → a < 63 → h_i h1 a k = h_i h a k ∧ h_l h1 a k = h_l h a k := fun a k a1 a2 => by
      have nw : ¬ (Wlz 12 20 h a k ∨ Wom a k) := fun y => by
        have := gw63 a k y
        unfold Wom at this
        omega
      exact ⟨G.i (by omega) nw, G.l (by omega) nw⟩
    have m1 := mc.cl e17 (G.md ct mc.1)
    have m2 := mw.cl e17
    have m3 := ma.cl ho e17
    have lg : (hlg x s gs).length = gs.length := by
      unfold hlg
      by_cases y : x = 2
      · rw [if_pos y]
      · rw [if_neg y, mkg_len]
    have cg : (hlg x s gs).map cor = gs.map cor := by
      unfold hlg
      by_cases y : x = 2
      · rw [if_pos y]
      · rw [if_neg y, cor_mkg]
    have hch : Chn (hlg x s gs) (hlm x s m) ((x, s, gs, m) :: A.take 11) := by
      unfold hlg hlm
      by_cases y : x = 2
      · rw [if_pos y, if_pos y]
        exact ⟨ho, hs.1, Or.inl ⟨y, rfl, rfl⟩, ab.2.2.1.take 11⟩
      · rw [if_neg y, if_neg y]
        refine Chn.mark ho hs.1 y (fun k l hk hin => ?_) ab.2.2.1
        have := (cs1 k hin).2.2
        rw [gD hk] at this
        omega
    have est : h_i h1 2 6 = nI (t + 1) := by rw [hst, c.2.2.2.2.2.2.2, nI_1]
    have ha' : CAc h1 2 (acL ((x, s, gs, m) :: A.take 11)) := by
      rw [acL_cons, ← acd_take hA]
      exact ha
    have c1 := c.grp (G.ce0 ct) (G.ow ct c.1) (fun a k y => (gw63 a k y).elim (fun q => Or.inr (Or.inr (Or.inr (Or.inr q)))) (fun q => Or.inl (by unfold Wom at q; unfold Wgc; omega))) hg lg ha' est
    have kpf := kp12 (Or.inr rfl) kp
    have out : ∀ g y, ¬ (5 ≤ g ∧ g ≤ 12) → ¬ RgA h1 ad la g y := fun g y hg w => by
      obtain ⟨c, _, w⟩ := w
      omega
    have z1 : Lz h1 (hlg x s gs) (hlm x s m) ad K M E la cap := by
      refine Lz.new (T := fun g => g = 12 ∨ ¬ (5 ≤ g ∧ g ≤ 12)) z ⟨G.2.1, fun y hy => ?_⟩ (fun g hg => kpf g (fun e => hg (Or.inl e)) (by omega) (by omega)) (by omega) c.2.2.2.2.2.2.2 est (fun g hg => ?_) (fun g y hg a => ?_) (fun g g' y hg hg' hne a b => ?_)
      · obtain ⟨g, hg, hy⟩ := hy
        have yr := z.rg hy
        have nw : ∀ k, ¬ (Wlz 12 20 h y k ∨ Wom y k) := fun k q => by
          rcases q with ⟨c0, e0, q1, q2⟩ | q
          · exact z.2 g 12 y (fun e => hg (Or.inl e)) hy ⟨c0, e0, Or.inr (Or.inr ⟨by omega, q1, q2⟩)⟩
          · unfold Wom at q
            omega
        refine ⟨G.2.2.2.2.1 y (by omega), fun k => ⟨?_, G.i (by omega) (nw k), G.l (by omega) (nw k)⟩⟩
        rcases G.2.2.2.2.2.1 y k (by omega) with q | q
        · exact q
        · omega
      · by_cases y : g = 12
        · rw [y]
          exact ok12 (CCu.new (R := fun _ => True) ⟨Nat.le_refl _, fun _ _ => ⟨rfl, fun _ => ⟨rfl, rfl, rfl⟩⟩⟩ (fun _ _ _ _ _ => True.intro) rfl (t := t) (by omega) est hcu)
        · have hg' : ¬ (5 ≤ g ∧ g ≤ 12) := hg.resolve_left y
          exact ⟨fun e => by omega, fun e => by omega, fun e => by omega, fun e => by omega, fun e => by omega, fun e => by omega, fun e => by omega, fun e => by omega⟩
      · by_cases y12 : g = 12
        · subst y12
          obtain ⟨c0, e0, q⟩ := a
          cases e1 : h_r h 0 12 with
          | none =>
            have := hnew e1 c0 e0
            refine Or.inr ?_
            have : c0 ≤ y := by
              rcases q with q | q | q
              · omega
              · omega
              · exact q.2.1
            omega
          | some c2 =>
            have e2 := G.rs (by omega) e1
            rw [e0] at e2
            cases e2
            exact Or.inl ⟨c0, e1, q⟩
        · exact absurd a (out g y (hg.resolve_left y12))
      · by_cases y12 : g = 12
        · exact out g' y (hg'.resolve_left (fun e => hne (y12.trans e.symm))) b
        · exact out g y (hg.resolve_left y12) a
    refine ⟨_, e, G.1, m1.1.1, ?_⟩
    refine md_mend (d := 13) m1.1 m1.2.2.1 ab.2.1.1 m1.2.2.2.2.2 (fun b' => absurd b' b) (fun _ o' ho' h0 => ?_) (fun _ s' hs' _ h2 hk2 hg2 f h25 h26 h70 => ?_)
    · have eo : o' = some s := CuB.uni u14 ho' hs
      have := h0 s eo
      omega
    · have es : some s = some s' := CuB.uni u14 hs hs'
      cases es
      have hk' : MKp h2 (snL ((x, s, gs, m) :: A.take 11)) := by
        rw [snL_cons, ← kpd_take hA]
        exact hk2
      have hcg := G.2.1
      refine ⟨rfl, inv_new (G.1.trans sc) (by omega) c1 z1 (r.gw G) ⟨ab.1, ?_, hch, ?_, ab.2.2.2.2.1, by omega, ab.2.2.2.2.2.2.to cg⟩ m1 m2 m3 f (fun a k y => by unfold Wmn Wkp at y; exact y.elim (fun q => by have := wcc_is a k q; omega) (fun q => by omega)) hg2 lg hk' h25 h26 h70⟩
      · exact unlD_hlg.mpr ab.2.1
      · rw [List.length_cons, List.length_take]
        omega
