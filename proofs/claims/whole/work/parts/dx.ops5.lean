/-! the calls, one by one: those that may make two objects -/
theorem Lz.two {f : Nat} {h h' : PH} {gs : List (List Nat)} {m K M E la cap K' M' E' la' cap' : Nat} {ad ad' : Nat → Nat} (hf : f = 7 ∨ f = 10 ∨ f = 11) (hct : h_ct h ≤ h_ct h') (keep : ∀ x, 63 ≤ x → x < h_ct h → ¬ RgA h ad la f x → ¬ RgA h ad la 5 x → h_sh h' x = h_sh h x ∧ ∀ k, h_r h' x k = h_r h x k ∧ h_i h' x k = h_i h x k ∧ h_l h' x k = h_l h x k) (kp : ∀ g, g ≠ f → g ≠ 5 → 5 ≤ g → g ≤ 12 → h_r h' 0 g = h_r h 0 g) (h2 : h_i h' 2 6 = h_i h 2 6) (z : Lz h gs m ad K M E la cap) (hok5 : CTrz h' gs m) (hok : OkF h' gs m ad' K' M' E' la' cap' f) (h10 : f = 10 ∨ (ad' = ad ∧ K' = K ∧ M' = M ∧ E' = E)) (h11 : f = 11 ∨ (la' = la ∧ cap' = cap)) (hn : ∀ x, RgA h' ad' la' f x → RgA h ad la f x ∨ h_ct h ≤ x) (hn5 : ∀ x, RgA h' ad' la' 5 x → RgA h ad la 5 x ∨ h_ct h ≤ x) (hd : ∀ x, RgA h' ad' la' f x → ¬ RgA h' ad' la' 5 x) : Lz h' gs m ad' K' M' E' la' cap' := by
  have out : ∀ g x, ¬ (5 ≤ g ∧ g ≤ 12) → ¬ RgA h' ad' la' g x := fun g x hg w => by
    obtain ⟨c, _, w⟩ := w
    omega
  refine Lz.step (T := fun g => g = f ∨ g = 5 ∨ ¬ (5 ≤ g ∧ g ≤ 12)) z ⟨hct, fun x hx => ?_⟩ (fun g hg => kp g (fun e => hg (Or.inl e)) (fun e => hg (Or.inr (Or.inl e))) (by omega) (by omega)) h2 ?_ ?_ (fun g hg => ?_) (fun g x hg a => ?_) (fun g g' x hg hg' hne a b => ?_)
  · obtain ⟨g, hg, hx⟩ := hx
    have xr := z.rg hx
    exact keep x xr.1 xr.2 (z.2 g f x (fun e => hg (Or.inl e)) hx) (z.2 g 5 x (fun e => hg (Or.inr (Or.inl e))) hx)
  · rcases h10 with e | e
    · exact Or.inl (Or.inl e.symm)
    · exact Or.inr e
  · rcases h11 with e | e
    · exact Or.inl (Or.inl e.symm)
    · exact Or.inr e
  · by_cases y : g = f
    · rw [y]
      exact hok
    · by_cases y5 : g = 5
      · subst y5
        exact ⟨fun _ => hok5, fun e => by omega, fun e => by omega, fun e => by omega, fun e => by omega, fun e => by omega, fun e => by omega, fun e => by omega⟩
      · have hg' : ¬ (5 ≤ g ∧ g ≤ 12) := (hg.resolve_left y).resolve_left y5
        exact ⟨fun e => by omega, fun e => by omega, fun e => by omega, fun e => by omega, fun e => by omega, fun e => by omega, fun e => by omega, fun e => by omega⟩
  · by_cases y : g = f
    · subst y
      exact hn x a
    · by_cases y5 : g = 5
      · subst y5
        exact hn5 x a
      · exact absurd a (out g x ((hg.resolve_left y).resolve_left y5))
  · by_cases y : g = f
    · by_cases y5 : g' = 5
      · rw [y] at a
        rw [y5] at b
        exact hd x a b
      · exact out g' x ((hg'.resolve_left (fun e => hne (y.trans e.symm))).resolve_left y5) b
    · by_cases y5 : g = 5
      · by_cases y' : g' = f
        · rw [y5] at a
          rw [y'] at b
          exact hd x b a
        · exact out g' x ((hg'.resolve_left y').resolve_left (fun e => hne (y5.trans e.symm))) b
      · exact out g x ((hg.resolve_left y).resolve_left y5) a
theorem op_witness (hB : HBnd) {L n : Nat} {xs : Nat → Int32} (hn : n < 512) : OpI (Inv L xs) 20 129 222 [] n := by
  intro h hI
  obtain ⟨sc, ct, tp, gs, m, so, f1, f2, S, w, A, t, ad, K, M, E, la, cap, c, mc, mw, ma, z, r, ab⟩ := hI
  have ho := c.2.2.1.1
  have ht : t ≤ n := ab.2.2.2.2.2.1
  have w5 : ∀ a k, Wlz 5 9 h a k → RgA h ad la 5 a := fun a k y => by
    obtain ⟨q, e, a1, a2⟩ := y
    exact ⟨q, e, Or.inr (Or.inr ⟨by omega, a1, a2⟩)⟩
  have w7 : ∀ a k, Wlz 7 6 h a k → RgA h ad la 7 a := fun a k y => by
    obtain ⟨q, e, a1, a2⟩ := y
    exact ⟨q, e, Or.inr (Or.inr ⟨by omega, a1, a2⟩)⟩
  refine wpm_k (R := fun r h1 => ∃ o b d, r = some (.int (foI o)) ∧ lst (Twn gs m) o ∧ CWd h1 (o.getD w) ∧ h_r h1 0 7 = some b ∧ TwS h1 b ∧ h_r h1 0 5 = some d ∧ CTrz h1 gs m ∧ (d + 9 < b ∨ b + 6 < d) ∧ (h_r h 0 7 = none → h_ct h ≤ b) ∧ (h_r h 0 5 = none → h_ct h ≤ d) ∧ Gw (fun x k => Wlz 7 6 h x k ∨ (Wlz 5 9 h x k ∨ Wcd x k)) h h1) (ow_witness (d := 15) c.1 ct z.o7 z.o5 (fun b d eb ed => ?_) c.2.2.2.2.2.1 c.2.2.1 (by omega) c.2.2.2.2.2.2.2 (fun o h1 b d a1 a2 a3 a4 a5 _ a7 a8 a9 a10 a11 => ⟨o, b, d, rfl, a1, a2, a3, a4, a5, a7, a8, a9, a10, a11⟩)) c.1.1 (by omega) (fun rr h1 q kp => ?_)
  · refine Classical.byContradiction (fun q => ?_)
    by_cases y : d ≤ b
    · exact z.2 5 7 b (by omega) ⟨d, ed, Or.inr (Or.inr ⟨by omega, y, by show b ≤ d + 9; omega⟩)⟩ ⟨b, eb, Or.inr (Or.inr ⟨by omega, Nat.le_refl _, by omega⟩)⟩
    · exact z.2 7 5 d (by omega) ⟨b, eb, Or.inr (Or.inr ⟨by omega, by omega, by show d ≤ b + 6; omega⟩)⟩ ⟨d, ed, Or.inr (Or.inr ⟨by omega, Nat.le_refl _, by omega⟩)⟩
  obtain ⟨o, b, d, e, hl, hwd, r7, hT7, r5, o5, hd, n7, n5, G⟩ := q
  have w63 : ∀ a k, Wlz 7 6 h a k ∨ (Wlz 5 9 h a k ∨ Wcd a k) → 63 ≤ a ∨ Wcd a k := fun a k y => by
    rcases y with y | y | y
    · exact Or.inl (z.rg (w7 a k y)).1
    · exact Or.inl (z.rg (w5 a k y)).1
    · exact Or.inr y
  obtain ⟨s0, s1, s2, s3, s5, s6, s7, s8⟩ := cls_gw sc ct c r mc mw ma G w63
  have c1 := c.wd (G.ce0 ct) s3 (fun a k y => (w63 a k y).elim (fun q => Or.inr (Or.inr (Or.inr (Or.inr q)))) Or.inl) hwd
  have z1 : Lz h1 gs m ad K M E la cap := by
    refine Lz.two (f := 7) (Or.inl rfl) G.2.1 (fun x a1 a2 a3 a4 => ⟨G.2.2.2.2.1 x a2, fun k => ?_⟩) (fun g g7 g5 a b => kp g a b (by rcases (show g = 6 ∨ g = 8 ∨ g = 9 ∨ g = 10 ∨ g = 11 ∨ g = 12 by omega) with e | e | e | e | e | e <;> subst e <;> decide)) (G.i (by omega) (fun y => ?_)) z o5 ⟨fun e => by omega, fun e => by omega, fun _ c' e => by rw [r7] at e; cases e; exact hT7, fun e => by omega, fun e => by omega, fun e => by omega, fun e => by omega, fun e => by omega⟩ (Or.inr ⟨rfl, rfl, rfl, rfl⟩) (Or.inr ⟨rfl, rfl⟩) (fun x a => ?_) (fun x a => ?_) (fun x a a' => ?_)
    · have nw : ¬ (Wlz 7 6 h x k ∨ (Wlz 5 9 h x k ∨ Wcd x k)) := fun y => by
        rcases y with y | y | y
        · exact a3 (w7 x k y)
        · exact a4 (w5 x k y)
        · unfold Wcd at y
          omega
      refine ⟨?_, G.i a2 nw, G.l a2 nw⟩
      rcases G.2.2.2.2.2.1 x k a2 with q | q
      · exact q
      · omega
    · have := w63 _ _ y
      unfold Wcd at this
      omega
    · obtain ⟨q, eq, y⟩ := a
      rw [r7] at eq
      cases eq
      have y' : b ≤ x ∧ x ≤ b + 6 := by
        rcases y with y | y | y
        · omega
        · omega
        · exact y.2
      cases e0 : h_r h 0 7 with
      | none =>
        have := n7 e0
        exact Or.inr (by omega)
      | some b0 =>
        have e1 := G.rs (by omega) e0
        rw [r7] at e1
        cases e1
        exact Or.inl ⟨b, e0, Or.inr (Or.inr ⟨by omega, y'.1, y'.2⟩)⟩
    · obtain ⟨q, eq, y⟩ := a
      rw [r5] at eq
      cases eq
      have y' : d ≤ x ∧ x ≤ d + 9 := by
        rcases y with y | y | y
        · omega
        · omega
        · exact y.2
      cases e0 : h_r h 0 5 with
      | none =>
        have := n5 e0
        exact Or.inr (by omega)
      | some d0 =>
        have e1 := G.rs (by omega) e0
        rw [r5] at e1
        cases e1
        exact Or.inl ⟨d, e0, Or.inr (Or.inr ⟨by omega, y'.1, y'.2⟩)⟩
    · obtain ⟨q, eq, y⟩ := a
      obtain ⟨q', eq', y'⟩ := a'
      rw [r7] at eq
      rw [r5] at eq'
      cases eq
      cases eq'
      have v : b ≤ x ∧ x ≤ b + 6 := by
        rcases y with y | y | y
        · omega
        · omega
        · exact y.2
      have v' : d ≤ x ∧ x ≤ d + 9 := by
        rcases y' with y | y | y
        · omega
        · omega
        · exact y.2
      omega
  refine ⟨_, e, s0, s6.1.1, ?_⟩
  refine md_witness (d := 14) s6.1 s6.2.2.1 ab.2.1.unlk s8.1 s7 (fun o' h2 hl' hwd2 hT f => ?_)
  have eo : o = o' := lst_uni (fun v hv => Twn_lets ho hv) hl hl'
  subst eo
  have bd : Bd gs (o.getD w) := by
    cases o with
    | none => exact ab.2.2.2.2.2.2
    | some v => exact hB gs m v ho ab.2.1 hl
  have wm : ∀ a k, Wwt a k → (a = 17 ∧ (k = 0 ∨ k = 25 ∨ k = 32 ∨ k = 33 ∨ k = 34 ∨ k = 38 ∨ k = 24)) ∨ (27 ≤ a ∧ a ≤ 31) ∨ a = 34 ∨ a = 32 ∨ a = 33 ∨ a = 26 := fun a k y => by unfold Wwt Wpt Wlt Wbt Wtr Wmd at y; omega
  exact ⟨rfl, inv_fin s1 s2 c1 z1 s5 ⟨ab.1, ab.2.1, ab.2.2.1, ab.2.2.2.1, ab.2.2.2.2.1, ab.up.2.2.2.2.2.1, bd⟩ f (fun a k y => by have := wm a k y; omega) (s6.fr f (fun a k y q => by have := wm a k y; unfold Wcor at q; omega)) hwd2 ⟨fun _ => hT, MCa.nd f (fun a k y q => by have := wm a k y; omega) s8.2.1, MCa.bz f (fun a k y q => by have := wm a k y; omega) s8.2.2.1, MCa.ly f (fun a k y q => by have := wm a k y; omega) s8.2.2.2⟩⟩
