/-! the calls, one by one: readers, the speller, cures asked for -/
theorem op_rds {L n ic im : Nat} {xs : Nat → Int32} {as : List Value} {v : List (List Nat) → Nat → List Nat → Int32} (hic : ∀ g, g ≠ 8 → 5 ≤ g → g ≤ 12 → (badL g).contains ic = false) (hO : ∀ {h : PH} {Q : PQ} {gs : List (List Nat)} {m : Nat} {w : List Nat}, OwS h → 63 ≤ h_ct h → (∀ c, h_r h 0 8 = some c → ReS h c) → CWd h w → CGr h 2 gs m → (∀ h', Gw (fun _ _ => False) h h' → (∀ c, h_r h' 0 8 = some c → ReS h' c) → (h_r h 0 8 = none → ∀ c, h_r h' 0 8 = some c → h_ct h ≤ c) → Q (some (.int (v gs m w))) h') → wpm 20 ic (.ref 0 :: as) h Q) (hM : ∀ {h : PH} {Q : PQ} {gs : List (List Nat)} {m : Nat} {w : List Nat}, MdS h → MWd h w → MGr h gs m → (∀ h', Fr Wth h h' → Q (some (.int (v gs m w))) h') → wpm 20 im (.ref 17 :: as) h Q) : OpI (Inv L xs) 20 ic im as n := by
  intro h hI
  obtain ⟨sc, ct, tp, gs, m, so, f1, f2, S, w, A, t, ad, K, M, E, la, cap, c, mc, mw, ma, z, r, ab⟩ := hI
  refine wpm_k (R := fun r h1 => r = some (.int (v gs m w)) ∧ Gw (fun _ _ => False) h h1 ∧ (∀ c, h_r h1 0 8 = some c → ReS h1 c) ∧ (h_r h 0 8 = none → ∀ c, h_r h1 0 8 = some c → h_ct h ≤ c)) (hO c.1 ct z.o8 c.2.2.2.2.2.1 c.2.2.1 (fun h1 a b d => ⟨rfl, a, b, d⟩)) c.1.1 (by omega) (fun rr h1 q kp => ?_)
  obtain ⟨e, G, o, hnew⟩ := q
  obtain ⟨s0, s1, s2, s3, s5, s6, s7, s8⟩ := cls_gw sc ct c r mc mw ma G (fun x k y => y.elim)
  have c1 := c.same (G.ce0 ct) s3 (fun x k y => y.elim)
  have z1 := Lz.one (f := 8) (by omega) ct G (fun x k y => y.elim) (fun g a b d => kp g b d (hic g a b d)) z (ok8 o) hnew
  refine ⟨_, e, s0, s6.1.1, ?_⟩
  exact hM s6.1 s7 s6.2.2.1 (fun h2 f => ⟨rfl, inv_plain s1 s2 c1 z1 s5 ab s6 s7 s8 f wth_p⟩)
theorem op_reads {L n : Nat} {xs : Nat → Int32} (x : Int32) : OpI (Inv L xs) 20 137 235 [.int x] n :=
  op_rds (v := fun gs m w => rdsR gs m w x) (fun g a b d => by rcases (show g = 5 ∨ g = 6 ∨ g = 7 ∨ g = 9 ∨ g = 10 ∨ g = 11 ∨ g = 12 by omega) with e | e | e | e | e | e | e <;> subst e <;> decide) (fun a b d e f k => ow_reads8 (d := 14) a b d e f k) (fun a b d k => md_reads (d := 16) a b d k)
theorem op_took {L n : Nat} {xs : Nat → Int32} (x y : Int32) : OpI (Inv L xs) 20 138 236 [.int x, .int y] n :=
  op_rds (v := fun gs m w => tkR gs m w x y) (fun g a b d => by rcases (show g = 5 ∨ g = 6 ∨ g = 7 ∨ g = 9 ∨ g = 10 ∨ g = 11 ∨ g = 12 by omega) with e | e | e | e | e | e | e <;> subst e <;> decide) (fun a b d e f k => ow_took8 (d := 14) a b d e f k) (fun a b d k => md_took (d := 16) a b d k)
theorem op_fool {L n : Nat} {xs : Nat → Int32} (x : Int32) : OpI (Inv L xs) 20 139 241 [.int x] n := by
  intro h hI
  obtain ⟨sc, ct, tp, gs, m, so, f1, f2, S, w, A, t, ad, K, M, E, la, cap, c, mc, mw, ma, z, r, ab⟩ := hI
  have ho := c.2.2.1.1
  by_cases hx : x < 0 ∨ (2 : Int32) < x
  · refine ow_fool8 (d := 14) c.1 ct z.o8 c.2.2.2.2.2.1 c.2.2.1 (fun _ => ⟨_, rfl, rfl, mc.1.1, ?_⟩) (fun kd o h' hk e => ?_)
    · refine md_fool (d := 14) mc.1 mc.2.2.1 ab.2.1.unlk ma.1 mw (fun _ => ⟨rfl, inv_plain sc ct c z r ab mc mw ma (th_fr h) wth_p⟩) (fun kd o h' hk e => ?_)
      rw [e, show (0 : Int32) = nI 0 from rfl, show (2 : Int32) = nI 2 from rfl, nI_ltI (by omega) (by omega), nI_ltI (by omega) (by omega)] at hx
      omega
    · rw [e, show (0 : Int32) = nI 0 from rfl, show (2 : Int32) = nI 2 from rfl, nI_ltI (by omega) (by omega), nI_ltI (by omega) (by omega)] at hx
      omega
  · refine wpm_k (R := fun r h1 => ∃ kd o, r = some (.int (foI o)) ∧ kd < 3 ∧ x = nI kd ∧ lst (FW gs m kd) o ∧ CWd h1 (o.getD w) ∧ (∀ c, h_r h1 0 8 = some c → ReS h1 c) ∧ Gw (fun a k => Wlz 8 3 h a k ∨ Wcd a k) h h1 ∧ (h_r h 0 8 = none → ∀ c, h_r h1 0 8 = some c → h_ct h ≤ c)) (ow_fool8 (d := 14) c.1 ct z.o8 c.2.2.2.2.2.1 c.2.2.1 (fun q => absurd q hx) (fun kd o h1 a b d e f g i => ⟨kd, o, rfl, a, b, d, e, f, g, i⟩)) c.1.1 (by omega) (fun rr h1 q kp => ?_)
    obtain ⟨kd, o, e, hk, ex, hl, hwd, hR, G, hnew⟩ := q
    have w63 : ∀ a k, Wlz 8 3 h a k → 63 ≤ a := fun a k y => wlz_63 z (f := 8) (by omega) y
    obtain ⟨s0, s1, s2, s3, s5, s6, s7, s8⟩ := cls_gw sc ct c r mc mw ma G (fun a k y => y.imp (w63 a k) id)
    have c1 := c.wd (G.ce0 ct) s3 (fun a k y => y.elim (fun q => Or.inr (Or.inr (Or.inr (Or.inr (w63 a k q))))) Or.inl) hwd
    have z1 := Lz.one (f := 8) (by omega) ct G (fun a k y => y.elim Or.inl (fun q => Or.inr (by unfold Wcd at q; omega))) (fun g a b d => kp g b d (by rcases (show g = 5 ∨ g = 6 ∨ g = 7 ∨ g = 9 ∨ g = 10 ∨ g = 11 ∨ g = 12 by omega) with e | e | e | e | e | e | e <;> subst e <;> decide)) z (ok8 hR) hnew
    refine ⟨_, e, s0, s6.1.1, ?_⟩
    refine md_fool (d := 14) s6.1 s6.2.2.1 ab.2.1.unlk s8.1 s7 (fun q => absurd q hx) (fun kd' o' h2 hk' ex' hl' hwd2 hT f => ?_)
    have ek : kd = kd' := nI_i (by omega) (by omega) (ex.symm.trans ex')
    subst ek
    have eo : o = o' := lst_uni (fun v hv => (FW_ok ho hv).1) hl hl'
    subst eo
    have bd : Bd gs (o.getD w) := by
      cases o with
      | none => exact ab.2.2.2.2.2.2
      | some v =>
        have := (FW_ok ho hl.1).2.2
        exact Bd.short ab.2.1 (by show v.length ≤ 62; omega)
    have wm : ∀ a k, Wfl a k → (a = 17 ∧ (k = 0 ∨ k = 25 ∨ k = 32 ∨ k = 33 ∨ k = 34 ∨ k = 38 ∨ k = 47 ∨ k = 24)) ∨ (27 ≤ a ∧ a ≤ 31) ∨ a = 34 ∨ a = 38 ∨ a = 39 ∨ a = 40 ∨ a = 26 := fun a k y => by unfold Wfl Wpt Wlt Wlc Wtr Wfb Wtr Wmd at y; omega
    exact ⟨rfl, inv_fin s1 s2 c1 z1 s5 ⟨ab.1, ab.2.1, ab.2.2.1, ab.2.2.2.1, ab.2.2.2.2.1, ab.up.2.2.2.2.2.1, bd⟩ f (fun a k y => by have := wm a k y; omega) (s6.fr f (fun a k y q => by have := wm a k y; unfold Wcor at q; omega)) hwd2 ⟨fun _ => hT, MCa.nd f (fun a k y q => by have := wm a k y; omega) s8.2.1, MCa.bz f (fun a k y q => by have := wm a k y; omega) s8.2.2.1, MCa.ly f (fun a k y q => by have := wm a k y; omega) s8.2.2.2⟩⟩
theorem op_spell {L n : Nat} {xs : Nat → Int32} (x0 x1 x2 x3 : Int32) : OpI (Inv L xs) 20 141 245 [.int x0, .int x1, .int x2, .int x3] n := by
  intro h hI
  obtain ⟨sc, ct, tp, gs, m, so, f1, f2, S, w, A, t, ad, K, M, E, la, cap, c, mc, mw, ma, z, r, ab⟩ := hI
  have hS31 : S < 2 ^ 31 := ab.2.2.2.2.1
  have w63 : ∀ a k, Wlz 9 5 h a k → 63 ≤ a := fun a k y => wlz_63 z (f := 9) (by omega) y
  have wm : ∀ a k, Wsl a k → (a = 17 ∧ (k = 0 ∨ k = 38 ∨ k = 47)) ∨ a = 34 ∨ a = 36 ∨ a = 40 ∨ a = 42 ∨ a = 43 := fun a k y => by unfold Wsl at y; omega
  have kpf : ∀ {h1 : PH}, Kps 141 h h1 → ∀ g, g ≠ 9 → 5 ≤ g → g ≤ 12 → h_r h1 0 g = h_r h 0 g := fun kp g a b d => kp g b d (by rcases (show g = 5 ∨ g = 6 ∨ g = 7 ∨ g = 8 ∨ g = 10 ∨ g = 11 ∨ g = 12 by omega) with e | e | e | e | e | e | e <;> subst e <;> decide)
  cases hv : spV gs m so (nI S) [x0, x1, x2, x3] with
  | none =>
    refine wpm_k (R := fun r h1 => r = some (.int (-1)) ∧ Gw (fun x k => Wlz 9 5 h x k ∨ Wcd x k) h h1 ∧ (∀ x k, Wcd x k → h_i h1 x k = h_i h x k) ∧ (∀ c, h_r h1 0 9 = some c → SpS h1 c) ∧ (h_r h 0 9 = none → ∀ c, h_r h1 0 9 = some c → h_ct h ≤ c)) (ow_spell9 (d := 9) c.1 ct z.o9 c.2.2.1 c.2.2.2.1 c.2.2.2.2.1.2.2 (fun _ h1 a b d e => ⟨rfl, a, b, d, e⟩) (fun v e => by rw [hv] at e; cases e)) c.1.1 (by omega) (fun rr h1 q kp => ?_)
    obtain ⟨e, G, hi, hR, hnew⟩ := q
    obtain ⟨s0, s1, s2, s3, s5, s6, s7, s8⟩ := cls_gw sc ct c r mc mw ma G (fun a k y => y.imp (w63 a k) id)
    have cw := c.2.2.2.2.2.1
    have hwd : CWd h1 w := ⟨cw.1, (hi 13 1 (Or.inl ⟨rfl, rfl⟩)).trans cw.2.1, fun k x hk => (hi 14 k (Or.inr rfl)).trans (cw.2.2 k x hk)⟩
    have c1 := c.wd (G.ce0 ct) s3 (fun a k y => y.elim (fun q => Or.inr (Or.inr (Or.inr (Or.inr (w63 a k q))))) Or.inl) hwd
    have z1 := Lz.one (f := 9) (by omega) ct G (fun a k y => y.elim Or.inl (fun q => Or.inr (by unfold Wcd at q; omega))) (kpf kp) z (ok9 hR) hnew
    refine ⟨_, e, s0, s6.1.1, ?_⟩
    exact md_spell (d := 15) ab.2.1.unlk s6.1 s6.2.2.1 s6.2.2.2.1 s6.2.2.2.2.1.2.2 hS31 (fun _ h2 f => ⟨rfl, inv_plain s1 s2 c1 z1 s5 ab s6 s7 s8 f (fun a k y => by have := wm a k y; unfold Wcor Wcac Wlt; omega)⟩) (fun v e => by rw [hv] at e; cases e)
  | some v =>
    refine wpm_k (R := fun r h1 => r = some (.int (nI (catG gs v).length)) ∧ (catG gs v).length ≤ 28 ∧ CWd h1 (catG gs v) ∧ Gw (fun x k => Wlz 9 5 h x k ∨ Wcd x k) h h1 ∧ (∀ c, h_r h1 0 9 = some c → SpS h1 c) ∧ (h_r h 0 9 = none → ∀ c, h_r h1 0 9 = some c → h_ct h ≤ c)) (ow_spell9 (d := 9) c.1 ct z.o9 c.2.2.1 c.2.2.2.1 c.2.2.2.2.1.2.2 (fun e => by rw [hv] at e; cases e) (fun v' ev h28 h1 a b d e => ?_)) c.1.1 (by omega) (fun rr h1 q kp => ?_)
    · rw [hv] at ev
      cases ev
      exact ⟨rfl, h28, a, b, d, e⟩
    obtain ⟨e, h28, hwd, G, hR, hnew⟩ := q
    obtain ⟨s0, s1, s2, s3, s5, s6, s7, s8⟩ := cls_gw sc ct c r mc mw ma G (fun a k y => y.imp (w63 a k) id)
    have c1 := c.wd (G.ce0 ct) s3 (fun a k y => y.elim (fun q => Or.inr (Or.inr (Or.inr (Or.inr (w63 a k q))))) Or.inl) hwd
    have z1 := Lz.one (f := 9) (by omega) ct G (fun a k y => y.elim Or.inl (fun q => Or.inr (by unfold Wcd at q; omega))) (kpf kp) z (ok9 hR) hnew
    refine ⟨_, e, s0, s6.1.1, ?_⟩
    refine md_spell (d := 15) ab.2.1.unlk s6.1 s6.2.2.1 s6.2.2.2.1 s6.2.2.2.2.1.2.2 hS31 (fun e => by rw [hv] at e; cases e) (fun v' ev _ h2 hwd2 f => ?_)
    rw [hv] at ev
    cases ev
    have wm2 : ∀ a k, (Wsl a k ∨ Wmd a k) → (a = 17 ∧ (k = 0 ∨ k = 38 ∨ k = 47 ∨ k = 24)) ∨ a = 34 ∨ a = 36 ∨ a = 40 ∨ a = 42 ∨ a = 43 ∨ a = 26 := fun a k y => by unfold Wsl Wmd at y; omega
    exact ⟨rfl, inv_fin s1 s2 c1 z1 s5 ⟨ab.1, ab.2.1, ab.2.2.1, ab.2.2.2.1, ab.2.2.2.2.1, ab.up.2.2.2.2.2.1, Bd.short ab.2.1 (by omega)⟩ f (fun a k y => by have := wm2 a k y; omega) (s6.fr f (fun a k y q => by have := wm2 a k y; unfold Wcor at q; omega)) hwd2 (s8.fr c.2.2.1.1 f (fun a k y q => by have := wm2 a k y; unfold Wcac Wlt at q; omega))⟩
