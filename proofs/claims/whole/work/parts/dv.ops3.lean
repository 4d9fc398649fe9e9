/-! the calls, one by one: those that may make one object -/
theorem Lz.one {f : Nat} {W : Nat → Nat → Prop} {h h' : PH} {gs : List (List Nat)} {m K M E la cap : Nat} {ad : Nat → Nat} (hf : f = 6 ∨ f = 8 ∨ f = 9 ∨ f = 12) (hc : 63 ≤ h_ct h) (G : Gw W h h') (hW : ∀ x k, W x k → Wlz f (rgn f) h x k ∨ (x < 63 ∧ ¬ (x = 2 ∧ k = 6))) (kp : ∀ g, g ≠ f → 5 ≤ g → g ≤ 12 → h_r h' 0 g = h_r h 0 g) (z : Lz h gs m ad K M E la cap) (hok : OkF h' gs m ad K M E la cap f) (hnew : h_r h 0 f = none → ∀ c, h_r h' 0 f = some c → h_ct h ≤ c) : Lz h' gs m ad K M E la cap := by
  have out : ∀ g x, ¬ (5 ≤ g ∧ g ≤ 12) → ¬ RgA h' ad la g x := fun g x hg w => by
    obtain ⟨c, _, w⟩ := w
    omega
  have lzr : ∀ x k, Wlz f (rgn f) h x k → RgA h ad la f x := fun x k w => by
    obtain ⟨c, e, a, b⟩ := w
    exact ⟨c, e, Or.inr (Or.inr ⟨by omega, a, b⟩)⟩
  refine Lz.step (T := fun g => g = f ∨ ¬ (5 ≤ g ∧ g ≤ 12)) z ⟨G.2.1, fun x hx => ?_⟩ (fun g hg => kp g (fun e => hg (Or.inl e)) (by omega) (by omega)) (G.i (by omega) (fun w => ?_)) (Or.inr ⟨rfl, rfl, rfl, rfl⟩) (Or.inr ⟨rfl, rfl⟩) (fun g hg => ?_) (fun g x hg a => ?_) (fun g g' x hg hg' hne a b => ?_)
  · obtain ⟨g, hg, hx⟩ := hx
    have xr := z.rg hx
    have nw : ∀ k, ¬ W x k := fun k w => by
      rcases hW x k w with w | w
      · exact z.2 g f x (fun e => hg (Or.inl e)) hx (lzr x k w)
      · omega
    refine ⟨G.2.2.2.2.1 x (by omega), fun k => ⟨?_, G.i (by omega) (nw k), G.l (by omega) (nw k)⟩⟩
    rcases G.2.2.2.2.2.1 x k (by omega) with w | w
    · exact w
    · omega
  · rcases hW _ _ w with w | w
    · have := z.rg (lzr _ _ w)
      omega
    · exact w.2 ⟨rfl, rfl⟩
  · by_cases y : g = f
    · rw [y]
      exact hok
    · have hg' : ¬ (5 ≤ g ∧ g ≤ 12) := hg.resolve_left y
      exact ⟨fun e => by omega, fun e => by omega, fun e => by omega, fun e => by omega, fun e => by omega, fun e => by omega, fun e => by omega, fun e => by omega⟩
  · by_cases y : g = f
    · subst y
      obtain ⟨c, e, w⟩ := a
      cases e0 : h_r h 0 g with
      | none =>
        have := hnew e0 c e
        refine Or.inr ?_
        have : c ≤ x := by
          rcases w with w | w | w
          · omega
          · omega
          · exact w.2.1
        omega
      | some c0 =>
        have e1 := G.rs (by omega) e0
        rw [e] at e1
        cases e1
        exact Or.inl ⟨c, e0, w⟩
    · exact absurd a (out g x (hg.resolve_left y))
  · by_cases y : g = f
    · exact out g' x (hg'.resolve_left (fun e => hne (y.trans e.symm))) b
    · exact out g x (hg.resolve_left y) a
/-- behind a call of the class that may make an object -/
theorem cls_gw {W : Nat → Nat → Prop} {h h1 : PH} {Ls : Nat} {xs : Nat → Int32} {tp : List Int32} {gs : List (List Nat)} {m : Nat} {so : Nat → Int32} {f1 f2 : Int32} {S : Nat} {w : List Nat} {A : List Act} {t : Nat} {K M E cap : Nat} (sc : h_sc h = (Ls, xs)) (ct : 63 ≤ h_ct h) (c : CIn h tp gs m so f1 f2 S w A t) (r : Rm h K M E cap) (mc : MCo h tp gs m so f1 f2 S A) (mw : MWd h w) (ma : MCa h gs m) (G : Gw W h h1) (hw : ∀ x k, W x k → 63 ≤ x ∨ Wcd x k) : h_sc h1 = h_sc h ∧ h_sc h1 = (Ls, xs) ∧ 63 ≤ h_ct h1 ∧ OwS h1 ∧ Rm h1 K M E cap ∧ MCo h1 tp gs m so f1 f2 S A ∧ MWd h1 w ∧ MCa h1 gs m := by
  have e : ∀ x k, 17 ≤ x → x < 63 → h_i h1 x k = h_i h x k ∧ h_l h1 x k = h_l h x k := fun x k a b => by
    have nw : ¬ W x k := fun y => by
      have := hw x k y
      unfold Wcd at this
      omega
    exact ⟨G.i (by omega) nw, G.l (by omega) nw⟩
  have hct := G.2.1
  exact ⟨G.1, G.1.trans sc, by omega, G.ow ct c.1, r.gw G, mc.cl e (G.md ct mc.1), mw.cl e, ma.cl c.2.2.1.1 e⟩
theorem wlz_63 {h : PH} {gs : List (List Nat)} {m K M E la cap f x k : Nat} {ad : Nat → Nat} (z : Lz h gs m ad K M E la cap) (hf : f = 5 ∨ f = 6 ∨ f = 7 ∨ f = 8 ∨ f = 9 ∨ f = 12) (w : Wlz f (rgn f) h x k) : 63 ≤ x := by
  obtain ⟨c, e, a, b⟩ := w
  exact (z.rg (f := f) ⟨c, e, Or.inr (Or.inr ⟨hf, a, b⟩)⟩).1
theorem ok6 {h : PH} {gs : List (List Nat)} {m K M E la cap : Nat} {ad : Nat → Nat} (o : CTz h gs m) : OkF h gs m ad K M E la cap 6 := ⟨fun e => by omega, fun _ => o, fun e => by omega, fun e => by omega, fun e => by omega, fun e => by omega, fun e => by omega, fun e => by omega⟩
theorem ok8 {h : PH} {gs : List (List Nat)} {m K M E la cap : Nat} {ad : Nat → Nat} (o : ∀ c, h_r h 0 8 = some c → ReS h c) : OkF h gs m ad K M E la cap 8 := ⟨fun e => by omega, fun e => by omega, fun e => by omega, fun _ => o, fun e => by omega, fun e => by omega, fun e => by omega, fun e => by omega⟩
theorem ok9 {h : PH} {gs : List (List Nat)} {m K M E la cap : Nat} {ad : Nat → Nat} (o : ∀ c, h_r h 0 9 = some c → SpS h c) : OkF h gs m ad K M E la cap 9 := ⟨fun e => by omega, fun e => by omega, fun e => by omega, fun e => by omega, fun _ => o, fun e => by omega, fun e => by omega, fun e => by omega⟩
theorem ok12 {h : PH} {gs : List (List Nat)} {m K M E la cap : Nat} {ad : Nat → Nat} (o : CCu h gs m) : OkF h gs m ad K M E la cap 12 := ⟨fun e => by omega, fun e => by omega, fun e => by omega, fun e => by omega, fun e => by omega, fun e => by omega, fun e => by omega, fun _ => o⟩
/-- the reference keeps its rounds anew -/
theorem inv_tails {W : Nat → Nat → Prop} {h1 h2 : PH} {Ls n : Nat} {xs : Nat → Int32} {tp : List Int32} {gs : List (List Nat)} {m : Nat} {so : Nat → Int32} {f1 f2 : Int32} {S : Nat} {w : List Nat} {A : List Act} {t : Nat} {ad : Nat → Nat} {K M E la cap : Nat} (sc : h_sc h1 = (Ls, xs)) (ct : 63 ≤ h_ct h1) (c : CIn h1 tp gs m so f1 f2 S w A t) (z : Lz h1 gs m ad K M E la cap) (r : Rm h1 K M E cap) (ab : Abs tp gs m S w A t n) (mc : MCo h1 tp gs m so f1 f2 S A) (mw : MWd h1 w) (ma : MCa h1 gs m) (hT : MTl h2 gs m) (f : Fr W h1 h2) (hw : ∀ x k, W x k → Wpt x k ∨ x = 35) : Inv Ls xs (n + 1) h2 := by
  have wm : ∀ x k, W x k → (x = 17 ∧ (k = 0 ∨ k = 25 ∨ k = 32 ∨ k = 33 ∨ k = 34)) ∨ (27 ≤ x ∧ x ≤ 31) ∨ x = 35 := fun x k y => by
    have := hw x k y
    unfold Wpt Wlt at this
    omega
  refine inv_fin sc ct c z r ab.up f (fun x k y => by have := wm x k y; omega) (mc.fr f (fun x k y q => by have := wm x k y; unfold Wcor at q; omega)) (mw.fr f (fun x k y q => by have := wm x k y; omega)) ⟨fun _ => hT, MCa.nd f (fun x k y q => by have := wm x k y; omega) ma.2.1, MCa.bz f (fun x k y q => by have := wm x k y; omega) ma.2.2.1, MCa.ly f (fun x k y q => by have := wm x k y; omega) ma.2.2.2⟩
theorem op_tls {L n ic im : Nat} {xs : Nat → Int32} {as : List Value} {v : List (List Nat) → Nat → Int32} (hic : ∀ g, g ≠ 6 → 5 ≤ g → g ≤ 12 → (badL g).contains ic = false) (hO : ∀ {h : PH} {Q : PQ} {gs : List (List Nat)} {m t : Nat}, OwS h → 63 ≤ h_ct h → CTz h gs m → CGr h 2 gs m → unlk gs → t < 2 ^ 31 → h_i h 2 6 = nI t → (∀ h', Gw (Wlz 6 7 h) h h' → CTz h' gs m → (h_r h 0 6 = none → ∀ c, h_r h' 0 6 = some c → h_ct h ≤ c) → Q (some (.int (v gs m))) h') → wpm 20 ic (.ref 0 :: as) h Q) (hM : ∀ {h : PH} {Q : PQ} {gs : List (List Nat)} {m : Nat}, MdS h → MGr h gs m → unlk gs → MTz h gs m → (∀ h', MTl h' gs m → Fr (fun c k => Wpt c k ∨ Wlk c k) h h' → Q (some (.int (v gs m))) h') → wpm 20 im (.ref 17 :: as) h Q) (hn : n < 512) : OpI (Inv L xs) 20 ic im as n := by
  intro h hI
  obtain ⟨sc, ct, tp, gs, m, so, f1, f2, S, w, A, t, ad, K, M, E, la, cap, c, mc, mw, ma, z, r, ab⟩ := hI
  have hu := ab.2.1.unlk
  have ht : t ≤ n := ab.2.2.2.2.2.1
  refine wpm_k (R := fun r h1 => r = some (.int (v gs m)) ∧ Gw (Wlz 6 7 h) h h1 ∧ CTz h1 gs m ∧ (h_r h 0 6 = none → ∀ c, h_r h1 0 6 = some c → h_ct h ≤ c)) (hO c.1 ct z.o6 c.2.2.1 hu (by omega) c.2.2.2.2.2.2.2 (fun h1 a b d => ⟨rfl, a, b, d⟩)) c.1.1 (by omega) (fun rr h1 q kp => ?_)
  obtain ⟨e, G, o, hnew⟩ := q
  have w63 : ∀ x k, Wlz 6 7 h x k → 63 ≤ x := fun x k y => wlz_63 z (f := 6) (by omega) y
  obtain ⟨s0, s1, s2, s3, s5, s6, s7, s8⟩ := cls_gw sc ct c r mc mw ma G (fun x k y => Or.inl (w63 x k y))
  have c1 := c.same (G.ce0 ct) s3 (fun x k y => Or.inr (Or.inr (Or.inr (w63 x k y))))
  have z1 := Lz.one (f := 6) (by omega) ct G (fun x k y => Or.inl y) (fun g a b d => kp g b d (hic g a b d)) z (ok6 o) hnew
  refine ⟨_, e, s0, s6.1.1, ?_⟩
  exact hM s6.1 s6.2.2.1 hu s8.1 (fun h2 hT f => ⟨rfl, inv_tails s1 s2 c1 z1 s5 ab s6 s7 s8 hT f (fun x k y => y.imp id (fun q => by unfold Wlk at q; exact q))⟩)
theorem op_parts {L n : Nat} {xs : Nat → Int32} (hn : n < 512) : OpI (Inv L xs) 20 125 213 [] n :=
  op_tls (v := fun gs m => ptR (allR gs m)) (fun g a b d => by rcases (show g = 5 ∨ g = 7 ∨ g = 8 ∨ g = 9 ∨ g = 10 ∨ g = 11 ∨ g = 12 by omega) with e | e | e | e | e | e | e <;> subst e <;> decide) (fun a b d e f g i k => ow_parts6 (d := 13) a b d e g i k) (fun a b d e k => md_parts (d := 14) a b d e (fun h' x f => k h' x (f.up (fun _ _ y => Or.inl y)))) hn
theorem op_tails {L n : Nat} {xs : Nat → Int32} (x : Int32) (hn : n < 512) : OpI (Inv L xs) 20 126 214 [.int x] n :=
  op_tls (v := fun gs m => tlsR (allR gs m) x) (fun g a b d => by rcases (show g = 5 ∨ g = 7 ∨ g = 8 ∨ g = 9 ∨ g = 10 ∨ g = 11 ∨ g = 12 by omega) with e | e | e | e | e | e | e <;> subst e <;> decide) (fun a b d e f g i k => ow_tails6 (d := 13) a b d e g i k) (fun a b d e k => md_tails (d := 14) a b d e (fun h' x f => k h' x (f.up (fun _ _ y => Or.inl y)))) hn
theorem op_tail {L n : Nat} {xs : Nat → Int32} (x y i : Int32) (hn : n < 512) : OpI (Inv L xs) 20 127 215 [.int x, .int y, .int i] n :=
  op_tls (v := fun gs m => tlR (allR gs m) x y i) (fun g a b d => by rcases (show g = 5 ∨ g = 7 ∨ g = 8 ∨ g = 9 ∨ g = 10 ∨ g = 11 ∨ g = 12 by omega) with e | e | e | e | e | e | e <;> subst e <;> decide) (fun a b d e f g i k => ow_tail6 (d := 13) a b d e g i k) (fun a b d e k => md_tail (d := 14) a b d e (fun h' x f => k h' x (f.up (fun _ _ y => Or.inl y)))) hn
theorem op_doubt {L n : Nat} {xs : Nat → Int32} (hn : n < 512) : OpI (Inv L xs) 20 128 216 [] n :=
  op_tls (v := fun gs m => dbR (allR gs m)) (fun g a b d => by rcases (show g = 5 ∨ g = 7 ∨ g = 8 ∨ g = 9 ∨ g = 10 ∨ g = 11 ∨ g = 12 by omega) with e | e | e | e | e | e | e <;> subst e <;> decide) (fun a b d e f g i k => ow_doubt6 (d := 13) a b d e g i k) (fun a b d e k => md_doubt (d := 14) a b d e (fun h' x f => k h' x (f.up (fun _ _ y => Or.inl y)))) hn
theorem op_look {L n : Nat} {xs : Nat → Int32} (hn : n < 512) : OpI (Inv L xs) 20 130 223 [] n :=
  op_tls (v := fun gs m => lookR gs m) (fun g a b d => by rcases (show g = 5 ∨ g = 7 ∨ g = 8 ∨ g = 9 ∨ g = 10 ∨ g = 11 ∨ g = 12 by omega) with e | e | e | e | e | e | e <;> subst e <;> decide) (fun a b d e f g i k => ow_look6 (d := 13) a b d e f g i k) (fun a b d e k => md_look (d := 14) a b d e k) hn
