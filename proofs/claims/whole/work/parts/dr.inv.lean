/-! THE INVARIANT between two calls of the law's loop -/
/-- no word that may be read has too many readings, however marks are set -/
def Bd (gs : List (List Nat)) (w : List Nat) : Prop := ∀ gs' m', okg gs' m' → gs'.map cor = gs.map cor → ∀ p, p ≤ w.length → wy gs' m' w p < 2 ^ 63
/-- THE BOUND on readings: what is asked of it -/
def HBnd : Prop := ∀ gs m w, okg gs m → unlD gs → lst (Twn gs m) (some w) → Bd gs w
def Rm (h : PH) (K M E cap : Nat) : Prop := 64 * (h_ct h + restC h) ≤ 64 * 400 + 8 * (K + M + E) + cap ∧ h_sl h + restS h ≤ 420000 + (51 * K + 2 * M + 4 * E) + 2 * cap
def Abs (tp : List Int32) (gs : List (List Nat)) (m S : Nat) (w : List Nat) (A : List Act) (t n : Nat) : Prop := okt tp ∧ unlD gs ∧ Chn gs m A ∧ A.length ≤ 12 ∧ S < 2 ^ 31 ∧ t ≤ n ∧ Bd gs w
def Inv (L : Nat) (xs : Nat → Int32) (n : Nat) (h : PH) : Prop := h_sc h = (L, xs) ∧ 63 ≤ h_ct h ∧ ∃ (tp : List Int32) (gs : List (List Nat)) (m : Nat) (so : Nat → Int32) (f1 f2 : Int32) (S : Nat) (w : List Nat) (A : List Act) (t : Nat) (ad : Nat → Nat) (K M E la cap : Nat), CIn h tp gs m so f1 f2 S w A t ∧ MCo h tp gs m so f1 f2 S A ∧ MWd h w ∧ MCa h gs m ∧ Lz h gs m ad K M E la cap ∧ Rm h K M E cap ∧ Abs tp gs m S w A t n
theorem Rm.fr {W : Nat → Nat → Prop} {h h' : PH} {K M E cap : Nat} (f : Fr W h h') (r : Rm h K M E cap) : Rm h' K M E cap := by
  obtain ⟨e1, e2⟩ := rest_eq (h := h) (h' := h') (fun k => by rw [f.2.1])
  unfold Rm
  rw [e1, e2, f.2.2.1, f.2.2.2.1]
  exact r
theorem Rm.gw {W : Nat → Nat → Prop} {h h' : PH} {K M E cap : Nat} (f : Gw W h h') (r : Rm h K M E cap) : Rm h' K M E cap := by
  have e1 := f.2.2.1
  have e2 := f.2.2.2.1
  unfold Rm at r ⊢
  rw [e1, e2]
  exact r
theorem Bd.short {gs : List (List Nat)} {w : List Nat} (hu : unlD gs) (hl : w.length ≤ 62) : Bd gs w := fun gs' m' ho e p hp => by
  have hu' : unlk gs' := unlC.unlk (by unfold unlC; rw [e]; exact hu.1)
  rw [wy_drop ho (w.length - p) w p (Nat.le_refl _) hp]
  have h1 := rdc_pow (gs := gs') (m := m') ho hu' (w.drop p).length (w.drop p) (Nat.le_refl _)
  rw [List.length_drop] at h1
  have h2 : 2 ^ (w.length - p) ≤ 2 ^ 62 := Nat.pow_le_pow_right (by decide) (by omega)
  omega
theorem Bd.at {gs : List (List Nat)} {m : Nat} {w : List Nat} (b : Bd gs w) (ho : okg gs m) : ∀ p, p ≤ w.length → wy gs m w p < 2 ^ 63 := b gs m ho rfl
theorem Bd.to {gs gs' : List (List Nat)} {w : List Nat} (b : Bd gs w) (e : gs'.map cor = gs.map cor) : Bd gs' w := fun g2 m2 ho e2 => b g2 m2 ho (e2.trans e)
/-- what the law's loop goes on with, behind both calls -/
theorem inv_fin {W : Nat → Nat → Prop} {h1 h2 : PH} {Ls n : Nat} {xs : Nat → Int32} {tp : List Int32} {gs : List (List Nat)} {m : Nat} {so : Nat → Int32} {f1 f2 : Int32} {S : Nat} {w : List Nat} {A : List Act} {t : Nat} {ad : Nat → Nat} {K M E la cap : Nat} (sc : h_sc h1 = (Ls, xs)) (ct : 63 ≤ h_ct h1) (c : CIn h1 tp gs m so f1 f2 S w A t) (z : Lz h1 gs m ad K M E la cap) (r : Rm h1 K M E cap) (ab : Abs tp gs m S w A t n) (f : Fr W h1 h2) (hw : ∀ x k, W x k → 17 ≤ x ∧ x < 63) (mc : MCo h2 tp gs m so f1 f2 S A) (mw : MWd h2 w) (ma : MCa h2 gs m) : Inv Ls xs n h2 :=
  ⟨f.2.2.2.2.1.trans sc, by rw [f.2.2.1]; exact ct, tp, gs, m, so, f1, f2, S, w, A, t, ad, K, M, E, la, cap, c.md f (fun x k y => (hw x k y).1), mc, mw, ma, z.fr f (fun x k y => ⟨(hw x k y).2, fun q => by have := hw x k y; omega⟩), r.fr f, ab⟩
theorem Abs.up {tp : List Int32} {gs : List (List Nat)} {m S : Nat} {w : List Nat} {A : List Act} {t n : Nat} (a : Abs tp gs m S w A t n) : Abs tp gs m S w A t (n + 1) := by
  obtain ⟨a1, a2, a3, a4, a5, a6, a7⟩ := a
  exact ⟨a1, a2, a3, a4, a5, by omega, a7⟩
theorem Inv.up {L n : Nat} {xs : Nat → Int32} {h : PH} (i : Inv L xs n h) : Inv L xs (n + 1) h := by
  obtain ⟨i1, i2, tp, gs, m, so, f1, f2, S, w, A, t, ad, K, M, E, la, cap, c, mc, mw, ma, z, r, ab⟩ := i
  exact ⟨i1, i2, tp, gs, m, so, f1, f2, S, w, A, t, ad, K, M, E, la, cap, c, mc, mw, ma, z, r, ab.up⟩
theorem Inv.room {L n : Nat} {xs : Nat → Int32} {h : PH} (i : Inv L xs n h) : h_ct h ≤ 574544 ∧ h_sl h ≤ 7302250 := by
  obtain ⟨i1, i2, tp, gs, m, so, f1, f2, S, w, A, t, ad, K, M, E, la, cap, c, mc, mw, ma, z, r, ab⟩ := i
  have k1 := z.o10.1.1.le
  have k2 : M ≤ 65536 := by
    obtain ⟨b, b1, b2, e⟩ := z.o10.1.2.1
    have := pw16 b b2 b1
    omega
  have k3 := z.o10.1.2.2.le
  have k4 := z.o11.1.le
  obtain ⟨r1, r2⟩ := r
  exact ⟨by omega, by omega⟩
theorem Inv.base {L n : Nat} {xs : Nat → Int32} {h : PH} (i : Inv L xs n h) : h_sc h = (L, xs) ∧ h_sh h 0 = some (0, 11) ∧ h_sh h 17 = some (0, 12) := by
  obtain ⟨i1, i2, tp, gs, m, so, f1, f2, S, w, A, t, ad, K, M, E, la, cap, c, mc, mw, ma, z, r, ab⟩ := i
  exact ⟨i1, c.1.1, mc.1.1⟩
