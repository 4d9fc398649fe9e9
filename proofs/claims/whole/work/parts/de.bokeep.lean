/-! borders on the class's side: the list of borders, that grows -/
def BL (h : PH) (b la cap : Nat) (l : List Nat) : Prop := h_i h b 3 = nI l.length ∧ (∀ (i v : Nat), l[i]? = some v → h_i h la i = nI v) ∧ l.length ≤ cap
def capL (c : Nat) : Prop := ∃ e, e ≤ 10 ∧ c = 64 * 2 ^ e
theorem pw10 : ∀ e, e ≤ 10 → 64 ≤ 64 * 2 ^ e ∧ 64 * 2 ^ e ≤ 65536 ∧ (e ≤ 9 ∨ 64 * 2 ^ e = 65536) := by decide
theorem capL.le {c : Nat} (h : capL c) : 64 ≤ c ∧ c ≤ 65536 := by
  obtain ⟨e, he, q⟩ := h
  have := pw10 e he
  omega
theorem capL.dbl {c : Nat} (h : capL c) (hlt : c < 65536) : capL (2 * c) := by
  obtain ⟨e, he, q⟩ := h
  have := pw10 e he
  exact ⟨e + 1, by omega, by rw [q, Nat.pow_succ]; omega⟩
def AcB (h h' : PH) (c c' : Nat) : Prop := 64 * h_ct h' + c ≤ 64 * h_ct h + c' ∧ h_sl h' + 2 * c ≤ h_sl h + 2 * c'
theorem AcB.rf (h : PH) (c : Nat) : AcB h h c c := ⟨Nat.le_refl _, Nat.le_refl _⟩
theorem AcB.tr {h h1 h2 : PH} {c c1 c2 : Nat} (a : AcB h h1 c c1) (b : AcB h1 h2 c1 c2) : AcB h h2 c c2 := by
  obtain ⟨a1, a2⟩ := a
  obtain ⟨b1, b2⟩ := b
  exact ⟨by omega, by omega⟩
theorem Fr.acb {W : Nat → Nat → Prop} {h h' : PH} (hf : Fr W h h') (c : Nat) : AcB h h' c c := by
  unfold AcB
  rw [hf.2.2.1, hf.2.2.2.1]
  exact ⟨Nat.le_refl _, Nat.le_refl _⟩
def Wbl (b la x k : Nat) : Prop := (x = b ∧ k = 3) ∨ x = la
theorem bo_keep {d b la cap v : Nat} {h : PH} {Q : PQ} {l : List Nat} (hB : BoS h b la cap) (hL : BL h b la cap l) (hc : capL cap) (hl : l.length < 65536) (k : ∀ h' la' cap', BoS h' b la' cap' → BL h' b la' cap' (l ++ [v]) → capL cap' → (la' = la ∨ h_ct h ≤ la') → AcB h h' cap cap' → Ge b (Wbl b la) h h' → Q none h') : wpm (d + 2) 8 [.ref b, .int (nI v)] h Q := by
  refine wpm_in P_Bo_keep rfl (by decide) (by show ¬ 2 < 2; decide) ?_
  have cle := hc.le
  have at30 : ∀ g la' cap', BoS g b la' cap' → BL g b la' cap' l → l.length < cap' → capL cap' → (la' = la ∨ h_ct h ≤ la') → AcB h g cap cap' → Ge b (Wbl b la) h g → wpx (d + 1) P_Bo_keep 30 [.ref b, .int (nI v)] [] g Q := by
    intro g la' cap' gB gL hlt gc gla gA gF
    have gcl := gc.le
    obtain ⟨s0, s1, s2, s3, s4, b63, bct, lct, lb⟩ := gB
    obtain ⟨e0, e1, e2⟩ := gL
    have u1 : h_i (w_i g la' l.length (nI v)) b 3 = nI l.length := by rw [wi_ne _ _ (by omega), e0]
    refine B_Bo_keep_30 s0 s3.1 s3.2 (by rw [e0]; exact vp_in_nI (by omega) (by omega)) ?_
    rw [e0, nI_clamp (by omega), u1, nI_1]
    have F : Fr (fun x k => (x = b ∧ k = 3) ∨ x = la') g (w_i (w_i g la' l.length (nI v)) b 3 (nI (l.length + 1))) := (Fr.wi _ _ (Or.inr rfl)).tr (Fr.wi _ _ (Or.inl ⟨rfl, rfl⟩))
    refine k _ la' cap' (BoS.fr F ⟨s0, s1, s2, s3, s4, b63, bct, lct, lb⟩) ⟨by rw [wi_eq, List.length_append]; rfl, fun i q hq => ?_, by rw [List.length_append]; exact hlt⟩ gc gla (gA.tr (F.acb cap')) (gF.tr F.ge (fun x k hx z => ?_))
    · rw [wi_ne _ _ (by omega)]
      rcases get_snoc hq with ⟨il, hq⟩ | ⟨il, hq⟩
      · rw [wi_ne _ _ (by omega)]
        exact e1 i q hq
      · subst hq
        rw [il, wi_eq]
    · rcases z with z | z
      · exact Or.inl z
      · rcases gla with y | y
        · exact Or.inr (by rw [z, y])
        · omega
  have hB' := hB
  have hL' := hL
  obtain ⟨s0, s1, s2, s3, s4, b63, bct, lct, lb⟩ := hB
  obtain ⟨e0, e1, e2⟩ := hL
  have en : (Int32.ofNat cap) = nI cap := rfl
  refine B_Bo_keep_0 s0 s3.1 s3.2 (fun z => ?_) (fun z => B_Bo_keep_12 s0 s3.1 s3.2 ?_)
  · rw [e0, en, nI_ltI (by omega) (by omega)] at z
    exact at30 h la cap hB' hL' z hc (Or.inl rfl) (AcB.rf _ _) (Ge.rf _ _ _)
  · rw [e0, en, nI_ltI (by omega) (by omega)] at z
    have el : l.length = cap := by omega
    rw [en, show (2 : Int32) = nI 2 from rfl, nI_mulN]
    refine ja_copyI s3.2 lct (by omega) (by omega) (fun g1 g1n g1s g1c g1t g1l => ?_)
    refine B_Bo_keep_27 ((g1n.2.2 b (by omega)).1.trans s0) ?_
    have f1 : Ge b (Wbl b la) h (w_r g1 b 2 (some (h_ct h))) := (g1n.ge (c := b)).tr (Ge.wr (W := fun _ _ => False)) (fun _ _ _ z => z.elim)
    have sh1 : ∀ x, x < h_ct h → h_sh (w_r g1 b 2 (some (h_ct h))) x = h_sh h x := f1.2.2.1
    have r1 : ∀ f, f ≠ 2 → h_r (w_r g1 b 2 (some (h_ct h))) b f = h_r h b f := fun f hf => by rw [w_r_ne (fun z => hf z.2), g1n.r (by omega)]
    have ct1 : h_ct (w_r g1 b 2 (some (h_ct h))) = h_ct h + 1 := g1t
    have sl1 : h_sl (w_r g1 b 2 (some (h_ct h))) = h_sl h + 2 * cap := g1l
    have i1 : ∀ x k, x < h_ct h → h_i (w_r g1 b 2 (some (h_ct h))) x k = h_i h x k := fun x k hx => (i_wr ..).trans (g1n.i hx)
    have n1s : h_sh (w_r g1 b 2 (some (h_ct h))) (h_ct h) = some (1, 2 * cap) := g1s
    have n1c : ∀ i, i < cap → h_i (w_r g1 b 2 (some (h_ct h))) (h_ct h) i = h_i h la i := fun i hi => (i_wr ..).trans (g1c i hi)
    have n1r : h_r (w_r g1 b 2 (some (h_ct h))) b 2 = some (h_ct h) := w_r_eq
    generalize w_r g1 b 2 (some (h_ct h)) = g2 at f1 sh1 r1 ct1 sl1 i1 n1s n1c n1r ⊢
    refine at30 g2 (h_ct h) (2 * cap) ⟨(sh1 b (by omega)).trans s0, ⟨(r1 0 (by omega)).trans s1.1, (sh1 _ (by omega)).trans s1.2⟩, ⟨(r1 1 (by omega)).trans s2.1, (sh1 _ (by omega)).trans s2.2⟩, ⟨n1r, n1s⟩, ⟨(r1 4 (by omega)).trans s4.1, (sh1 _ (by omega)).trans s4.2⟩, b63, by omega, by omega, Or.inr (by omega)⟩ ⟨(i1 b 3 (by omega)).trans e0, fun i q hq => ?_, by omega⟩ (by omega) (hc.dbl (by omega)) (Or.inr (Nat.le_refl _)) ⟨by omega, by omega⟩ f1
    have il := (List.getElem?_eq_some_iff.mp hq).1
    rw [n1c i (by omega)]
    exact e1 i q hq
/-- the rows that are kept, in the order of the search; k letters more at most -/
noncomputable def iteLL (P : Prop) (a b : List (List Nat)) : List (List Nat) := @ite (List (List Nat)) P (Classical.propDecidable P) a b
theorem iteLL_t {P : Prop} {a b : List (List Nat)} (h : P) : iteLL P a b = a := if_pos h
theorem iteLL_f {P : Prop} {a b : List (List Nat)} (h : ¬ P) : iteLL P a b = b := if_neg h
noncomputable def blR (gs : List (List Nat)) (m : Nat) : Nat → List Nat → List (List Nat)
  | 0, _ => []
  | k + 1, r => (List.range' 1 27).flatMap (fun s => iteLL (iW gs m (s :: r)) (blR gs m k (s :: r)) (iteLL (iE gs m (s :: r)) [s :: r] []))
def cdB (r : List Nat) : Nat := 2 ^ 20 * r.length + pkN r
theorem Brn_start {gs : List (List Nat)} {m s : Nat} {r x y : List Nat} (h : Brn gs m (s :: r) x y) : x = [] ∨ isI gs m x := by
  rcases h with ⟨a, _⟩ | ⟨a, _⟩
  · exact Or.inr (isI_cut a)
  · exact Or.inr (isI_of a (fun z => by cases z))
theorem ins_ex {gs N : List (List Nat)} {m s : Nat} {r : List Nat} (hN : okN N) (hm : ∀ x, x ∈ N ↔ x = [] ∨ isI gs m x ∨ isG gs m x) : (∃ u, u < 128 ∧ ofN N (insP gs m (s :: r)) u) ↔ iW gs m (s :: r) := by
  have n99 := hN.2.2.2.1
  constructor
  · rintro ⟨u, _, x, hx, y, hy, hi, hb⟩
    exact ⟨x, y, Brn_start hb, hy, hi, hb⟩
  · rintro ⟨x, y, hx, hy, hi, hb⟩
    have hin : x ∈ N := (hm x).mpr (hx.elim Or.inl (fun z => Or.inr (Or.inl z)))
    have := nix_lt hin
    exact ⟨nix N x, by omega, x, nix_get hin, y, hy, hi, hb⟩
theorem pas_ex {gs N : List (List Nat)} {m s : Nat} {r : List Nat} (hN : okN N) (hm : ∀ x, x ∈ N ↔ x = [] ∨ isI gs m x ∨ isG gs m x) : (∃ u, u < 128 ∧ ofN N (pasP gs m (s :: r)) u) ↔ iE gs m (s :: r) ∨ iW gs m (s :: r) := by
  have n99 := hN.2.2.2.1
  constructor
  · rintro ⟨u, _, x, hx, y, hy, hb⟩
    by_cases z : y = []
    · rw [z] at hb
      exact Or.inl ⟨x, Brn_start hb, hb⟩
    · exact Or.inr ⟨x, y, Brn_start hb, z, hy.elim (fun w => absurd w z) id, hb⟩
  · rintro (⟨x, hx, hb⟩ | ⟨x, y, hx, hy, hi, hb⟩)
    · have hin : x ∈ N := (hm x).mpr (hx.elim Or.inl (fun z => Or.inr (Or.inl z)))
      have := nix_lt hin
      exact ⟨nix N x, by omega, x, nix_get hin, [], Or.inl rfl, hb⟩
    · have hin : x ∈ N := (hm x).mpr (hx.elim Or.inl (fun z => Or.inr (Or.inl z)))
      have := nix_lt hin
      exact ⟨nix N x, by omega, x, nix_get hin, y, Or.inr hi, hb⟩
theorem shl_5b : ∀ c, c < 28 → ∀ s, s < 4 → nI c <<< (((5 : Int32) * nI s) &&& 31) = nI (2 ^ (5 * s) * c) := by decide +kernel
theorem shl_20 : ∀ c, c < 5 → nI c <<< ((20 : Int32) &&& 31) = nI (2 ^ 20 * c) := by decide
theorem bo_longer {s n : Nat} {r : List Nat} (hs : s < 28) (hr : r.length = n) (hn : n < 4) (hx : ∀ x ∈ r, 0 < x ∧ x < 28) : (nI s <<< (((5 : Int32) * nI n) &&& 31)) ||| nI (pkN r) = nI (pkN (s :: r)) := by
  have lt := pkN_lt (l := r) (fun x h => by have := hx x h; omega)
  rw [hr] at lt
  have e32 : 32 ^ n = 2 ^ (5 * n) := by rw [Nat.pow_mul]
  rw [e32] at lt
  have p15 : 2 ^ (5 * n) ≤ 2 ^ 15 := Nat.pow_le_pow_right (by decide) (by omega)
  have p27 : 2 ^ (5 * n) * s ≤ 2 ^ 15 * 28 := Nat.mul_le_mul p15 (by omega)
  rw [shl_5b s hs n hn, nI_orN (by omega) (by omega), pkN_cons, hr, e32, ← Nat.two_pow_add_eq_or_of_lt lt, Nat.mul_comm]
theorem bo_entry {n : Nat} {r : List Nat} (hr : r.length = n) (hn : n ≤ 4) (hx : ∀ x ∈ r, 0 < x ∧ x < 28) : (nI n <<< ((20 : Int32) &&& 31)) ||| nI (pkN r) = nI (cdB r) := by
  have lt := pkN_lt (l := r) (fun x h => by have := hx x h; omega)
  rw [hr] at lt
  have p20 : 32 ^ n ≤ 32 ^ 4 := Nat.pow_le_pow_right (by decide) hn
  have lt20 : pkN r < 2 ^ 20 := by omega
  rw [shl_20 n (by omega), nI_orN (by omega) (by omega), ← Nat.two_pow_add_eq_or_of_lt lt20]
  unfold cdB
  rw [hr]
