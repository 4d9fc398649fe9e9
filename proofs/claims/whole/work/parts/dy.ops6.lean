/-! the calls, one by one: the census and the borders -/
theorem cls_gq {c0 : Nat} {W : Nat → Nat → Prop} {h h1 : PH} {Ls : Nat} {xs : Nat → Int32} {tp : List Int32} {gs : List (List Nat)} {m : Nat} {so : Nat → Int32} {f1 f2 : Int32} {S : Nat} {w : List Nat} {A : List Act} {t : Nat} (sc : h_sc h = (Ls, xs)) (ct : 63 ≤ h_ct h) (c : CIn h tp gs m so f1 f2 S w A t) (mc : MCo h tp gs m so f1 f2 S A) (mw : MWd h w) (ma : MCa h gs m) (G : Gq c0 W h h1) (h63 : 63 ≤ c0) (hw : ∀ x k, W x k → 63 ≤ x ∨ Wcd x k) : h_sc h1 = h_sc h ∧ h_sc h1 = (Ls, xs) ∧ 63 ≤ h_ct h1 ∧ OwS h1 ∧ MCo h1 tp gs m so f1 f2 S A ∧ MWd h1 w ∧ MCa h1 gs m := by
  have e : ∀ x k, 17 ≤ x → x < 63 → h_i h1 x k = h_i h x k ∧ h_l h1 x k = h_l h x k := fun x k a b => by
    have nw : ¬ W x k := fun y => by
      have := hw x k y
      unfold Wcd at this
      omega
    exact ⟨G.i (by omega) nw, G.l (by omega) nw⟩
  have hct := G.2.1
  exact ⟨G.1, G.1.trans sc, by omega, G.ow ct h63 c.1, mc.cl e (G.md ct h63 mc.1), mw.cl e, ma.cl c.2.2.1.1 e⟩
theorem Rm.acc {h h' : PH} {K M E K' M' E' cap : Nat} (r : Rm h K M E cap) (a : AccR h h' K M E K' M' E') : Rm h' K' M' E' cap := by
  obtain ⟨r1, r2⟩ := r
  obtain ⟨a1, a2⟩ := a
  exact ⟨by omega, by omega⟩
theorem Rm.acb {h h' : PH} {K M E cap cap' : Nat} (r : Rm h K M E cap) (a : AcBR h h' cap cap') : Rm h' K M E cap' := by
  obtain ⟨r1, r2⟩ := r
  obtain ⟨a1, a2⟩ := a
  exact ⟨by omega, by omega⟩
theorem rg5 {h : PH} {ad : Nat → Nat} {la x tb : Nat} (hr : h_r h 0 5 = some tb) : RgA h ad la 5 x ↔ tb ≤ x ∧ x ≤ tb + 9 := by
  constructor
  · rintro ⟨c, e, w⟩
    rw [hr] at e
    cases e
    rcases w with w | w | w
    · omega
    · omega
    · exact w.2
  · intro w
    exact ⟨tb, hr, Or.inr (Or.inr ⟨by omega, w.1, w.2⟩)⟩
theorem rg10 {h : PH} {ad : Nat → Nat} {la x c : Nat} (hr : h_r h 0 10 = some c) : RgA h ad la 10 x ↔ Wce c ad x := by
  constructor
  · rintro ⟨c', e, w⟩
    rw [hr] at e
    cases e
    rcases w with w | w | w
    · exact w.2
    · omega
    · omega
  · intro w
    exact ⟨c, hr, Or.inl ⟨rfl, w⟩⟩
theorem rg11 {h : PH} {ad : Nat → Nat} {la x b : Nat} (hr : h_r h 0 11 = some b) : RgA h ad la 11 x ↔ Wbc b la x := by
  constructor
  · rintro ⟨c', e, w⟩
    rw [hr] at e
    cases e
    rcases w with w | w | w
    · omega
    · exact w.2
    · omega
  · intro w
    exact ⟨b, hr, Or.inr (Or.inl ⟨rfl, w⟩)⟩
theorem lz_ce {h h' : PH} {gs : List (List Nat)} {m K M E la cap K' M' E' c : Nat} {ad ad' : Nat → Nat} {W : Nat → Nat → Prop} (ct : 63 ≤ h_ct h) (z : Lz h gs m ad K M E la cap) (P : CeP h h' gs m ad K M E c ad' K' M' E' W) (hW : ∀ x k, W x k → Wcn h ad x k ∨ Wcd x k) (kp : ∀ g, g ≠ 10 → g ≠ 5 → 5 ≤ g → g ≤ 12 → h_r h' 0 g = h_r h 0 g) : Lz h' gs m ad' K' M' E' la cap := by
  obtain ⟨p1, p2, p3, p4, p5, p6, p7, p8, p9, p10⟩ := P
  have nw : ∀ x k, W x k → RgA h ad la 5 x ∨ RgA h ad la 10 x ∨ Wcd x k := fun x k y => by
    rcases hW x k y with (⟨tb, e, a, b⟩ | ⟨c0, e, a⟩) | q
    · exact Or.inl ((rg5 e).mpr ⟨a, b⟩)
    · exact Or.inr (Or.inl ((rg10 e).mpr a))
    · exact Or.inr (Or.inr q)
  refine Lz.two (f := 10) (Or.inr (Or.inl rfl)) p8.2.1 (fun x a1 a2 a3 a4 => ⟨p8.2.2.1 x a2, fun k => ?_⟩) kp (p8.i (by omega) (fun y => ?_)) z p3 ⟨fun e => by omega, fun e => by omega, fun e => by omega, fun e => by omega, fun e => by omega, fun _ => p2, fun e => by omega, fun e => by omega⟩ (Or.inl rfl) (Or.inr ⟨rfl, rfl⟩) (fun x a => ?_) (fun x a => ?_) (fun x a a' => ?_)
  · have nx : ¬ W x k := fun y => by
      rcases nw x k y with q | q | q
      · exact a4 q
      · exact a3 q
      · unfold Wcd at q
        omega
    refine ⟨?_, p8.i a2 nx, p8.l a2 nx⟩
    have xc : x ≠ c := fun e => by
      rcases p7 c (Or.inl rfl) with ⟨c0, e0, w⟩ | w
      · rw [e] at a3
        exact a3 ((rg10 e0).mpr w)
      · omega
    rcases p8.2.2.2.1 x k a2 xc with q | q
    · exact q
    · omega
  · rcases nw _ _ y with q | q | q
    · have := z.rg q
      omega
    · have := z.rg q
      omega
    · unfold Wcd at q
      omega
  · rcases p7 x ((rg10 p1).mp a) with ⟨c0, e0, w⟩ | w
    · exact Or.inl ((rg10 e0).mpr w)
    · exact Or.inr w
  · obtain ⟨tb, e, w⟩ := a
    have w' : tb ≤ x ∧ x ≤ tb + 9 := (rg5 (ad := ad') (la := la) e).mp ⟨tb, e, w⟩
    cases e0 : h_r h 0 5 with
    | none =>
      have := p6 e0 tb e
      exact Or.inr (by omega)
    | some tb0 =>
      have e1 := p8.rs (by omega) (by omega) e0
      rw [e] at e1
      cases e1
      exact Or.inl ((rg5 e0).mpr w')
  · obtain ⟨tb, e, w⟩ := a'
    have w' : tb ≤ x ∧ x ≤ tb + 9 := (rg5 (ad := ad') (la := la) e).mp ⟨tb, e, w⟩
    exact p4 tb e x w'.1 w'.2 ((rg10 p1).mp a)
theorem lz_bo {h h' : PH} {gs : List (List Nat)} {m K M E la cap la' cap' b : Nat} {ad : Nat → Nat} (ct : 63 ≤ h_ct h) (z : Lz h gs m ad K M E la cap) (P : BoP h h' gs m la cap b la' cap' (Wbn h la)) (kp : ∀ g, g ≠ 11 → g ≠ 5 → 5 ≤ g → g ≤ 12 → h_r h' 0 g = h_r h 0 g) : Lz h' gs m ad K M E la' cap' := by
  obtain ⟨p1, pc, p2, p3, p4, p5, p6, p7, p8, p9, p10⟩ := P
  have nw : ∀ x k, Wbn h la x k → RgA h ad la 5 x ∨ RgA h ad la 11 x := fun x k y => by
    rcases y with ⟨tb, e, a, b⟩ | ⟨c0, e, a⟩
    · exact Or.inl ((rg5 e).mpr ⟨a, b⟩)
    · exact Or.inr ((rg11 e).mpr a)
  refine Lz.two (f := 11) (Or.inr (Or.inr rfl)) p8.2.1 (fun x a1 a2 a3 a4 => ⟨p8.2.2.1 x a2, fun k => ?_⟩) kp (p8.i (by omega) (fun y => ?_)) z p3 ⟨fun e => by omega, fun e => by omega, fun e => by omega, fun e => by omega, fun e => by omega, fun e => by omega, fun _ => p2, fun e => by omega⟩ (Or.inr ⟨rfl, rfl, rfl, rfl⟩) (Or.inl rfl) (fun x a => ?_) (fun x a => ?_) (fun x a a' => ?_)
  · have nx : ¬ Wbn h la x k := fun y => by
      rcases nw x k y with q | q
      · exact a4 q
      · exact a3 q
    refine ⟨?_, p8.i a2 nx, p8.l a2 nx⟩
    have xc : x ≠ b := fun e => by
      rcases p7 b (Or.inl ⟨Nat.le_refl _, by omega⟩) with ⟨c0, e0, w⟩ | w
      · rw [e] at a3
        exact a3 ((rg11 e0).mpr w)
      · omega
    rcases p8.2.2.2.1 x k a2 xc with q | q
    · exact q
    · omega
  · rcases nw _ _ y with q | q
    · have := z.rg q
      omega
    · have := z.rg q
      omega
  · rcases p7 x ((rg11 p1).mp a) with ⟨c0, e0, w⟩ | w
    · exact Or.inl ((rg11 e0).mpr w)
    · exact Or.inr w
  · obtain ⟨tb, e, w⟩ := a
    have w' : tb ≤ x ∧ x ≤ tb + 9 := (rg5 (ad := ad) (la := la') e).mp ⟨tb, e, w⟩
    cases e0 : h_r h 0 5 with
    | none =>
      have := p6 e0 tb e
      exact Or.inr (by omega)
    | some tb0 =>
      have e1 := p8.rs (by omega) (by omega) e0
      rw [e] at e1
      cases e1
      exact Or.inl ((rg5 e0).mpr w')
  · obtain ⟨tb, e, w⟩ := a'
    have w' : tb ≤ x ∧ x ≤ tb + 9 := (rg5 (ad := ad) (la := la') e).mp ⟨tb, e, w⟩
    exact p4 tb e x w'.1 w'.2 ((rg11 p1).mp a)
theorem nthW_len {gs : List (List Nat)} {m : Nat} : ∀ (n : Nat) (v : List Nat) (k : Nat), (nthW gs m n v k).length = v.length + n
  | 0, v, k => rfl
  | n + 1, v, k => by
    show (nthW gs m n (v ++ [_]) _).length = _
    rw [nthW_len n, List.length_append]
    show v.length + 1 + n = v.length + (n + 1)
    omega
theorem Lz.d10 {h : PH} {gs : List (List Nat)} {m K M E la cap : Nat} {ad : Nat → Nat} (z : Lz h gs m ad K M E la cap) : ∀ c tb, h_r h 0 10 = some c → h_r h 0 5 = some tb → ∀ x, tb ≤ x → x ≤ tb + 9 → ¬ Wce c ad x := fun c tb e e5 x a b w => z.2 10 5 x (by omega) ((rg10 e).mpr w) ((rg5 e5).mpr ⟨a, b⟩)
theorem Lz.d11 {h : PH} {gs : List (List Nat)} {m K M E la cap : Nat} {ad : Nat → Nat} (z : Lz h gs m ad K M E la cap) : ∀ b tb, h_r h 0 11 = some b → h_r h 0 5 = some tb → ∀ x, tb ≤ x → x ≤ tb + 9 → ¬ Wbc b la x := fun c tb e e5 x a b w => z.2 11 5 x (by omega) ((rg11 e).mpr w) ((rg5 e5).mpr ⟨a, b⟩)
theorem wcn_63 {h : PH} {gs : List (List Nat)} {m K M E la cap x k : Nat} {ad : Nat → Nat} (z : Lz h gs m ad K M E la cap) (y : Wcn h ad x k) : 63 ≤ x := by
  rcases y with ⟨tb, e, a, b⟩ | ⟨c0, e, a⟩
  · exact (z.rg ((rg5 (ad := ad) (la := la) e).mpr ⟨a, b⟩)).1
  · exact (z.rg ((rg10 (la := la) e).mpr a)).1
theorem wbn_63 {h : PH} {gs : List (List Nat)} {m K M E la cap x k : Nat} {ad : Nat → Nat} (z : Lz h gs m ad K M E la cap) (y : Wbn h la x k) : 63 ≤ x := by
  rcases y with ⟨tb, e, a, b⟩ | ⟨c0, e, a⟩
  · exact (z.rg ((rg5 (ad := ad) (la := la) e).mpr ⟨a, b⟩)).1
  · exact (z.rg ((rg11 (ad := ad) e).mpr a)).1
