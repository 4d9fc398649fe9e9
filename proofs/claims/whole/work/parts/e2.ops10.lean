/-! the calls, one by one: the table -/
theorem bts {tp : List Int32} (hk : okt tp) {k n : Nat} (h : (tp.map Int32.toNatClampNeg)[k]? = some n) : n < 256 ∧ tp[k]? = some (nI n) := by
  rw [List.getElem?_map] at h
  cases e : tp[k]? with
  | none =>
    rw [e] at h
    cases h
  | some v =>
    rw [e] at h
    obtain ⟨n0, hn0, ev⟩ := hk v (List.mem_of_getElem? e)
    have h2 : v.toNatClampNeg = n := Option.some.inj h
    rw [ev, nI_clamp (by omega)] at h2
    rw [ev, h2]
    exact ⟨by omega, rfl⟩
theorem cor_okn {l : List Nat} (h : okn l) : cor l = l := by
  unfold cor
  exact List.filter_eq_self.mpr (fun x hx => decide_eq_true (by have := h.1 x hx; omega))
theorem unl_okn : ∀ {gs : List (List Nat)}, (∀ l ∈ gs, okn l) → gs.map cor = gs
  | [], _ => rfl
  | l :: r, h => by
    rw [List.map_cons, cor_okn (h l List.mem_cons_self), unl_okn (fun x hx => h x (List.mem_cons_of_mem _ hx))]
theorem unlk_nodup {gs : List (List Nat)} (h : gs.Nodup) : unlk gs := fun i j hi hj e => by
  rw [List.getD_eq_getElem?_getD, List.getD_eq_getElem?_getD, List.getElem?_eq_getElem hi, List.getElem?_eq_getElem hj] at e
  exact (List.getElem?_inj hi h).mp (by rw [List.getElem?_eq_getElem hi, List.getElem?_eq_getElem hj]; exact congrArg some e)
theorem unlC_okS {s : PSt} (h : okS s) : unlC s.2.2.1 := by
  obtain ⟨_, _, _, _, _, h6, _, _, _, h10⟩ := h
  unfold unlC
  rw [unl_okn h6]
  exact unlk_nodup h10
theorem unlD_okS {s : PSt} (h : okS s) : unlD s.2.2.1 := ⟨unlC_okS h, fun l hl => by
  have hn := h.2.2.2.2.2.1 l hl
  unfold mke
  rw [cor_okn hn]
  exact ⟨hn.2.2, hn.2.1, 0, 0, by rw [List.replicate_zero, List.nil_append, List.append_nil]⟩⟩
theorem mkp_nil {h : PH} (e : h_i h 17 76 = 0) : MKp h (snL []) := ⟨e, by decide, fun s hs => (by cases hs), fun n s hs => (by cases hs)⟩
theorem ctp_nil {h : PH} (e : h_i h 0 1 = 0) : CTp h [] := ⟨e, by decide, fun k v hv => (by cases hv)⟩
theorem mtp_nil {h : PH} (e : h_i h 17 12 = 0) : MTp h [] := ⟨e, by decide, fun k v hv => (by cases hv)⟩
theorem okt_nil : okt [] := fun v hv => by cases hv
theorem op_table {L n : Nat} {xs : Nat → Int32} (hn : n < 512) : OpI (Inv L xs) 20 120 195 [] n := by
  intro h hI
  obtain ⟨sc, ct, tp, gs, m, so, f1, f2, S, w, A, t, ad, K, M, E, la, cap, c, mc, mw, ma, z, r, ab⟩ := hI
  have ho := c.2.2.1.1
  have ht : t ≤ n := ab.2.2.2.2.2.1
  have hB : CBy h (tp.map Int32.toNatClampNeg) := ⟨by rw [List.length_map]; exact c.2.1.2.1, fun k v e => ⟨(bts ab.1 e).1, c.2.1.2.2 k _ (bts ab.1 e).2⟩⟩
  have hl : h_i h 0 1 = nI (tp.map Int32.toNatClampNeg).length := by rw [List.length_map]; exact c.2.1.1
  refine ow_table (d := 16) c.1 hB hl (fun hb h1 e7 e8 e1 f => ?_) (fun hb h1 hok e7 e8 e1 hg hs hS ha hw hst f => ?_)
  · have wc : ∀ a k, Wtb a k → (8 ≤ a ∧ a ≤ 12) ∨ (a = 0 ∧ k = 1) := fun a k y => by unfold Wtb Wtl at y; exact y
    obtain ⟨m1, m2, m3⟩ := cls_md ho mc mw ma f (fun a k y => by have := wc a k y; omega)
    have c1 : CIn h1 [] gs m so (nI (tbl (tp.map Int32.toNatClampNeg)).1) (nI (tbl (tp.map Int32.toNatClampNeg)).2.1) S w A t := ⟨f.ow c.1, ctp_nil e1, c.2.2.1.fr f (fun a k y q => by have := wc a k y; omega), c.2.2.2.1.fr' f (fun k y => by have := wc _ k y; omega), ⟨e7, e8, (f.i _ _ (fun y => by have := wc _ _ y; omega)).trans c.2.2.2.2.1.2.2⟩, c.2.2.2.2.2.1.fr f (fun a k y q => by have := wc a k y; omega), c.2.2.2.2.2.2.1.fr f (fun a k y q => by have := wc a k y; unfold Wac at q; omega), (f.i _ _ (fun y => by have := wc _ _ y; omega)).trans c.2.2.2.2.2.2.2⟩
    have z1 := z.fr f (fun a k y => by have := wc a k y; omega)
    refine ⟨_, rfl, f.2.2.2.2.1, m1.1.1, ?_⟩
    refine md_table (d := 14) (B := tp.map Int32.toNatClampNeg) m1.1 hB.1 (by rw [List.length_map]; exact m1.2.1.1) (fun k v e => ⟨(bts ab.1 e).1, m1.2.1.2.2 k _ (bts ab.1 e).2⟩) (fun _ h2 g17 g18 g12 f2 => ⟨rfl, ?_⟩) (fun hb' => absurd hb' hb)
    have wm : ∀ a k, Wmf a k → (a = 17 ∧ (k = 0 ∨ (12 ≤ k ∧ k ≤ 22))) ∨ (22 ≤ a ∧ a ≤ 25) := fun a k y => y
    refine inv_fin (f.2.2.2.2.1.trans sc) (by rw [f.2.2.1]; exact ct) c1 z1 (r.fr f) ⟨okt_nil, ab.up.2⟩ f2 (fun a k y => by have := wm a k y; omega) ⟨f2.md m1.1, mtp_nil g12, m1.2.2.1.fr f2 (fun a k y q => by have := wm a k y; omega), m1.2.2.2.1.fr' f2 (fun k y => by have := wm _ k y; omega), ⟨g17, g18, (f2.i _ _ (fun y => by have := wm _ _ y; omega)).trans m1.2.2.2.2.1.2.2⟩, m1.2.2.2.2.2.fr f2 (fun a k y q => by have := wm a k y; omega)⟩ (m2.fr f2 (fun a k y q => by have := wm a k y; omega)) (m3.fr ho f2 (fun a k y q => by have := wm a k y; unfold Wcac Wlt at q; omega))
  · have wc : ∀ a k, Wta a k → (8 ≤ a ∧ a ≤ 12) ∨ (a = 0 ∧ k = 1) ∨ (2 ≤ a ∧ a ≤ 5) ∨ (a = 13 ∧ k = 1) ∨ a = 14 := fun a k y => by unfold Wta Wtb Wtl Wtk Wcd at y; omega
    obtain ⟨m1, m2, m3⟩ := cls_md ho mc mw ma f (fun a k y => by have := wc a k y; omega)
    have est : h_i h1 2 6 = nI (t + 1) := by rw [hst, c.2.2.2.2.2.2.2, nI_1]
    have c1 : CIn h1 [] (tbl (tp.map Int32.toNatClampNeg)).2.2.2.2.1 (2 ^ (tbl (tp.map Int32.toNatClampNeg)).2.2.2.2.1.length - 1) (soF (tbl (tp.map Int32.toNatClampNeg)).2.2.2.2.2) 0 (-1) (tbl (tp.map Int32.toNatClampNeg)).2.2.2.1.length [] [] (t + 1) := ⟨f.ow c.1, ctp_nil e1, hg, hs, ⟨e7, e8, hS⟩, hw, ha, est⟩
    have z1 := z.frn (gs' := (tbl (tp.map Int32.toNatClampNeg)).2.2.2.2.1) (m' := 2 ^ (tbl (tp.map Int32.toNatClampNeg)).2.2.2.2.1.length - 1) f (fun a k y => by have := wc a k y; omega) (by omega) c.2.2.2.2.2.2.2 est
    have hu := unlD_okS hok
    refine ⟨_, rfl, f.2.2.2.2.1, m1.1.1, ?_⟩
    refine md_table (d := 14) (B := tp.map Int32.toNatClampNeg) m1.1 hB.1 (by rw [List.length_map]; exact m1.2.1.1) (fun k v e => ⟨(bts ab.1 e).1, m1.2.1.2.2 k _ (bts ab.1 e).2⟩) (fun hb' => absurd hb hb') (fun _ h2 _ g17 g18 g12 hg2 hs2 g5 g76 hw2 g25 g26 g70 f2 => ⟨rfl, ?_⟩)
    have wm : ∀ a k, Wmb a k → (a = 17 ∧ (k = 0 ∨ (4 ≤ k ∧ k ≤ 6) ∨ (12 ≤ k ∧ k ≤ 26) ∨ k = 70 ∨ k = 76)) ∨ (18 ≤ a ∧ a ≤ 25) := fun a k y => by unfold Wmb Wmf at y; omega
    exact inv_fin (f.2.2.2.2.1.trans sc) (by rw [f.2.2.1]; exact ct) c1 z1 (r.fr f) ⟨okt_nil, hu, True.intro, by decide, by have := hok.2.1; omega, by omega, Bd.short hu (by decide)⟩ f2 (fun a k y => by have := wm a k y; omega) ⟨f2.md m1.1, mtp_nil g12, hg2, hs2, ⟨g17, g18, g5⟩, mkp_nil g76⟩ hw2 (MCa.new f2 (fun a k y q => by have := wm a k y; omega) g25 g26 g70 m3.2.2.2)
