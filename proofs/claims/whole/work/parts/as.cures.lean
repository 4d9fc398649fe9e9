/-! the class's cures: how they are made; groups copied -/
def Ex (o f : Nat) (h h' : PH) : Prop := h_sc h' = h_sc h ∧ h_ct h ≤ h_ct h' ∧ (∀ x, x < h_ct h → x ≠ o → Same h h' x) ∧ h_sh h' o = h_sh h o ∧ ∀ k, k < f → h_r h' o k = h_r h o k
theorem Ex.rf (o f : Nat) (h : PH) : Ex o f h h := ⟨rfl, Nat.le_refl _, fun x _ _ => Same.rf h x, rfl, fun _ _ => rfl⟩
theorem Ex.tr {o f f' : Nat} {h h1 h2 : PH} (a : Ex o f h h1) (b : Ex o f' h1 h2) (hf : f ≤ f') : Ex o f h h2 := by
  obtain ⟨a1, a2, a3, a4, a5⟩ := a
  obtain ⟨b1, b2, b3, b4, b5⟩ := b
  exact ⟨b1.trans a1, Nat.le_trans a2 b2, fun x hx ho => (a3 x hx ho).tr (b3 x (by omega) ho), b4.trans a4, fun k hk => (b5 k (by omega)).trans (a5 k hk)⟩
theorem Ex.new {o f : Nat} {h : PH} {q : Nat × Nat} {m : Nat} (ho : o < h_ct h) : Ex o f h (h_new h q m) := ⟨rfl, Nat.le_succ _, fun _ hx _ => Same.new hx, (Same.new ho).1, fun k _ => congrFun (Same.new (q := q) (m := m) ho).2.2.2 k⟩
theorem Ex.wr {o f k : Nat} {h : PH} {v : Option Nat} (hk : f ≤ k) : Ex o f h (w_r h o k v) := ⟨rfl, Nat.le_refl _, fun _ _ ho => Same.wr ho, rfl, fun j hj => by rw [h_r_wr, if_neg (by omega)]⟩
theorem Ex.wi {o f x k : Nat} {h h1 : PH} {v : Int32} (a : Ex o f h h1) (hx : h_ct h ≤ x) : Ex o f h (w_i h1 x k v) := by
  obtain ⟨a1, a2, a3, a4, a5⟩ := a
  exact ⟨a1, a2, fun y hy ho => (a3 y hy ho).tr (Same.wi (by omega)), a4, a5⟩
theorem Ex.mk {o f n : Nat} {h : PH} {q : Nat × Nat} {L : List MkI} (ho : o < h_ct h) : Ex o f h (mkO (h_new h q n) (h_ct h) L) := by
  have s : ∀ x, x < h_ct h → Same h (mkO (h_new h q n) (h_ct h) L) x := fun x hx => (Same.new hx).tr (mkO_same (by omega) L _ (by show x < h_ct h + 1; omega))
  exact ⟨mkO_sc _ _ _, by rw [mkO_ct]; show h_ct h ≤ h_ct h + 1 + nA L; omega, fun x hx _ => s x hx, (s o ho).1, fun k _ => congrFun (s o ho).2.2.2 k⟩
theorem Ex.arr {o f m : Nat} {h : PH} {q : Nat × Nat} (ho : o < h_ct h) : Ex o f h (w_r (h_new h q m) o f (some (h_ct h))) ∧ h_r (w_r (h_new h q m) o f (some (h_ct h))) o f = some (h_ct h) ∧ h_sh (w_r (h_new h q m) o f (some (h_ct h))) (h_ct h) = some q ∧ h_ct (w_r (h_new h q m) o f (some (h_ct h))) = h_ct h + 1 ∧ h_sl (w_r (h_new h q m) o f (some (h_ct h))) = h_sl h + m := ⟨(Ex.new ho).tr (Ex.wr (Nat.le_refl _)) (Nat.le_refl _), by rw [h_r_wr, if_pos ⟨rfl, rfl⟩], sh_new_eq h q m, rfl, rfl⟩
theorem Ex.fld {o f k a q1 q2 : Nat} {h h' : PH} (e : Ex o f h h') (hk : k < f) (ha : a < h_ct h) (hao : a ≠ o) (hf : h_r h o k = some a ∧ h_sh h a = some (q1, q2)) : h_r h' o k = some a ∧ h_sh h' a = some (q1, q2) := ⟨(e.2.2.2.2 k hk).trans hf.1, ((e.2.2.1 a ha hao).1).trans hf.2⟩
theorem Ex.grs {o f b : Nat} {h h' : PH} (e : Ex o f h h') (hb : o < b) (hc : b + 5 < h_ct h) (hs : GrS h b) : GrS h' b := by
  obtain ⟨s0, s1, s2, s3, s4, s5⟩ := hs
  have sa : ∀ x, b ≤ x → x ≤ b + 5 → Same h h' x := fun x h1 h2 => e.2.2.1 x (by omega) (by omega)
  have r : ∀ k, h_r h' b k = h_r h b k := fun k => congrFun (sa b (by omega) (by omega)).2.2.2 k
  exact ⟨(sa b (by omega) (by omega)).1.trans s0, ⟨(r _).trans s1.1, (sa _ (by omega) (by omega)).1.trans s1.2⟩, ⟨(r _).trans s2.1, (sa _ (by omega) (by omega)).1.trans s2.2⟩, ⟨(r _).trans s3.1, (sa _ (by omega) (by omega)).1.trans s3.2⟩, ⟨(r _).trans s4.1, (sa _ (by omega) (by omega)).1.trans s4.2⟩, ⟨(r _).trans s5.1, (sa _ (by omega) (by omega)).1.trans s5.2⟩⟩
theorem Ex.tas {o f b : Nat} {h h' : PH} (e : Ex o f h h') (hb : o < b) (hs : TaS h b) : TaS h' b := by
  obtain ⟨s0, s1, s2, s3, s4, s5, s6, s7, s8, s9⟩ := hs
  have sa : ∀ x, b ≤ x → x ≤ b + 7 → Same h h' x := fun x h1 h2 => e.2.2.1 x (by omega) (by omega)
  have r : ∀ k, h_r h' b k = h_r h b k := fun k => congrFun (sa b (by omega) (by omega)).2.2.2 k
  have ct := e.2.1
  exact ⟨(sa b (by omega) (by omega)).1.trans s0, ⟨(r _).trans s1.1, (sa _ (by omega) (by omega)).1.trans s1.2⟩, ⟨(r _).trans s2.1, (sa _ (by omega) (by omega)).1.trans s2.2⟩, ⟨(r _).trans s3.1, (sa _ (by omega) (by omega)).1.trans s3.2⟩, ⟨(r _).trans s4.1, (sa _ (by omega) (by omega)).1.trans s4.2⟩, ⟨(r _).trans s5.1, (sa _ (by omega) (by omega)).1.trans s5.2⟩, ⟨(r _).trans s6.1, (sa _ (by omega) (by omega)).1.trans s6.2⟩, ⟨(r _).trans s7.1, (sa _ (by omega) (by omega)).1.trans s7.2⟩, s8, by omega⟩
/-- an object of groups, one of tails, just made -/
theorem GrS_new {h : PH} : GrS (mkO (h_new h (0, 3) (fN 3)) (h_ct h) L_Gr_init) (h_ct h) := by
  have a0 := mkO_arr [] 0 (4, 14) [(1, .inl (1, 14)), (2, .inl (1, 14)), (7, .inl (1, 12)), (8, .inl (1, 12))] (h_new h (0, 3) (fN 3)) (o := h_ct h) (Nat.lt_succ_self _) (by decide)
  have a1 := mkO_arr [(0, .inl (4, 14))] 1 (1, 14) [(2, .inl (1, 14)), (7, .inl (1, 12)), (8, .inl (1, 12))] (h_new h (0, 3) (fN 3)) (o := h_ct h) (Nat.lt_succ_self _) (by decide)
  have a2 := mkO_arr [(0, .inl (4, 14)), (1, .inl (1, 14))] 2 (1, 14) [(7, .inl (1, 12)), (8, .inl (1, 12))] (h_new h (0, 3) (fN 3)) (o := h_ct h) (Nat.lt_succ_self _) (by decide)
  have a3 := mkO_arr [(0, .inl (4, 14)), (1, .inl (1, 14)), (2, .inl (1, 14))] 7 (1, 12) [(8, .inl (1, 12))] (h_new h (0, 3) (fN 3)) (o := h_ct h) (Nat.lt_succ_self _) (by decide)
  have a4 := mkO_arr [(0, .inl (4, 14)), (1, .inl (1, 14)), (2, .inl (1, 14)), (7, .inl (1, 12))] 8 (1, 12) [] (h_new h (0, 3) (fN 3)) (o := h_ct h) (Nat.lt_succ_self _) (by decide)
  exact ⟨(sh_mkO (Nat.lt_succ_self _)).trans (sh_new_eq _ _ _), ⟨a0.1, a0.2.1⟩, ⟨a1.1, a1.2.1⟩, ⟨a2.1, a2.2.1⟩, ⟨a3.1, a3.2.1⟩, ⟨a4.1, a4.2.1⟩⟩
theorem TaS_new {h : PH} (hc : 63 ≤ h_ct h) : TaS (mkO (h_new h (0, 6) (fN 6)) (h_ct h) L_Ta_init) (h_ct h) := by
  have a0 := mkO_arr [] 0 (4, 98) [(1, .inl (1, 98)), (2, .inl (1, 98)), (4, .inl (1, 100)), (6, .inr (-1)), (8, .inr (-1)), (9, .inl (1, 98)), (10, .inl (1, 1372)), (11, .inl (1, 1372))] (h_new h (0, 6) (fN 6)) (o := h_ct h) (Nat.lt_succ_self _) (by decide)
  have a1 := mkO_arr [(0, .inl (4, 98))] 1 (1, 98) [(2, .inl (1, 98)), (4, .inl (1, 100)), (6, .inr (-1)), (8, .inr (-1)), (9, .inl (1, 98)), (10, .inl (1, 1372)), (11, .inl (1, 1372))] (h_new h (0, 6) (fN 6)) (o := h_ct h) (Nat.lt_succ_self _) (by decide)
  have a2 := mkO_arr [(0, .inl (4, 98)), (1, .inl (1, 98))] 2 (1, 98) [(4, .inl (1, 100)), (6, .inr (-1)), (8, .inr (-1)), (9, .inl (1, 98)), (10, .inl (1, 1372)), (11, .inl (1, 1372))] (h_new h (0, 6) (fN 6)) (o := h_ct h) (Nat.lt_succ_self _) (by decide)
  have a4 := mkO_arr [(0, .inl (4, 98)), (1, .inl (1, 98)), (2, .inl (1, 98))] 4 (1, 100) [(6, .inr (-1)), (8, .inr (-1)), (9, .inl (1, 98)), (10, .inl (1, 1372)), (11, .inl (1, 1372))] (h_new h (0, 6) (fN 6)) (o := h_ct h) (Nat.lt_succ_self _) (by decide)
  have a9 := mkO_arr [(0, .inl (4, 98)), (1, .inl (1, 98)), (2, .inl (1, 98)), (4, .inl (1, 100)), (6, .inr (-1)), (8, .inr (-1))] 9 (1, 98) [(10, .inl (1, 1372)), (11, .inl (1, 1372))] (h_new h (0, 6) (fN 6)) (o := h_ct h) (Nat.lt_succ_self _) (by decide)
  have a10 := mkO_arr [(0, .inl (4, 98)), (1, .inl (1, 98)), (2, .inl (1, 98)), (4, .inl (1, 100)), (6, .inr (-1)), (8, .inr (-1)), (9, .inl (1, 98))] 10 (1, 1372) [(11, .inl (1, 1372))] (h_new h (0, 6) (fN 6)) (o := h_ct h) (Nat.lt_succ_self _) (by decide)
  have a11 := mkO_arr [(0, .inl (4, 98)), (1, .inl (1, 98)), (2, .inl (1, 98)), (4, .inl (1, 100)), (6, .inr (-1)), (8, .inr (-1)), (9, .inl (1, 98)), (10, .inl (1, 1372))] 11 (1, 1372) [] (h_new h (0, 6) (fN 6)) (o := h_ct h) (Nat.lt_succ_self _) (by decide)
  refine ⟨(sh_mkO (Nat.lt_succ_self _)).trans (sh_new_eq _ _ _), ⟨a0.1, a0.2.1⟩, ⟨a1.1, a1.2.1⟩, ⟨a2.1, a2.2.1⟩, ⟨a4.1, a4.2.1⟩, ⟨a9.1, a9.2.1⟩, ⟨a10.1, a10.2.1⟩, ⟨a11.1, a11.2.1⟩, hc, ?_⟩
  have hct : h_ct (mkO (h_new h (0, 6) (fN 6)) (h_ct h) L_Ta_init) = h_ct h + 1 + 7 := mkO_ct _ _ _
  omega
def CuS (h : PH) (c : Nat) : Prop := h_sh h c = some (0, 2) ∧ (h_r h c 0 = some (c + 1) ∧ GrS h (c + 1)) ∧ (h_r h c 1 = some (c + 7) ∧ TaS h (c + 7)) ∧ (h_r h c 2 = some (c + 15) ∧ h_sh h (c + 15) = some (1, 3)) ∧ (h_r h c 3 = some (c + 16) ∧ h_sh h (c + 16) = some (1, 3)) ∧ (h_r h c 4 = some (c + 17) ∧ h_sh h (c + 17) = some (1, 14)) ∧ (h_r h c 7 = some (c + 18) ∧ h_sh h (c + 18) = some (1, 14)) ∧ (h_r h c 8 = some (c + 19) ∧ h_sh h (c + 19) = some (1, 1024)) ∧ (h_r h c 9 = some (c + 20) ∧ h_sh h (c + 20) = some (1, 1024)) ∧ 63 ≤ c ∧ c + 20 < h_ct h
theorem GrS.gw {W : Nat → Nat → Prop} {h h' : PH} {b : Nat} (hf : Gw W h h') (hb : b + 5 < h_ct h) (hr : GrS h b) : GrS h' b := by
  obtain ⟨a0, a1, a2, a3, a4, a5⟩ := hr
  have hs : ∀ c, c < h_ct h → h_sh h' c = h_sh h c := hf.2.2.2.2.1
  exact ⟨(hs _ (by omega)).trans a0, ⟨hf.rs (by omega) a1.1, (hs _ (by omega)).trans a1.2⟩, ⟨hf.rs (by omega) a2.1, (hs _ (by omega)).trans a2.2⟩, ⟨hf.rs (by omega) a3.1, (hs _ (by omega)).trans a3.2⟩, ⟨hf.rs (by omega) a4.1, (hs _ (by omega)).trans a4.2⟩, ⟨hf.rs (by omega) a5.1, (hs _ (by omega)).trans a5.2⟩⟩
theorem CuS.gw {W : Nat → Nat → Prop} {h h' : PH} {c : Nat} (hf : Gw W h h') (hr : CuS h c) : CuS h' c := by
  obtain ⟨a0, a1, a2, a3, a4, a5, a6, a7, a8, a9, a10⟩ := hr
  have hs : ∀ c, c < h_ct h → h_sh h' c = h_sh h c := hf.2.2.2.2.1
  have ct := hf.2.1
  exact ⟨(hs _ (by omega)).trans a0, ⟨hf.rs (by omega) a1.1, a1.2.gw hf (by omega)⟩, ⟨hf.rs (by omega) a2.1, a2.2.gw hf⟩, ⟨hf.rs (by omega) a3.1, (hs _ (by omega)).trans a3.2⟩, ⟨hf.rs (by omega) a4.1, (hs _ (by omega)).trans a4.2⟩, ⟨hf.rs (by omega) a5.1, (hs _ (by omega)).trans a5.2⟩, ⟨hf.rs (by omega) a6.1, (hs _ (by omega)).trans a6.2⟩, ⟨hf.rs (by omega) a7.1, (hs _ (by omega)).trans a7.2⟩, ⟨hf.rs (by omega) a8.1, (hs _ (by omega)).trans a8.2⟩, a9, by omega⟩
theorem CuS.fr {W : Nat → Nat → Prop} {h h' : PH} {c : Nat} (hf : Fr W h h') (hr : CuS h c) : CuS h' c := hr.gw hf.gw
theorem sl12 {x y z a b n : Nat} (h1 : x = y + a + b) (h2 : y + (a + b + n) = z) : x + n = z := by omega
theorem sl00 {x y w a b c d e n : Nat} (h1 : x = y + b + c) (h2 : y = w + a) : x + (d + e + n) = w + (a + b + c + d + e + n) := by omega
theorem i_Cu_init {d : Nat} {h : PH} {Q : PQ} (hc : 63 ≤ h_ct h) (k : ∀ h', (∀ x, x < h_ct h → Same h h' x) → CuS h' (h_ct h) → (∀ j, j < 3 → h_i h' (h_ct h + 16) j = -1) → h_ct h' = h_ct h + (lzn 12).1 → h_sl h' = h_sl h + (lzn 12).2 → h_sc h' = h_sc h → Q none h') : wpm (d + 2) 25 [.ref (h_ct h)] (h_new h (0, 2) (fN 2)) Q := by
  generalize hcc : h_ct h = c at k hc ⊢
  -- the last array
  have s77 : ∀ g, h_sc g = h_sc h → (∀ x, x < c → Same h g x) → h_sh g c = some (0, 2) → (h_r g c 0 = some (c + 1) ∧ GrS g (c + 1)) → (h_r g c 1 = some (c + 7) ∧ TaS g (c + 7)) → (h_r g c 2 = some (c + 15) ∧ h_sh g (c + 15) = some (1, 3)) → (h_r g c 3 = some (c + 16) ∧ h_sh g (c + 16) = some (1, 3)) → (h_r g c 4 = some (c + 17) ∧ h_sh g (c + 17) = some (1, 14)) → (h_r g c 7 = some (c + 18) ∧ h_sh g (c + 18) = some (1, 14)) → (h_r g c 8 = some (c + 19) ∧ h_sh g (c + 19) = some (1, 1024)) → (∀ j, j < 3 → h_i g (c + 16) j = -1) → h_ct g = c + 20 → h_sl g + 1024 = h_sl h + (lzn 12).2 → wpx (d + 1) P_Cu_init 77 [.ref c] [] g Q := by
    intro g sc sa sh f0 f1 f2 f3 f4 f7 f8 st ct sl
    have e := Ex.arr (o := c) (f := 9) (q := (1, 1024)) (m := 1024) (h := g) (by omega)
    refine B_Cu_init_77 ((Same.new (by omega)).1.trans sh) ?_
    generalize w_r (h_new g (1, 1024) 1024) c 9 (some (h_ct g)) = g' at e ⊢
    obtain ⟨E, e1, e2, e3, e4⟩ := e
    rw [ct] at e1 e2 e3
    refine k g' (fun x hx => (sa x hx).tr (E.2.2.1 x (by omega) (by omega))) ⟨E.2.2.2.1.trans sh, ⟨(E.2.2.2.2 0 (by omega)).trans f0.1, E.grs (by omega) (by omega) f0.2⟩, ⟨(E.2.2.2.2 1 (by omega)).trans f1.1, E.tas (by omega) f1.2⟩, E.fld (by omega) (by omega) (by omega) f2, E.fld (by omega) (by omega) (by omega) f3, E.fld (by omega) (by omega) (by omega) f4, E.fld (by omega) (by omega) (by omega) f7, E.fld (by omega) (by omega) (by omega) f8, ⟨e1, e2⟩, hc, by omega⟩ (fun j hj => ?_) ?_ (by omega) (E.1.trans sc)
    · rw [(E.2.2.1 (c + 16) (by omega) (by omega)).2.1]
      exact st j hj
    · rw [e3]
      rfl
  have s52 : ∀ g, h_sc g = h_sc h → (∀ x, x < c → Same h g x) → h_sh g c = some (0, 2) → (h_r g c 0 = some (c + 1) ∧ GrS g (c + 1)) → (h_r g c 1 = some (c + 7) ∧ TaS g (c + 7)) → (h_r g c 2 = some (c + 15) ∧ h_sh g (c + 15) = some (1, 3)) → (h_r g c 3 = some (c + 16) ∧ h_sh g (c + 16) = some (1, 3)) → (∀ j, j < 3 → h_i g (c + 16) j = -1) → h_ct g = c + 17 → h_sl g + 2076 = h_sl h + (lzn 12).2 → wpx (d + 1) P_Cu_init 52 [.ref c] [] g Q := by
    intro g sc sa sh f0 f1 f2 f3 st ct sl
    have e := Ex.arr (o := c) (f := 4) (q := (1, 14)) (m := 14) (h := g) (by omega)
    have n1 : h_sh (h_new g (1, 14) 14) c = some (0, 2) := (Same.new (by omega)).1.trans sh
    refine B_Cu_init_52 n1 ?_ ?_ ?_
    · exact (sh_new_lt (by show c < h_ct g + 1; omega)).trans n1
    · exact (sh_new_lt (by show c < h_ct g + 1 + 1; omega)).trans ((sh_new_lt (h := w_r (h_new g (1, 14) 14) c 4 (some (h_ct g))) (q := (1, 14)) (m := 14) (by show c < h_ct g + 1; omega)).trans n1)
    generalize w_r (h_new g (1, 14) 14) c 4 (some (h_ct g)) = g1 at e ⊢
    obtain ⟨E1, p1, p2, p3, p4⟩ := e
    have e := Ex.arr (o := c) (f := 7) (q := (1, 14)) (m := 14) (h := g1) (by omega)
    generalize w_r (h_new g1 (1, 14) 14) c 7 (some (h_ct g1)) = g2 at e ⊢
    obtain ⟨E2, q1, q2, q3, q4⟩ := e
    have e := Ex.arr (o := c) (f := 8) (q := (1, 1024)) (m := 1024) (h := g2) (by omega)
    generalize w_r (h_new g2 (1, 1024) 1024) c 8 (some (h_ct g2)) = g3 at e ⊢
    obtain ⟨E3, r1, r2, r3, r4⟩ := e
    have E12 := E1.tr E2 (by omega)
    have E := E12.tr E3 (by omega)
    have E23 := E2.tr E3 (by omega)
    rw [ct] at p1 p2 p3
    rw [p3] at q1 q2 q3
    rw [q3] at r1 r2 r3
    refine s77 g3 (E.1.trans sc) (fun x hx => (sa x hx).tr (E.2.2.1 x (by omega) (by omega))) (E.2.2.2.1.trans sh) ⟨(E.2.2.2.2 0 (by omega)).trans f0.1, E.grs (by omega) (by omega) f0.2⟩ ⟨(E.2.2.2.2 1 (by omega)).trans f1.1, E.tas (by omega) f1.2⟩ (E.fld (by omega) (by omega) (by omega) f2) (E.fld (by omega) (by omega) (by omega) f3) (E23.fld (by omega) (by omega) (by omega) ⟨p1, p2⟩) (E3.fld (by omega) (by omega) (by omega) ⟨q1, q2⟩) ⟨r1, r2⟩ (fun j hj => ?_) (by omega) (by omega)
    rw [(E.2.2.1 (c + 16) (by omega) (by omega)).2.1]
    exact st j hj
  have s23 : ∀ g, h_sc g = h_sc h → (∀ x, x < c → Same h g x) → h_sh g c = some (0, 2) → (h_r g c 0 = some (c + 1) ∧ GrS g (c + 1)) → TaS g (c + 7) → h_ct g = c + 15 → h_sl g + 2082 = h_sl h + (lzn 12).2 → wpx (d + 1) P_Cu_init 23 [.ref c] [.ref (c + 7), .ref c] g Q := by
    intro g sc sa sh f0 f1 ct sl
    have E0 : Ex c 1 g (w_r g c 1 (some (c + 7))) := Ex.wr (Nat.le_refl _)
    have e0 : h_r (w_r g c 1 (some (c + 7))) c 1 = some (c + 7) := by rw [h_r_wr, if_pos ⟨rfl, rfl⟩]
    have ct0 : h_ct (w_r g c 1 (some (c + 7))) = c + 15 := ct
    have sl0 : h_sl (w_r g c 1 (some (c + 7))) + 2082 = h_sl h + (lzn 12).2 := sl
    have n0 : h_sh (w_r g c 1 (some (c + 7))) c = some (0, 2) := sh
    refine B_Cu_init_23 (n0 := 3) sh ?_ ?_ (by unfold vp_in; decide) (by unfold vp_in; decide) (by unfold vp_in; decide) ?_ ?_ <;> generalize w_r g c 1 (some (c + 7)) = g0 at E0 e0 ct0 sl0 n0 ⊢
    · exact (Same.new (by omega)).1.trans n0
    · exact sh_new_eq _ _ _
    · exact (sh_new_lt (by show c < h_ct g0 + 1; omega)).trans ((sh_new_lt (h := g0) (q := (1, 3)) (m := 3) (by omega)).trans n0)
    have e := Ex.arr (o := c) (f := 2) (q := (1, 3)) (m := 3) (h := g0) (by omega)
    have E2 : ∀ g1 : PH, c < h_ct g1 → Ex c 3 g1 (w_r (w_i (w_i (w_i (h_new g1 (1, 3) 3) (h_ct g1) 0 (-1)) (h_ct g1) 1 (-1)) (h_ct g1) 2 (-1)) c 3 (some (h_ct g1))) := fun g1 hg1 => ((((Ex.new hg1).wi (Nat.le_refl _)).wi (Nat.le_refl _)).wi (Nat.le_refl _)).tr (Ex.wr (Nat.le_refl _)) (Nat.le_refl _)
    generalize w_r (h_new g0 (1, 3) 3) c 2 (some (h_ct g0)) = g1 at e ⊢
    obtain ⟨E1, p1, p2, p3, p4⟩ := e
    have E3 := E2 g1 (by omega)
    have q1 : h_r (w_r (w_i (w_i (w_i (h_new g1 (1, 3) 3) (h_ct g1) 0 (-1)) (h_ct g1) 1 (-1)) (h_ct g1) 2 (-1)) c 3 (some (h_ct g1))) c 3 = some (h_ct g1) := by rw [h_r_wr, if_pos ⟨rfl, rfl⟩]
    have q2 : h_sh (w_r (w_i (w_i (w_i (h_new g1 (1, 3) 3) (h_ct g1) 0 (-1)) (h_ct g1) 1 (-1)) (h_ct g1) 2 (-1)) c 3 (some (h_ct g1))) (h_ct g1) = some (1, 3) := sh_new_eq g1 (1, 3) 3
    have q3 : h_ct (w_r (w_i (w_i (w_i (h_new g1 (1, 3) 3) (h_ct g1) 0 (-1)) (h_ct g1) 1 (-1)) (h_ct g1) 2 (-1)) c 3 (some (h_ct g1))) = h_ct g1 + 1 := rfl
    have q4 : h_sl (w_r (w_i (w_i (w_i (h_new g1 (1, 3) 3) (h_ct g1) 0 (-1)) (h_ct g1) 1 (-1)) (h_ct g1) 2 (-1)) c 3 (some (h_ct g1))) = h_sl g1 + 3 := rfl
    have q5 : ∀ j, j < 3 → h_i (w_r (w_i (w_i (w_i (h_new g1 (1, 3) 3) (h_ct g1) 0 (-1)) (h_ct g1) 1 (-1)) (h_ct g1) 2 (-1)) c 3 (some (h_ct g1))) (h_ct g1) j = -1 := fun j hj => by
      show h_i (w_i (w_i (w_i (h_new g1 (1, 3) 3) (h_ct g1) 0 (-1)) (h_ct g1) 1 (-1)) (h_ct g1) 2 (-1)) (h_ct g1) j = -1
      rcases (show j = 0 ∨ j = 1 ∨ j = 2 by omega) with w | w | w <;> subst w
      · rw [wi_ne _ _ (by omega), wi_ne _ _ (by omega), wi_eq]
      · rw [wi_ne _ _ (by omega), wi_eq]
      · rw [wi_eq]
    generalize w_r (w_i (w_i (w_i (h_new g1 (1, 3) 3) (h_ct g1) 0 (-1)) (h_ct g1) 1 (-1)) (h_ct g1) 2 (-1)) c 3 (some (h_ct g1)) = g2 at E3 q1 q2 q3 q4 q5 ⊢
    have E13 := E1.tr E3 (by omega)
    have E := E0.tr E13 (by omega)
    rw [ct0] at p1 p2 p3
    rw [p3] at q1 q2 q3 q5
    refine s52 g2 (E.1.trans sc) (fun x hx => (sa x hx).tr (E.2.2.1 x (by omega) (by omega))) (E.2.2.2.1.trans sh) ⟨(E.2.2.2.2 0 (by omega)).trans f0.1, E.grs (by omega) (by omega) f0.2⟩ ⟨(E13.2.2.2.2 1 (by omega)).trans e0, E.tas (by omega) f1⟩ (E3.fld (by omega) (by omega) (by omega) ⟨p1, p2⟩) ⟨q1, q2⟩ q5 (by omega) (by omega)
  have s12 : ∀ g, h_sc g = h_sc h → (∀ x, x < c → Same h g x) → h_sh g c = some (0, 2) → GrS g (c + 1) → h_ct g = c + 7 → h_sl g + (fN 6 + nS L_Ta_init + 2082) = h_sl h + (lzn 12).2 → wpx (d + 1) P_Cu_init 12 [.ref c] [.ref (c + 1), .ref c] g Q := by
    intro g sc sa sh f0 ct sl
    have E0 : Ex c 0 g (w_r g c 0 (some (c + 1))) := Ex.wr (Nat.le_refl _)
    have e0 : h_r (w_r g c 0 (some (c + 1))) c 0 = some (c + 1) := by rw [h_r_wr, if_pos ⟨rfl, rfl⟩]
    have ct0 : h_ct (w_r g c 0 (some (c + 1))) = c + 7 := ct
    have sl0 : h_sl (w_r g c 0 (some (c + 1))) + (fN 6 + nS L_Ta_init + 2082) = h_sl h + (lzn 12).2 := sl
    refine B_Cu_init_12 sh ?_
    generalize w_r g c 0 (some (c + 1)) = g0 at E0 e0 ct0 sl0 ⊢
    refine i_Ta_init (Nat.lt_succ_self _) (sh_new_eq _ _ _) ?_
    have E1 : Ex c 1 g0 (mkO (h_new g0 (0, 6) (fN 6)) (h_ct g0) L_Ta_init) := Ex.mk (by omega)
    have T1 := TaS_new (h := g0) (by omega)
    have c1 : h_ct (mkO (h_new g0 (0, 6) (fN 6)) (h_ct g0) L_Ta_init) = h_ct g0 + 1 + 7 := mkO_ct _ _ _
    have l1 : h_sl (mkO (h_new g0 (0, 6) (fN 6)) (h_ct g0) L_Ta_init) = h_sl g0 + fN 6 + nS L_Ta_init := mkO_sl _ _ _
    show wpx (d + 1) P_Cu_init 23 [.ref c] [.ref (h_ct g0), .ref c] (mkO (h_new g0 (0, 6) (fN 6)) (h_ct g0) L_Ta_init) Q
    generalize mkO (h_new g0 (0, 6) (fN 6)) (h_ct g0) L_Ta_init = g1 at E1 T1 c1 l1 ⊢
    rw [ct0] at T1 c1 ⊢
    have E := E0.tr E1 (by omega)
    exact s23 g1 (E.1.trans sc) (fun x hx => (sa x hx).tr (E.2.2.1 x (by omega) (by omega))) (E.2.2.2.1.trans sh) ⟨(E1.2.2.2.2 0 (by omega)).trans e0, E.grs (by omega) (by omega) f0⟩ T1 (by omega) (sl12 l1 sl0)
  refine wpm_in P_Cu_init rfl (by decide) (by show ¬ 1 < 1; decide) (B_Cu_init_0 ?_)
  have sh0 : h_sh (h_new h (0, 2) (fN 2)) c = some (0, 2) := by rw [← hcc]; exact sh_new_eq _ _ _
  have sa0 : ∀ x, x < c → Same h (h_new h (0, 2) (fN 2)) x := fun x hx => Same.new (by omega)
  have ct0 : h_ct (h_new h (0, 2) (fN 2)) = c + 1 := by rw [← hcc]; rfl
  have sl0 : h_sl (h_new h (0, 2) (fN 2)) = h_sl h + fN 2 := rfl
  have sc0 : h_sc (h_new h (0, 2) (fN 2)) = h_sc h := rfl
  generalize h_new h (0, 2) (fN 2) = g0 at sh0 sa0 ct0 sl0 sc0 ⊢
  refine i_Gr_init (Nat.lt_succ_self _) (sh_new_eq _ _ _) ?_
  have E1 : Ex c 0 g0 (mkO (h_new g0 (0, 3) (fN 3)) (h_ct g0) L_Gr_init) := Ex.mk (by omega)
  have G1 := GrS_new (h := g0)
  have c1 : h_ct (mkO (h_new g0 (0, 3) (fN 3)) (h_ct g0) L_Gr_init) = h_ct g0 + 1 + 5 := mkO_ct _ _ _
  have l1 : h_sl (mkO (h_new g0 (0, 3) (fN 3)) (h_ct g0) L_Gr_init) = h_sl g0 + fN 3 + nS L_Gr_init := mkO_sl _ _ _
  show wpx (d + 1) P_Cu_init 12 [.ref c] [.ref (h_ct g0), .ref c] (mkO (h_new g0 (0, 3) (fN 3)) (h_ct g0) L_Gr_init) Q
  generalize mkO (h_new g0 (0, 3) (fN 3)) (h_ct g0) L_Gr_init = g1 at E1 G1 c1 l1 ⊢
  rw [ct0] at G1 c1 ⊢
  refine s12 g1 (E1.1.trans sc0) (fun x hx => (sa0 x hx).tr (E1.2.2.1 x (by omega) (by omega))) (E1.2.2.2.1.trans sh0) G1 (by omega) ?_
  exact sl00 l1 sl0
theorem ow_theCures {d : Nat} {h : PH} {Q : PQ} (hO : OwS h) (hc : 63 ≤ h_ct h) (hz : ∀ c, h_r h 0 12 = some c → CuS h c) (k : ∀ c h', Gw (fun _ _ => False) h h' → h_r h' 0 12 = some c → CuS h' c → (h_r h 0 12 = some c ∨ (h_ct h ≤ c ∧ ∀ j, j < 3 → h_i h' (c + 16) j = -1)) → (h_r h 0 12 = none → h_ct h ≤ c) → Q (some (.ref c)) h') : wpm (d + 3) 157 [.ref 0] h Q := by
  refine wpm_in P_Ow_theCures rfl (by decide) (by show ¬ 1 < 1; decide) ?_
  refine B_Ow_theCures_0 hO.1 (fun a ha => B_Ow_theCures_18 hO.1 ha (k a h (Fr.rf _ _).gw ha (hz a ha) (Or.inl ha) (fun e => by rw [e] at ha; cases ha))) (fun hn => B_Ow_theCures_7 (i_Cu_init hc (fun g sa cs st ct sl sc => ?_)))
  have hG := gw_made (f := 12) (o := h_ct h) (by decide) (by decide) hn (by omega) ct sl sc sa
  have hs0 : h_sh g 0 = some (0, 11) := (sa 0 (by omega)).1.trans hO.1
  have wr : ∀ x k, x ≠ 0 → h_r (w_r g 0 12 (some (h_ct h))) x k = h_r g x k := fun x k hx => by rw [h_r_wr, if_neg (fun z => hx z.1)]
  have r0 : h_r (w_r g 0 12 (some (h_ct h))) 0 12 = some (h_ct h) := by rw [h_r_wr, if_pos ⟨rfl, rfl⟩]
  have E : Ex 0 0 g (w_r g 0 12 (some (h_ct h))) := Ex.wr (Nat.zero_le _)
  refine B_Ow_theCures_15 hs0 (B_Ow_theCures_18 (show h_sh (w_r _ _ _ _) 0 = _ from hs0) r0 (k _ _ hG r0 ?_ (Or.inr ⟨Nat.le_refl _, fun j hj => ?_⟩) (fun _ => Nat.le_refl _)))
  · obtain ⟨a0, a1, a2, a3, a4, a5, a6, a7, a8, a9, a10⟩ := cs
    exact ⟨a0, ⟨(wr _ _ (by omega)).trans a1.1, E.grs (by omega) (by omega) a1.2⟩, ⟨(wr _ _ (by omega)).trans a2.1, E.tas (by omega) a2.2⟩, ⟨(wr _ _ (by omega)).trans a3.1, a3.2⟩, ⟨(wr _ _ (by omega)).trans a4.1, a4.2⟩, ⟨(wr _ _ (by omega)).trans a5.1, a5.2⟩, ⟨(wr _ _ (by omega)).trans a6.1, a6.2⟩, ⟨(wr _ _ (by omega)).trans a7.1, a7.2⟩, ⟨(wr _ _ (by omega)).trans a8.1, a8.2⟩, a9, a10⟩
  · exact st j hj
theorem gr_copyFrom {d : Nat} {h : PH} {Q : PQ} {o : Nat} {gs : List (List Nat)} {m : Nat} (hG : GrS h 2) (hT : GrS h o) (ho : 8 ≤ o) (hg : CGr h 2 gs m) (k : ∀ h', CGr h' o gs m → Fr (fun x _ => o ≤ x ∧ x ≤ o + 2) h h' → Q none h') : wpm (d + 1) 37 [.ref o, .ref 2] h Q := by
  refine wpm_in P_Gr_copyFrom rfl (by decide) (by show ¬ 2 < 2; decide) ?_
  have h14 := hg.1.1
  have e3 : h_i (w_i h o 3 (h_i h 2 3)) o 3 = nI gs.length := by rw [wi_eq]; exact hg.2.1
  have f0 : Fr (fun x _ => o ≤ x ∧ x ≤ o + 2) h (w_i h o 3 (h_i h 2 3)) := Fr.wi _ _ ⟨by omega, by omega⟩
  refine B_Gr_copyFrom_0 hG.1 hT.1 hG.2.1.1 hT.2.1.1 hG.2.1.2 hT.2.1.2 (by rw [e3]; exact c00 (by omega) (by omega) _ (by omega)) hG.2.2.1.1 hT.2.2.1.1 hG.2.2.1.2 hT.2.2.1.2 (by rw [wrl_i, e3]; exact c00 (by omega) (by omega) _ (by omega)) ?_
  rw [wrl_i, e3, nI_clamp (by omega)]
  generalize w_i h o 3 (h_i h 2 3) = g at e3 f0 ⊢
  have f1 : Fr (fun x _ => o ≤ x ∧ x ≤ o + 2) g (w_ri (w_rl g (o + 1) (va_cpy (h_l g (2 + 1)) (h_l g (o + 1)) 0 0 gs.length)) (o + 2) (va_cpy (h_i g (2 + 2)) (h_i g (o + 2)) 0 0 gs.length)) := (Fr.wrl _ _ (fun _ => ⟨by omega, by omega⟩)).tr (Fr.wri _ _ (fun _ => ⟨by omega, by omega⟩))
  have g1 : ∀ j, j < gs.length → h_l (w_ri (w_rl g (o + 1) (va_cpy (h_l g (2 + 1)) (h_l g (o + 1)) 0 0 gs.length)) (o + 2) (va_cpy (h_i g (2 + 2)) (h_i g (o + 2)) 0 0 gs.length)) (o + 1) j = h_l g 3 j := fun j hj => by
    rw [wri_l, h_l_wrl, if_pos rfl, cpyL hj]
  have g2 : ∀ j, j < gs.length → h_i (w_ri (w_rl g (o + 1) (va_cpy (h_l g (2 + 1)) (h_l g (o + 1)) 0 0 gs.length)) (o + 2) (va_cpy (h_i g (2 + 2)) (h_i g (o + 2)) 0 0 gs.length)) (o + 2) j = h_i g 4 j := fun j hj => by
    rw [wri_eq, cpyI hj]
  have g3 : ∀ j, h_i (w_ri (w_rl g (o + 1) (va_cpy (h_l g (2 + 1)) (h_l g (o + 1)) 0 0 gs.length)) (o + 2) (va_cpy (h_i g (2 + 2)) (h_i g (o + 2)) 0 0 gs.length)) o j = h_i g o j := fun j => by
    rw [wri_ne _ _ (by omega), wrl_i]
  generalize w_ri (w_rl g (o + 1) (va_cpy (h_l g (2 + 1)) (h_l g (o + 1)) 0 0 gs.length)) (o + 2) (va_cpy (h_i g (2 + 2)) (h_i g (o + 2)) 0 0 gs.length) = g' at f1 g1 g2 g3 ⊢
  have F := f0.tr f1
  refine B_Gr_copyFrom_42 (F.gr hG).1 (F.gr hT).1 (k _ ⟨hg.1, ?_, ?_, fun j l hj => ⟨?_, ?_⟩⟩ (F.tr ((Fr.wi _ _ ⟨by omega, by omega⟩).tr (Fr.wi _ _ ⟨by omega, by omega⟩))))
  · rw [wi_ne _ _ (by omega), wi_ne _ _ (by omega), g3, e3]
  · rw [wi_ne _ _ (by omega), wi_eq, F.i 2 5 (by omega)]
    exact hg.2.2.1
  · have hlt := (List.getElem?_eq_some_iff.mp hj).1
    show h_l g' (o + 1) j = _
    rw [g1 j hlt, f0.l 3 j (by omega)]
    exact (hg.2.2.2 j l hj).1
  · have hlt := (List.getElem?_eq_some_iff.mp hj).1
    rw [wi_ne _ _ (by omega), wi_ne _ _ (by omega), g2 j hlt, f0.i 4 j (by omega)]
    exact (hg.2.2.2 j l hj).2
