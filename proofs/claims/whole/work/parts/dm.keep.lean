/-! what a lazily made object holds stays where its cells stay -/
def vh (h h' : PH) : PH := (h_sh h', h_i h, h_l h, h_r h', h_ct h', h_sl h', h_sc h')
theorem vh_fr {W : Nat → Nat → Prop} {h h' : PH} (e : ∀ x k, ¬ W x k → h_i h' x k = h_i h x k ∧ h_l h' x k = h_l h x k) : Fr W (vh h h') h' := ⟨rfl, rfl, rfl, rfl, rfl, e⟩
/-- these cells stay as they are -/
def Kp (R : Nat → Prop) (h h' : PH) : Prop := h_ct h ≤ h_ct h' ∧ ∀ x, R x → h_sh h' x = h_sh h x ∧ ∀ k, h_r h' x k = h_r h x k ∧ h_i h' x k = h_i h x k ∧ h_l h' x k = h_l h x k
theorem Kp.up {R R' : Nat → Prop} {h h' : PH} (K : Kp R h h') (hr : ∀ x, R' x → R x) : Kp R' h h' := ⟨K.1, fun x hx => K.2 x (hr x hx)⟩
theorem Kp.v {R : Nat → Prop} {h h' : PH} (K : Kp R h h') : Fr (fun x _ => ¬ R x) (vh h h') h' := vh_fr (fun x k z => by
  have := (K.2 x (Classical.not_not.mp z)).2 k
  exact this.2)
theorem TrS.kp {R : Nat → Prop} {h h' : PH} {b : Nat} (K : Kp R h h') (hR : ∀ x, b ≤ x → x ≤ b + 9 → R x) (hS : TrS h b) : TrS h' b := by
  have s : ∀ i, i ≤ 9 → h_sh h' (b + i) = h_sh h (b + i) := fun i hi => (K.2 _ (hR _ (by omega) (by omega))).1
  have r : ∀ k, h_r h' b k = h_r h b k := fun k => ((K.2 _ (hR b (by omega) (by omega))).2 k).1
  have ct := K.1
  obtain ⟨a0, a1, a2, a3, a4, a5, a6, a7, a8, a9, c1, c2⟩ := hS
  exact ⟨(s 0 (by omega)).trans a0, ⟨(r 0).trans a1.1, (s 1 (by omega)).trans a1.2⟩, ⟨(r 1).trans a2.1, (s 2 (by omega)).trans a2.2⟩, ⟨(r 2).trans a3.1, (s 3 (by omega)).trans a3.2⟩, ⟨(r 3).trans a4.1, (s 4 (by omega)).trans a4.2⟩, ⟨(r 4).trans a5.1, (s 5 (by omega)).trans a5.2⟩, ⟨(r 5).trans a6.1, (s 6 (by omega)).trans a6.2⟩, ⟨(r 6).trans a7.1, (s 7 (by omega)).trans a7.2⟩, ⟨(r 7).trans a8.1, (s 8 (by omega)).trans a8.2⟩, ⟨(r 8).trans a9.1, (s 9 (by omega)).trans a9.2⟩, c1, by omega⟩
theorem TaS.kp {R : Nat → Prop} {h h' : PH} {b : Nat} (K : Kp R h h') (hR : ∀ x, b ≤ x → x ≤ b + 7 → R x) (hS : TaS h b) : TaS h' b := by
  have s : ∀ i, i ≤ 7 → h_sh h' (b + i) = h_sh h (b + i) := fun i hi => (K.2 _ (hR _ (by omega) (by omega))).1
  have r : ∀ k, h_r h' b k = h_r h b k := fun k => ((K.2 _ (hR b (by omega) (by omega))).2 k).1
  have ct := K.1
  obtain ⟨a0, a1, a2, a3, a4, a5, a6, a7, c1, c2⟩ := hS
  exact ⟨(s 0 (by omega)).trans a0, ⟨(r 0).trans a1.1, (s 1 (by omega)).trans a1.2⟩, ⟨(r 1).trans a2.1, (s 2 (by omega)).trans a2.2⟩, ⟨(r 2).trans a3.1, (s 3 (by omega)).trans a3.2⟩, ⟨(r 4).trans a4.1, (s 4 (by omega)).trans a4.2⟩, ⟨(r 9).trans a5.1, (s 5 (by omega)).trans a5.2⟩, ⟨(r 10).trans a6.1, (s 6 (by omega)).trans a6.2⟩, ⟨(r 11).trans a7.1, (s 7 (by omega)).trans a7.2⟩, c1, by omega⟩
theorem TwS.kp {R : Nat → Prop} {h h' : PH} {b : Nat} (K : Kp R h h') (hR : ∀ x, b ≤ x → x ≤ b + 6 → R x) (hS : TwS h b) : TwS h' b := by
  have s : ∀ i, i ≤ 6 → h_sh h' (b + i) = h_sh h (b + i) := fun i hi => (K.2 _ (hR _ (by omega) (by omega))).1
  have r : ∀ k, h_r h' b k = h_r h b k := fun k => ((K.2 _ (hR b (by omega) (by omega))).2 k).1
  have ct := K.1
  obtain ⟨a0, a1, a2, a3, a4, a5, a6, c1, c2⟩ := hS
  exact ⟨(s 0 (by omega)).trans a0, ⟨(r 0).trans a1.1, (s 1 (by omega)).trans a1.2⟩, ⟨(r 1).trans a2.1, (s 2 (by omega)).trans a2.2⟩, ⟨(r 2).trans a3.1, (s 3 (by omega)).trans a3.2⟩, ⟨(r 3).trans a4.1, (s 4 (by omega)).trans a4.2⟩, ⟨(r 4).trans a5.1, (s 5 (by omega)).trans a5.2⟩, ⟨(r 9).trans a6.1, (s 6 (by omega)).trans a6.2⟩, c1, by omega⟩
theorem ReS.kp {R : Nat → Prop} {h h' : PH} {b : Nat} (K : Kp R h h') (hR : ∀ x, b ≤ x → x ≤ b + 3 → R x) (hS : ReS h b) : ReS h' b := by
  have s : ∀ i, i ≤ 3 → h_sh h' (b + i) = h_sh h (b + i) := fun i hi => (K.2 _ (hR _ (by omega) (by omega))).1
  have r : ∀ k, h_r h' b k = h_r h b k := fun k => ((K.2 _ (hR b (by omega) (by omega))).2 k).1
  have ct := K.1
  obtain ⟨a0, a1, a2, a3, c1, c2⟩ := hS
  exact ⟨(s 0 (by omega)).trans a0, ⟨(r 0).trans a1.1, (s 1 (by omega)).trans a1.2⟩, ⟨(r 2).trans a2.1, (s 2 (by omega)).trans a2.2⟩, ⟨(r 4).trans a3.1, (s 3 (by omega)).trans a3.2⟩, c1, by omega⟩
theorem SpS.kp {R : Nat → Prop} {h h' : PH} {b : Nat} (K : Kp R h h') (hR : ∀ x, b ≤ x → x ≤ b + 5 → R x) (hS : SpS h b) : SpS h' b := by
  have s : ∀ i, i ≤ 5 → h_sh h' (b + i) = h_sh h (b + i) := fun i hi => (K.2 _ (hR _ (by omega) (by omega))).1
  have r : ∀ k, h_r h' b k = h_r h b k := fun k => ((K.2 _ (hR b (by omega) (by omega))).2 k).1
  have ct := K.1
  obtain ⟨a0, a1, a2, a3, a4, a5, c1, c2⟩ := hS
  exact ⟨(s 0 (by omega)).trans a0, ⟨(r 0).trans a1.1, (s 1 (by omega)).trans a1.2⟩, ⟨(r 2).trans a2.1, (s 2 (by omega)).trans a2.2⟩, ⟨(r 3).trans a3.1, (s 3 (by omega)).trans a3.2⟩, ⟨(r 4).trans a4.1, (s 4 (by omega)).trans a4.2⟩, ⟨(r 6).trans a5.1, (s 5 (by omega)).trans a5.2⟩, c1, by omega⟩
theorem CuS.kp {R : Nat → Prop} {h h' : PH} {b : Nat} (K : Kp R h h') (hR : ∀ x, b ≤ x → x ≤ b + 20 → R x) (hS : CuS h b) : CuS h' b := by
  have s : ∀ i, i ≤ 20 → h_sh h' (b + i) = h_sh h (b + i) := fun i hi => (K.2 _ (hR _ (by omega) (by omega))).1
  have r : ∀ k, h_r h' b k = h_r h b k := fun k => ((K.2 _ (hR b (by omega) (by omega))).2 k).1
  have r1 : ∀ k, h_r h' (b + 1) k = h_r h (b + 1) k := fun k => ((K.2 _ (hR (b + 1) (by omega) (by omega))).2 k).1
  have ct := K.1
  obtain ⟨a0, a1, a2, a3, a4, a5, a6, a7, a8, c1, c2⟩ := hS
  obtain ⟨g0, g1, g2, g3, g4, g5⟩ := a1.2
  refine ⟨(s 0 (by omega)).trans a0, ⟨(r 0).trans a1.1, ⟨(s 1 (by omega)).trans g0, ⟨(r1 0).trans g1.1, (s 2 (by omega)).trans g1.2⟩, ⟨(r1 1).trans g2.1, (s 3 (by omega)).trans g2.2⟩, ⟨(r1 2).trans g3.1, (s 4 (by omega)).trans g3.2⟩, ⟨(r1 7).trans g4.1, (s 5 (by omega)).trans g4.2⟩, ⟨(r1 8).trans g5.1, (s 6 (by omega)).trans g5.2⟩⟩⟩, ⟨(r 1).trans a2.1, TaS.kp K (fun x h1 h2 => hR x (by omega) (by omega)) a2.2⟩, ⟨(r 2).trans a3.1, (s 15 (by omega)).trans a3.2⟩, ⟨(r 3).trans a4.1, (s 16 (by omega)).trans a4.2⟩, ⟨(r 4).trans a5.1, (s 17 (by omega)).trans a5.2⟩, ⟨(r 7).trans a6.1, (s 18 (by omega)).trans a6.2⟩, ⟨(r 8).trans a7.1, (s 19 (by omega)).trans a7.2⟩, ⟨(r 9).trans a8.1, (s 20 (by omega)).trans a8.2⟩, c1, by omega⟩
theorem BoS.kp {R : Nat → Prop} {h h' : PH} {b la cap : Nat} (K : Kp R h h') (hR : ∀ x, Wbc b la x → R x) (hS : BoS h b la cap) : BoS h' b la cap := by
  have s : ∀ x, Wbc b la x → h_sh h' x = h_sh h x := fun x hx => (K.2 x (hR x hx)).1
  have r : ∀ k, h_r h' b k = h_r h b k := fun k => ((K.2 _ (hR b (Or.inl ⟨by omega, by omega⟩))).2 k).1
  have ct := K.1
  obtain ⟨s0, s1, s2, s3, s4, b63, bct, lct, lb⟩ := hS
  exact ⟨(s b (Or.inl ⟨by omega, by omega⟩)).trans s0, ⟨(r 0).trans s1.1, (s _ (Or.inl ⟨by omega, by omega⟩)).trans s1.2⟩, ⟨(r 1).trans s2.1, (s _ (Or.inl ⟨by omega, by omega⟩)).trans s2.2⟩, ⟨(r 2).trans s3.1, (s _ (Or.inr rfl)).trans s3.2⟩, ⟨(r 4).trans s4.1, (s _ (Or.inl ⟨by omega, by omega⟩)).trans s4.2⟩, b63, by omega, by omega, lb⟩
theorem CeS.kp {R : Nat → Prop} {h h' : PH} {c K' M E : Nat} {ad : Nat → Nat} (K : Kp R h h') (hR : ∀ x, Wce c ad x → R x) (hS : CeS h c ad K' M E) : CeS h' c ad K' M E := by
  have s : ∀ f, f < 9 → f ≠ 4 → h_sh h' (ad f) = h_sh h (ad f) := fun f a b => (K.2 _ (hR _ (Or.inr ⟨f, a, b, rfl⟩))).1
  have r : ∀ k, h_r h' c k = h_r h c k := fun k => ((K.2 _ (hR c (Or.inl rfl))).2 k).1
  have ct := K.1
  obtain ⟨s0, s1, s2, s3, s4, s5, s6, s7, s8, s9, s10, s11⟩ := hS
  exact ⟨(K.2 _ (hR c (Or.inl rfl))).1.trans s0, ⟨(r 0).trans s1.1, (s 0 (by omega) (by omega)).trans s1.2⟩, ⟨(r 1).trans s2.1, (s 1 (by omega) (by omega)).trans s2.2⟩, ⟨(r 2).trans s3.1, (s 2 (by omega) (by omega)).trans s3.2⟩, ⟨(r 3).trans s4.1, (s 3 (by omega) (by omega)).trans s4.2⟩, ⟨(r 5).trans s5.1, (s 5 (by omega) (by omega)).trans s5.2⟩, ⟨(r 6).trans s6.1, (s 6 (by omega) (by omega)).trans s6.2⟩, ⟨(r 7).trans s7.1, (s 7 (by omega) (by omega)).trans s7.2⟩, ⟨(r 8).trans s8.1, (s 8 (by omega) (by omega)).trans s8.2⟩, ⟨s9.1, fun f a b => by have := s9.2 f a b; omega⟩, s10, by omega⟩
theorem CTs.kp {R : Nat → Prop} {h h' : PH} {b : Nat} {T : List TL × Option (Nat × Nat)} (K : Kp R h h') (hR : ∀ x, b ≤ x → x ≤ b + 7 → R x) (hS : CTs h b T) : CTs h' b T := by
  have i : ∀ x k, b ≤ x → x ≤ b + 7 → h_i h' x k = h_i h x k := fun x k h1 h2 => ((K.2 x (hR x h1 h2)).2 k).2.1
  have l : ∀ x k, b ≤ x → x ≤ b + 7 → h_l h' x k = h_l h x k := fun x k h1 h2 => ((K.2 x (hR x h1 h2)).2 k).2.2
  obtain ⟨s1, s2, s3, s4, s5⟩ := hS
  refine ⟨⟨s1.1, (i _ _ (by omega) (by omega)).trans s1.2.1, fun k t ht => ⟨(l _ _ (by omega) (by omega)).trans (s1.2.2 k t ht).1, (i _ _ (by omega) (by omega)).trans (s1.2.2 k t ht).2.1, (i _ _ (by omega) (by omega)).trans (s1.2.2 k t ht).2.2⟩⟩, (i _ _ (by omega) (by omega)).trans s2, ?_, fun j hj => (i _ _ (by omega) (by omega)).trans (s4 j hj), s5⟩
  cases w : T.2 with
  | none =>
    rw [w] at s3
    exact ⟨(i _ _ (by omega) (by omega)).trans s3.1, (i _ _ (by omega) (by omega)).trans s3.2⟩
  | some y =>
    rw [w] at s3
    exact ⟨(i _ _ (by omega) (by omega)).trans s3.1, (i _ _ (by omega) (by omega)).trans s3.2.1, s3.2.2⟩
theorem CBo.kp {R : Nat → Prop} {h h' : PH} {b la cap m : Nat} {gs : List (List Nat)} (K : Kp R h h') (hR : ∀ x, Wbc b la x → R x) (hC : CBo h b la cap gs m) : CBo h' b la cap gs m := by
  have i : ∀ x k, Wbc b la x → h_i h' x k = h_i h x k := fun x k hx => ((K.2 x (hR x hx)).2 k).2.1
  obtain ⟨c1, c2, c3, c4⟩ := hC
  exact ⟨BoS.kp K hR c1, ⟨(i _ _ (Or.inl ⟨by omega, by omega⟩)).trans c2.1, fun j v hv => (i _ _ (Or.inr rfl)).trans (c2.2.1 j v hv), c2.2.2⟩, fun n hn => (i _ _ (Or.inl ⟨by omega, by omega⟩)).trans (c3 n hn), c4⟩
theorem CEN.kp {R : Nat → Prop} {h h' : PH} {c m K' M E : Nat} {ad : Nat → Nat} {N gs V : List (List Nat)} {ed : List (Nat × Nat)} {F : Nat → Nat} (K : Kp R h h') (hR : ∀ x, Wce c ad x → R x) (hC : CEN h c ad K' M E N gs m V ed F) : CEN h' c ad K' M E N gs m V ed F := by
  obtain ⟨⟨a1, a2, a3, a4, a5, a6, a7, a8⟩, hE, hF, hCt⟩ := hC
  have hS : CeS h' c ad K' M E := CeS.kp K hR a1
  have hv : CEN (vh h h') c ad K' M E N gs m V ed F := ⟨⟨hS, a2, a3, a4, a5, a6, a7, a8⟩, hE, hF, hCt⟩
  exact hv.fr K.v (fun x k z y => z (hR x y))
/-- the stamp stays -/
theorem CTrz.kp {R : Nat → Prop} {h h' : PH} {gs : List (List Nat)} {m : Nat} (K : Kp R h h') (hR : ∀ c, h_r h 0 5 = some c → ∀ x, c ≤ x → x ≤ c + 9 → R x) (h5 : h_r h' 0 5 = h_r h 0 5) (h2 : h_i h' 2 6 = h_i h 2 6) (hz : CTrz h gs m) : CTrz h' gs m :=
  hz.to h5 (fun c e hT => TrS.kp K (hR c e) hT) (fun c e x k a b => ((K.2 x (hR c e x a b)).2 k).2.1) h2
theorem CTz.kp {R : Nat → Prop} {h h' : PH} {gs : List (List Nat)} {m : Nat} (K : Kp R h h') (hR : ∀ c, h_r h 0 6 = some c → ∀ x, c ≤ x → x ≤ c + 7 → R x) (h6 : h_r h' 0 6 = h_r h 0 6) (h2 : h_i h' 2 6 = h_i h 2 6) (hz : CTz h gs m) : CTz h' gs m := fun c e => by
  rw [h6] at e
  obtain ⟨z1, z2, z3⟩ := hz c e
  have e8 : h_i h' c 8 = h_i h c 8 := ((K.2 c (hR c e c (by omega) (by omega))).2 8).2.1
  rw [e8, h2]
  exact ⟨TaS.kp K (hR c e) z1, fun q => CTs.kp K (hR c e) (z2 q), z3⟩
theorem CCu.kp {R : Nat → Prop} {h h' : PH} {gs : List (List Nat)} {m : Nat} (K : Kp R h h') (hR : ∀ c, h_r h 0 12 = some c → ∀ x, c ≤ x → x ≤ c + 20 → R x) (h12 : h_r h' 0 12 = h_r h 0 12) (h2 : h_i h' 2 6 = h_i h 2 6) (hz : CCu h gs m) : CCu h' gs m := fun c e => by
  rw [h12] at e
  obtain ⟨z1, z2⟩ := hz c e
  have i : ∀ x k, c ≤ x → x ≤ c + 20 → h_i h' x k = h_i h x k := fun x k h1 h2 => ((K.2 x (hR c e x h1 h2)).2 k).2.1
  refine ⟨CuS.kp K (hR c e) z1, fun w hw => ?_⟩
  rw [i (c + 16) w (by omega) (by omega), i (c + 15) w (by omega) (by omega), h2]
  exact z2 w hw
theorem CeOk.kp {R : Nat → Prop} {h h' : PH} {m K' M E : Nat} {ad : Nat → Nat} {gs : List (List Nat)} (K : Kp R h h') (hR : ∀ c, h_r h 0 10 = some c → ∀ x, Wce c ad x → R x) (h10 : h_r h' 0 10 = h_r h 0 10) (h2 : h_i h' 2 6 = h_i h 2 6) (hC : CeOk h gs m ad K' M E) : CeOk h' gs m ad K' M E := by
  obtain ⟨caps, hn, hC⟩ := hC
  refine ⟨caps, fun e => hn (by rw [← h10]; exact e), fun c e => ?_⟩
  rw [h10] at e
  obtain ⟨q1, q2, q3, q4⟩ := hC c e
  have i : ∀ x k, Wce c ad x → h_i h' x k = h_i h x k := fun x k hx => ((K.2 x (hR c e x hx)).2 k).2.1
  rw [i c 10 (Or.inl rfl), h2]
  refine ⟨CeS.kp K (hR c e) q1, fun j hj => ?_, fun z => ?_, q4⟩
  · rw [i _ _ (Or.inr ⟨7, by omega, by omega, rfl⟩)]
    exact q2 j hj
  · obtain ⟨N, V, ed, F, p1, p2, p3⟩ := q3 z
    exact ⟨N, V, ed, F, p1.kp K (hR c e), p2, p3⟩
theorem BoOk.kp {R : Nat → Prop} {h h' : PH} {m la cap : Nat} {gs : List (List Nat)} (K : Kp R h h') (hR : ∀ b, h_r h 0 11 = some b → ∀ x, Wbc b la x → R x) (h11 : h_r h' 0 11 = h_r h 0 11) (h2 : h_i h' 2 6 = h_i h 2 6) (hC : BoOk h gs m la cap) : BoOk h' gs m la cap := by
  obtain ⟨caps, hn, hC⟩ := hC
  refine ⟨caps, fun e => hn (by rw [← h11]; exact e), fun b e => ?_⟩
  rw [h11] at e
  obtain ⟨q1, q2, q3⟩ := hC b e
  have i : ∀ x k, Wbc b la x → h_i h' x k = h_i h x k := fun x k hx => ((K.2 x (hR b e x hx)).2 k).2.1
  rw [i b 5 (Or.inl ⟨by omega, by omega⟩), h2]
  exact ⟨BoS.kp K (hR b e) q1, fun z => (q2 z).kp K (hR b e), q3⟩
/-- the stamp is a new one: what was kept is told by no stamp of now -/
theorem SB.no {v : Int32} {t : Nat} (h : SB v t) (ht : t + 1 < 2 ^ 31) : ¬ v = nI (t + 1) := fun e => by
  rcases h with z | ⟨t', h1, z⟩
  · rw [z] at e
    exact nI_neg1 ht e.symm
  · rw [z, nI_eq (by omega) ht] at e
    omega
theorem SB.up {v : Int32} {t : Nat} (h : SB v t) : SB v (t + 1) := by
  rcases h with z | ⟨t', h1, z⟩
  · exact Or.inl z
  · exact Or.inr ⟨t', by omega, z⟩
theorem nI_i {a b : Nat} (ha : a < 2 ^ 31) (hb : b < 2 ^ 31) (e : nI a = nI b) : a = b := (nI_eq ha hb).mp e
theorem CTrz.new {R : Nat → Prop} {h h' : PH} {gs gs' : List (List Nat)} {m m' t : Nat} (K : Kp R h h') (hR : ∀ c, h_r h 0 5 = some c → ∀ x, c ≤ x → x ≤ c + 9 → R x) (h5 : h_r h' 0 5 = h_r h 0 5) (ht : t + 1 < 2 ^ 31) (h2 : h_i h 2 6 = nI t) (h2' : h_i h' 2 6 = nI (t + 1)) (hz : CTrz h gs m) : CTrz h' gs' m' := fun c e => by
  rw [h5] at e
  obtain ⟨z1, z2, z3, z4⟩ := hz c e
  have i : ∀ x k, c ≤ x → x ≤ c + 9 → h_i h' x k = h_i h x k := fun x k h1 h2 => ((K.2 x (hR c e x h1 h2)).2 k).2.1
  rw [i c 10 (by omega) (by omega), i (c + 3) 0 (by omega) (by omega), h2']
  have sb := z4 t h2
  refine ⟨TrS.kp K (hR c e) z1, z2, fun q => absurd q (sb.no ht), fun t' ht' => ?_⟩
  by_cases y : t' < 2 ^ 31
  · rw [← nI_i ht y ht']
    exact sb.up
  · rcases sb with q | ⟨t'', q1, q2⟩
    · exact Or.inl q
    · exact Or.inr ⟨t'', by omega, q2⟩
theorem CTz.new {R : Nat → Prop} {h h' : PH} {gs gs' : List (List Nat)} {m m' t : Nat} (K : Kp R h h') (hR : ∀ c, h_r h 0 6 = some c → ∀ x, c ≤ x → x ≤ c + 7 → R x) (h6 : h_r h' 0 6 = h_r h 0 6) (ht : t + 1 < 2 ^ 31) (h2 : h_i h 2 6 = nI t) (h2' : h_i h' 2 6 = nI (t + 1)) (hz : CTz h gs m) : CTz h' gs' m' := fun c e => by
  rw [h6] at e
  obtain ⟨z1, z2, z3⟩ := hz c e
  have e8 : h_i h' c 8 = h_i h c 8 := ((K.2 c (hR c e c (by omega) (by omega))).2 8).2.1
  rw [e8, h2']
  have sb := z3 t h2
  refine ⟨TaS.kp K (hR c e) z1, fun q => absurd q (sb.no ht), fun t' ht' => ?_⟩
  by_cases y : t' < 2 ^ 31
  · rw [← nI_i ht y ht']
    exact sb.up
  · rcases sb with q | ⟨t'', q1, q2⟩
    · exact Or.inl q
    · exact Or.inr ⟨t'', by omega, q2⟩
theorem CCu.new {R : Nat → Prop} {h h' : PH} {gs' : List (List Nat)} {m' t : Nat} (K : Kp R h h') (hR : ∀ c, h_r h 0 12 = some c → ∀ x, c ≤ x → x ≤ c + 20 → R x) (h12 : h_r h' 0 12 = h_r h 0 12) (ht : t + 1 < 2 ^ 31) (h2' : h_i h' 2 6 = nI (t + 1)) (hz : ∀ c, h_r h 0 12 = some c → CuS h c ∧ ∀ w, w < 3 → SB (h_i h (c + 16) w) t) : CCu h' gs' m' := fun c e => by
  rw [h12] at e
  obtain ⟨z1, z2⟩ := hz c e
  have i : ∀ x k, c ≤ x → x ≤ c + 20 → h_i h' x k = h_i h x k := fun x k h1 h2 => ((K.2 x (hR c e x h1 h2)).2 k).2.1
  refine ⟨CuS.kp K (hR c e) z1, fun w hw => ?_⟩
  rw [i (c + 16) w (by omega) (by omega), h2']
  have sb := z2 w hw
  refine ⟨fun q => absurd q (sb.no ht), fun t' ht' => ?_⟩
  by_cases y : t' < 2 ^ 31
  · rw [← nI_i ht y ht']
    exact sb.up
  · rcases sb with q | ⟨t'', q1, q2⟩
    · exact Or.inl q
    · exact Or.inr ⟨t'', by omega, q2⟩
theorem CeOk.new {R : Nat → Prop} {h h' : PH} {m m' K' M E t : Nat} {ad : Nat → Nat} {gs gs' : List (List Nat)} (K : Kp R h h') (hR : ∀ c, h_r h 0 10 = some c → ∀ x, Wce c ad x → R x) (h10 : h_r h' 0 10 = h_r h 0 10) (ht : t + 1 < 2 ^ 31) (h2 : h_i h 2 6 = nI t) (h2' : h_i h' 2 6 = nI (t + 1)) (hC : CeOk h gs m ad K' M E) : CeOk h' gs' m' ad K' M E := by
  obtain ⟨caps, hn, hC⟩ := hC
  refine ⟨caps, fun e => hn (by rw [← h10]; exact e), fun c e => ?_⟩
  rw [h10] at e
  obtain ⟨q1, q2, q3, q4⟩ := hC c e
  have i : ∀ x k, Wce c ad x → h_i h' x k = h_i h x k := fun x k hx => ((K.2 x (hR c e x hx)).2 k).2.1
  rw [i c 10 (Or.inl rfl), h2']
  have sb := q4 t h2
  refine ⟨CeS.kp K (hR c e) q1, fun j hj => ?_, fun q => absurd q (sb.no ht), fun t' ht' => ?_⟩
  · rw [i _ _ (Or.inr ⟨7, by omega, by omega, rfl⟩)]
    exact q2 j hj
  · by_cases y : t' < 2 ^ 31
    · rw [← nI_i ht y ht']
      exact sb.up
    · rcases sb with q | ⟨t'', q1, q2⟩
      · exact Or.inl q
      · exact Or.inr ⟨t'', by omega, q2⟩
theorem BoOk.new {R : Nat → Prop} {h h' : PH} {m m' la cap t : Nat} {gs gs' : List (List Nat)} (K : Kp R h h') (hR : ∀ b, h_r h 0 11 = some b → ∀ x, Wbc b la x → R x) (h11 : h_r h' 0 11 = h_r h 0 11) (ht : t + 1 < 2 ^ 31) (h2 : h_i h 2 6 = nI t) (h2' : h_i h' 2 6 = nI (t + 1)) (hC : BoOk h gs m la cap) : BoOk h' gs' m' la cap := by
  obtain ⟨caps, hn, hC⟩ := hC
  refine ⟨caps, fun e => hn (by rw [← h11]; exact e), fun b e => ?_⟩
  rw [h11] at e
  obtain ⟨q1, q2, q3⟩ := hC b e
  have i : ∀ x k, Wbc b la x → h_i h' x k = h_i h x k := fun x k hx => ((K.2 x (hR b e x hx)).2 k).2.1
  rw [i b 5 (Or.inl ⟨by omega, by omega⟩), h2']
  have sb := q3 t h2
  refine ⟨BoS.kp K (hR b e) q1, fun q => absurd q (sb.no ht), fun t' ht' => ?_⟩
  by_cases y : t' < 2 ^ 31
  · rw [← nI_i ht y ht']
    exact sb.up
  · rcases sb with q | ⟨t'', q1, q2⟩
    · exact Or.inl q
    · exact Or.inr ⟨t'', by omega, q2⟩
