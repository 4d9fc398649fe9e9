/-! words on the class's side: the census kept till the table changes; the calls -/
def Gq (c : Nat) (W : Nat → Nat → Prop) (h h' : PH) : Prop := h_sc h' = h_sc h ∧ h_ct h ≤ h_ct h' ∧ (∀ x, x < h_ct h → h_sh h' x = h_sh h x) ∧ (∀ x k, x < h_ct h → x ≠ c → h_r h' x k = h_r h x k ∨ (x = 0 ∧ h_r h x k = none)) ∧ ∀ x k, x < h_ct h → ¬ W x k → h_i h' x k = h_i h x k ∧ h_l h' x k = h_l h x k
theorem Gw.gq {c : Nat} {W : Nat → Nat → Prop} {h h' : PH} (a : Gw W h h') : Gq c W h h' := ⟨a.1, a.2.1, a.2.2.2.2.1, fun x k hx _ => a.2.2.2.2.2.1 x k hx, a.2.2.2.2.2.2⟩
theorem Ge.gq {c : Nat} {W : Nat → Nat → Prop} {h h' : PH} (a : Ge c W h h') : Gq c W h h' := ⟨a.1, a.2.1, a.2.2.1, fun x k hx hc => Or.inl (a.2.2.2.1 x k hx hc), a.2.2.2.2⟩
theorem Gq.tr {c : Nat} {W W1 : Nat → Nat → Prop} {h h1 h2 : PH} (a : Gq c W h h1) (b : Gq c W1 h1 h2) (hw : ∀ x k, x < h_ct h → W1 x k → W x k) : Gq c W h h2 := by
  obtain ⟨a1, a2, a3, a4, a5⟩ := a
  obtain ⟨b1, b2, b3, b4, b5⟩ := b
  refine ⟨b1.trans a1, by omega, fun x hx => (b3 x (by omega)).trans (a3 x hx), fun x k hx hc => ?_, fun x k hx hn => ?_⟩
  · rcases a4 x k hx hc with p | p
    · rcases b4 x k (by omega) hc with q | q
      · exact Or.inl (q.trans p)
      · exact Or.inr ⟨q.1, p ▸ q.2⟩
    · exact Or.inr p
  · have q1 := a5 x k hx hn
    have q2 := b5 x k (by omega) (fun z => hn (hw x k hx z))
    exact ⟨q2.1.trans q1.1, q2.2.trans q1.2⟩
theorem Gq.up {c : Nat} {W W' : Nat → Nat → Prop} {h h' : PH} (a : Gq c W h h') (hw : ∀ x k, W x k → W' x k) : Gq c W' h h' := ⟨a.1, a.2.1, a.2.2.1, a.2.2.2.1, fun x k hx hn => a.2.2.2.2 x k hx (fun z => hn (hw x k z))⟩
theorem Gq.i {c : Nat} {W : Nat → Nat → Prop} {h h' : PH} (a : Gq c W h h') {x k : Nat} (hx : x < h_ct h) (hn : ¬ W x k) : h_i h' x k = h_i h x k := (a.2.2.2.2 x k hx hn).1
theorem Gq.l {c : Nat} {W : Nat → Nat → Prop} {h h' : PH} (a : Gq c W h h') {x k : Nat} (hx : x < h_ct h) (hn : ¬ W x k) : h_l h' x k = h_l h x k := (a.2.2.2.2 x k hx hn).2
theorem Gq.rs {c x k y : Nat} {W : Nat → Nat → Prop} {h h' : PH} (a : Gq c W h h') (hx : x < h_ct h) (hc : x ≠ c) (hy : h_r h x k = some y) : h_r h' x k = some y := by
  rcases a.2.2.2.1 x k hx hc with q | q
  · rw [q, hy]
  · rw [hy] at q
    cases q.2
theorem Gq.md {c : Nat} {W : Nat → Nat → Prop} {h h' : PH} (a : Gq c W h h') (hc : 63 ≤ h_ct h) (hcc : 63 ≤ c) (hM : MdS h) : MdS h' := by
  refine ⟨(a.2.2.1 17 (by omega)).trans hM.1, fun q hq => ?_⟩
  have := mdT_63 q hq
  exact ⟨a.rs (by omega) (by omega) (hM.2 q hq).1, (a.2.2.1 _ (by omega)).trans (hM.2 q hq).2⟩
theorem Gq.ow {c : Nat} {W : Nat → Nat → Prop} {h h' : PH} (a : Gq c W h h') (hc : 63 ≤ h_ct h) (hcc : 63 ≤ c) (hO : OwS h) : OwS h' := by
  refine ⟨(a.2.2.1 0 (by omega)).trans hO.1, fun q hq => ?_⟩
  have := owT_63 q hq
  exact ⟨a.rs (by omega) (by omega) (hO.2 q hq).1, (a.2.2.1 _ (by omega)).trans (hO.2 q hq).2⟩
theorem CeS.gw {W : Nat → Nat → Prop} {h h' : PH} {c K M E : Nat} {ad : Nat → Nat} (hf : Gw W h h') (hS : CeS h c ad K M E) : CeS h' c ad K M E := by
  obtain ⟨s0, s1, s2, s3, s4, s5, s6, s7, s8, s9, s10, s11⟩ := hS
  have l : ∀ f, f < 9 → f ≠ 4 → ad f < h_ct h := fun f a b => (s9.2 f a b).2.2
  have hs : ∀ x, x < h_ct h → h_sh h' x = h_sh h x := hf.2.2.2.2.1
  have ct := hf.2.1
  exact ⟨(hs c s11).trans s0, ⟨hf.rs s11 s1.1, (hs _ (l 0 (by omega) (by omega))).trans s1.2⟩, ⟨hf.rs s11 s2.1, (hs _ (l 1 (by omega) (by omega))).trans s2.2⟩, ⟨hf.rs s11 s3.1, (hs _ (l 2 (by omega) (by omega))).trans s3.2⟩, ⟨hf.rs s11 s4.1, (hs _ (l 3 (by omega) (by omega))).trans s4.2⟩, ⟨hf.rs s11 s5.1, (hs _ (l 5 (by omega) (by omega))).trans s5.2⟩, ⟨hf.rs s11 s6.1, (hs _ (l 6 (by omega) (by omega))).trans s6.2⟩, ⟨hf.rs s11 s7.1, (hs _ (l 7 (by omega) (by omega))).trans s7.2⟩, ⟨hf.rs s11 s8.1, (hs _ (l 8 (by omega) (by omega))).trans s8.2⟩, ⟨s9.1, fun f a b => by have := s9.2 f a b; omega⟩, s10, by omega⟩
theorem CTrz.to {h h' : PH} {gs : List (List Nat)} {m : Nat} (h5 : h_r h' 0 5 = h_r h 0 5) (hT : ∀ c, h_r h 0 5 = some c → TrS h c → TrS h' c) (hi : ∀ c, h_r h 0 5 = some c → ∀ x k, c ≤ x → x ≤ c + 9 → h_i h' x k = h_i h x k) (h2 : h_i h' 2 6 = h_i h 2 6) (hz : CTrz h gs m) : CTrz h' gs m := fun c e => by
  rw [h5] at e
  obtain ⟨z1, z2, z3, z4⟩ := hz c e
  have ei := hi c e
  refine ⟨hT c e z1, (ei _ _ (by omega) (by omega)).trans z2, fun z => ?_, fun t ht => ?_⟩
  · rw [ei _ _ (Nat.le_refl _) (by omega), h2] at z
    obtain ⟨N, hN⟩ := z3 z
    exact ⟨N, hN.eq ei⟩
  · rw [ei _ _ (Nat.le_refl _) (by omega)]
    rw [h2] at ht
    exact z4 t ht
/-- what is kept of the census from call to call -/
def CeOk (h : PH) (gs : List (List Nat)) (m : Nat) (ad : Nat → Nat) (K M E : Nat) : Prop := (capK K ∧ capM M ∧ capE E) ∧ (h_r h 0 10 = none → K = 64 ∧ M = 256 ∧ E = 256) ∧ ∀ c, h_r h 0 10 = some c → CeS h c ad K M E ∧ (∀ i, i < E → ∃ x, x < 28 ∧ h_i h (ad 7) i = nI x) ∧ (h_i h c 10 = h_i h 2 6 → ∃ N V ed F, CEN h c ad K M E N gs m V ed F ∧ okN N ∧ ∀ x, isI gs m x → x ∈ N) ∧ ∀ t, h_i h 2 6 = nI t → SB (h_i h c 10) t
def AccR (h h' : PH) (K M E K' M' E' : Nat) : Prop := 8 * (h_ct h' + restC h') + (K + M + E) ≤ 8 * (h_ct h + restC h) + (K' + M' + E') ∧ h_sl h' + restS h' + (51 * K + 2 * M + 4 * E) ≤ h_sl h + restS h + (51 * K' + 2 * M' + 4 * E')
theorem ce_made {h : PH} (hc : 63 ≤ h_ct h) : CeS (mkO (h_new h (0, 1) (fN 1)) (h_ct h) L_Ce_init) (h_ct h) (fun f => if f < 4 then h_ct h + (f + 1) else h_ct h + f) 64 256 256 ∧ (∀ i, h_i (mkO (h_new h (0, 1) (fN 1)) (h_ct h) L_Ce_init) (h_ct h + 7) i = 0) ∧ h_i (mkO (h_new h (0, 1) (fN 1)) (h_ct h) L_Ce_init) (h_ct h) 10 = -1 := by
  have a0 := mk_at (h := h) (L := L_Ce_init) (q0 := (0, 1)) (n0 := fN 1) (pre := []) (i := 0) (f := 0) (q := (1, 64)) (post := [(1, .inl (1, 64)), (2, .inl (4, 704)), (3, .inl (4, 704)), (5, .inl (1, 256)), (6, .inl (1, 65)), (7, .inl (2, 256)), (8, .inl (1, 256)), (10, .inr (-1))]) rfl rfl (by decide)
  have a1 := mk_at (h := h) (L := L_Ce_init) (q0 := (0, 1)) (n0 := fN 1) (pre := [(0, .inl (1, 64))]) (i := 1) (f := 1) (q := (1, 64)) (post := [(2, .inl (4, 704)), (3, .inl (4, 704)), (5, .inl (1, 256)), (6, .inl (1, 65)), (7, .inl (2, 256)), (8, .inl (1, 256)), (10, .inr (-1))]) rfl rfl (by decide)
  have a2 := mk_at (h := h) (L := L_Ce_init) (q0 := (0, 1)) (n0 := fN 1) (pre := [(0, .inl (1, 64)), (1, .inl (1, 64))]) (i := 2) (f := 2) (q := (4, 704)) (post := [(3, .inl (4, 704)), (5, .inl (1, 256)), (6, .inl (1, 65)), (7, .inl (2, 256)), (8, .inl (1, 256)), (10, .inr (-1))]) rfl rfl (by decide)
  have a3 := mk_at (h := h) (L := L_Ce_init) (q0 := (0, 1)) (n0 := fN 1) (pre := [(0, .inl (1, 64)), (1, .inl (1, 64)), (2, .inl (4, 704))]) (i := 3) (f := 3) (q := (4, 704)) (post := [(5, .inl (1, 256)), (6, .inl (1, 65)), (7, .inl (2, 256)), (8, .inl (1, 256)), (10, .inr (-1))]) rfl rfl (by decide)
  have a5 := mk_at (h := h) (L := L_Ce_init) (q0 := (0, 1)) (n0 := fN 1) (pre := [(0, .inl (1, 64)), (1, .inl (1, 64)), (2, .inl (4, 704)), (3, .inl (4, 704))]) (i := 4) (f := 5) (q := (1, 256)) (post := [(6, .inl (1, 65)), (7, .inl (2, 256)), (8, .inl (1, 256)), (10, .inr (-1))]) rfl rfl (by decide)
  have a6 := mk_at (h := h) (L := L_Ce_init) (q0 := (0, 1)) (n0 := fN 1) (pre := [(0, .inl (1, 64)), (1, .inl (1, 64)), (2, .inl (4, 704)), (3, .inl (4, 704)), (5, .inl (1, 256))]) (i := 5) (f := 6) (q := (1, 65)) (post := [(7, .inl (2, 256)), (8, .inl (1, 256)), (10, .inr (-1))]) rfl rfl (by decide)
  have a7 := mk_at (h := h) (L := L_Ce_init) (q0 := (0, 1)) (n0 := fN 1) (pre := [(0, .inl (1, 64)), (1, .inl (1, 64)), (2, .inl (4, 704)), (3, .inl (4, 704)), (5, .inl (1, 256)), (6, .inl (1, 65))]) (i := 6) (f := 7) (q := (2, 256)) (post := [(8, .inl (1, 256)), (10, .inr (-1))]) rfl rfl (by decide)
  have a8 := mk_at (h := h) (L := L_Ce_init) (q0 := (0, 1)) (n0 := fN 1) (pre := [(0, .inl (1, 64)), (1, .inl (1, 64)), (2, .inl (4, 704)), (3, .inl (4, 704)), (5, .inl (1, 256)), (6, .inl (1, 65)), (7, .inl (2, 256))]) (i := 7) (f := 8) (q := (1, 256)) (post := [(10, .inr (-1))]) rfl rfl (by decide)
  have a10 := mkO_num [(0, .inl (1, 64)), (1, .inl (1, 64)), (2, .inl (4, 704)), (3, .inl (4, 704)), (5, .inl (1, 256)), (6, .inl (1, 65)), (7, .inl (2, 256)), (8, .inl (1, 256))] 10 (-1) [] (h_new h (0, 1) (fN 1)) (o := h_ct h) (Nat.lt_succ_self _) (by decide)
  have eL : ([(0, .inl (1, 64)), (1, .inl (1, 64)), (2, .inl (4, 704)), (3, .inl (4, 704)), (5, .inl (1, 256)), (6, .inl (1, 65)), (7, .inl (2, 256)), (8, .inl (1, 256))] : List MkI) ++ (10, .inr (-1)) :: [] = L_Ce_init := rfl
  rw [eL] at a10
  have hs : h_sh (mkO (h_new h (0, 1) (fN 1)) (h_ct h) L_Ce_init) (h_ct h) = some (0, 1) := (sh_mkO (Nat.lt_succ_self _)).trans (sh_new_eq _ _ _)
  have hct : h_ct (mkO (h_new h (0, 1) (fN 1)) (h_ct h) L_Ce_init) = h_ct h + 1 + 8 := mkO_ct _ _ _
  generalize mkO (h_new h (0, 1) (fN 1)) (h_ct h) L_Ce_init = G at *
  refine ⟨⟨hs, ⟨a0.1, a0.2.1⟩, ⟨a1.1, a1.2.1⟩, ⟨a2.1, a2.2.1⟩, ⟨a3.1, a3.2.1⟩, ⟨a5.1, a5.2.1⟩, ⟨a6.1, a6.2.1⟩, ⟨a7.1, a7.2.1⟩, ⟨a8.1, a8.2.1⟩, ⟨fun f f' hf hf' h4 h4' e => ?_, fun f hf h4 => ?_⟩, hc, by omega⟩, a7.2.2, a10⟩
  · have e : (if f < 4 then h_ct h + (f + 1) else h_ct h + f) = (if f' < 4 then h_ct h + (f' + 1) else h_ct h + f') := e
    by_cases y1 : f < 4
    · by_cases y2 : f' < 4
      · rw [if_pos y1, if_pos y2] at e
        omega
      · rw [if_pos y1, if_neg y2] at e
        omega
    · by_cases y2 : f' < 4
      · rw [if_neg y1, if_pos y2] at e
        omega
      · rw [if_neg y1, if_neg y2] at e
        omega
  · show (if f < 4 then h_ct h + (f + 1) else h_ct h + f) ≠ h_ct h ∧ 63 ≤ (if f < 4 then h_ct h + (f + 1) else h_ct h + f) ∧ (if f < 4 then h_ct h + (f + 1) else h_ct h + f) < _
    split <;> omega
theorem CeS.wr {g : PH} {c f K M E : Nat} {ad : Nat → Nat} {v : Option Nat} (h : CeS g c ad K M E) : CeS (w_r g 0 f v) c ad K M E := by
  have c63 := h.2.2.2.2.2.2.2.2.2.2.1
  have e : ∀ k, h_r (w_r g 0 f v) c k = h_r g c k := fun k => by rw [h_r_wr, if_neg (fun z => by omega)]
  unfold CeS
  rw [e, e, e, e, e, e, e, e]
  exact h
