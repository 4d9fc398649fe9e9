/-! words on the class's side: more room for states -/
theorem ce_growStates {d : Nat} {h : PH} {Q : PQ} {c K M E : Nat} {ad : Nat → Nat} (hS : CeS h c ad K M E) (hK : K ≤ 524288) (hK0 : 64 ≤ K) (k : ∀ h' ad', CeS h' c ad' (2 * K) M E → (∀ i, i < K → h_i h' (ad' 0) i = h_i h (ad 0) i ∧ h_i h' (ad' 1) i = h_i h (ad 1) i) → (∀ i, i < K + 1 → h_i h' (ad' 6) i = h_i h (ad 6) i) → ad' 5 = ad 5 → ad' 7 = ad 7 → ad' 8 = ad 8 → (∀ f, ad' f = ad f ∨ h_ct h ≤ ad' f) → Ge c (fun _ _ => False) h h' → Acc h h' K M E (2 * K) M E → Q none h') : wpm (d + 2) 18 [.ref c] h Q := by
  refine wpm_in P_Ce_growStates rfl (by decide) (by show ¬ 2 < 1; decide) ?_
  obtain ⟨s0, s1, s2, s3, s4, s5, s6, s7, s8, s9, s10, s11⟩ := hS
  have l : ∀ f, f < 9 → f ≠ 4 → ad f < h_ct h := fun f a b => (s9.2 f a b).2.2
  have e2 : (2 : Int32) * (Int32.ofNat K) = nI (2 * K) := by
    rw [show (Int32.ofNat K) = nI K from rfl, show (2 : Int32) = nI 2 from rfl, nI_mulN]
  refine B_Ce_growStates_0 s0 s1.1 s1.2 ?_
  rw [e2]
  refine ja_copyI s1.2 (l 0 (by omega) (by omega)) (by omega) (by omega) (fun g1 g1n g1s g1c g1t g1l => ?_)
  -- keys
  have sh1 : ∀ x, x < h_ct h → h_sh (w_r g1 c 0 (some (h_ct h))) x = h_sh h x := fun x hx => (g1n.2.2 x hx).1
  have r1 : ∀ f, f ≠ 0 → h_r (w_r g1 c 0 (some (h_ct h))) c f = h_r h c f := fun f hf => by rw [w_r_ne (fun z => hf z.2), g1n.r s11]
  have r10 : h_r (w_r g1 c 0 (some (h_ct h))) c 0 = some (h_ct h) := w_r_eq
  have i1 : ∀ x k, x < h_ct h → h_i (w_r g1 c 0 (some (h_ct h))) x k = h_i h x k := fun x k hx => (i_wr ..).trans (g1n.i hx)
  have c1 : ∀ i, i < K → h_i (w_r g1 c 0 (some (h_ct h))) (h_ct h) i = h_i h (ad 0) i := fun i hi => (i_wr ..).trans (g1c i hi)
  have n1 : h_sh (w_r g1 c 0 (some (h_ct h))) (h_ct h) = some (1, 2 * K) := g1s
  have f1 : Ge c (fun _ _ => False) h (w_r g1 c 0 (some (h_ct h))) := (g1n.ge (c := c)).tr (Ge.wr (W := fun _ _ => False)) (fun _ _ _ z => z.elim)
  have t1 : h_ct (w_r g1 c 0 (some (h_ct h))) = h_ct h + 1 := g1t
  have q1 : h_sl (w_r g1 c 0 (some (h_ct h))) = h_sl h + 2 * K := g1l
  refine B_Ce_growStates_17 ((g1n.2.2 c s11).1.trans s0) ((g1n.2.2 c s11).1.trans s0) ((r1 1 (by omega)).trans s2.1) ?_
  generalize w_r g1 c 0 (some (h_ct h)) = g2 at sh1 r1 r10 i1 c1 n1 f1 t1 q1 ⊢
  refine ja_copyI (n := K) ((sh1 _ (l 1 (by omega) (by omega))).trans s2.2) (by have := l 1 (by omega) (by omega); omega) (by omega) (by omega) (fun g3 g3n g3s g3c g3t g3l => ?_)
  -- levels
  rw [t1] at g3s g3c
  rw [t1]
  have sh3 : ∀ x, x < h_ct h → h_sh (w_r g3 c 1 (some (h_ct h + 1))) x = h_sh h x := fun x hx => ((g3n.2.2 x (by omega)).1).trans (sh1 x hx)
  have r3 : ∀ f, f ≠ 0 → f ≠ 1 → h_r (w_r g3 c 1 (some (h_ct h + 1))) c f = h_r h c f := fun f hf hf' => by rw [w_r_ne (fun z => hf' z.2), g3n.r (by omega), r1 f hf]
  have r30 : h_r (w_r g3 c 1 (some (h_ct h + 1))) c 0 = some (h_ct h) := by rw [w_r_ne (by omega), g3n.r (by omega), r10]
  have r31 : h_r (w_r g3 c 1 (some (h_ct h + 1))) c 1 = some (h_ct h + 1) := w_r_eq
  have i3 : ∀ x k, x < h_ct h → h_i (w_r g3 c 1 (some (h_ct h + 1))) x k = h_i h x k := fun x k hx => (i_wr ..).trans ((g3n.i (by omega)).trans (i1 x k hx))
  have c30 : ∀ i, i < K → h_i (w_r g3 c 1 (some (h_ct h + 1))) (h_ct h) i = h_i h (ad 0) i := fun i hi => (i_wr ..).trans ((g3n.i (by omega)).trans (c1 i hi))
  have n30 : h_sh (w_r g3 c 1 (some (h_ct h + 1))) (h_ct h) = some (1, 2 * K) := (g3n.2.2 _ (by omega)).1.trans n1
  have c31 : ∀ i, i < K → h_i (w_r g3 c 1 (some (h_ct h + 1))) (h_ct h + 1) i = h_i h (ad 1) i := fun i hi => (i_wr ..).trans ((g3c i hi).trans (i1 _ _ (l 1 (by omega) (by omega))))
  have n31 : h_sh (w_r g3 c 1 (some (h_ct h + 1))) (h_ct h + 1) = some (1, 2 * K) := g3s
  have f3 : Ge c (fun _ _ => False) h (w_r g3 c 1 (some (h_ct h + 1))) := (f1.tr (g3n.ge (c := c) (W := fun _ _ => False)) (fun _ _ _ z => z.elim)).tr (Ge.wr (W := fun _ _ => False)) (fun _ _ _ z => z.elim)
  have t3 : h_ct (w_r g3 c 1 (some (h_ct h + 1))) = h_ct h + 2 := by show h_ct g3 = _; omega
  have q3 : h_sl (w_r g3 c 1 (some (h_ct h + 1))) = h_sl h + 4 * K := by show h_sl g3 = _; omega
  refine B_Ce_growStates_29 ((g3n.2.2 c (by omega)).1.trans ((sh1 c s11).trans s0)) ((g3n.2.2 c (by omega)).1.trans ((sh1 c s11).trans s0)) ((r3 6 (by omega) (by omega)).trans s6.1) ?_
  generalize w_r g3 c 1 (some (h_ct h + 1)) = g4 at sh3 r3 r30 r31 i3 c30 n30 c31 n31 f3 t3 q3 ⊢
  rw [nI_1]
  refine ja_copyI (n := K + 1) ((sh3 _ (l 6 (by omega) (by omega))).trans s6.2) (by have := l 6 (by omega) (by omega); omega) (by omega) (by omega) (fun g5 g5n g5s g5c g5t g5l => ?_)
  -- first edges
  rw [t3] at g5s g5c
  rw [t3]
  have sh5 : ∀ x, x < h_ct h → h_sh (w_r g5 c 6 (some (h_ct h + 2))) x = h_sh h x := fun x hx => ((g5n.2.2 x (by omega)).1).trans (sh3 x hx)
  have r5 : ∀ f, f ≠ 0 → f ≠ 1 → f ≠ 6 → h_r (w_r g5 c 6 (some (h_ct h + 2))) c f = h_r h c f := fun f hf hf' hf6 => by rw [w_r_ne (fun z => hf6 z.2), g5n.r (by omega), r3 f hf hf']
  have r50 : h_r (w_r g5 c 6 (some (h_ct h + 2))) c 0 = some (h_ct h) := by rw [w_r_ne (by omega), g5n.r (by omega), r30]
  have r51 : h_r (w_r g5 c 6 (some (h_ct h + 2))) c 1 = some (h_ct h + 1) := by rw [w_r_ne (by omega), g5n.r (by omega), r31]
  have r56 : h_r (w_r g5 c 6 (some (h_ct h + 2))) c 6 = some (h_ct h + 2) := w_r_eq
  have i5 : ∀ x k, x < h_ct h → h_i (w_r g5 c 6 (some (h_ct h + 2))) x k = h_i h x k := fun x k hx => (i_wr ..).trans ((g5n.i (by omega)).trans (i3 x k hx))
  have c50 : ∀ i, i < K → h_i (w_r g5 c 6 (some (h_ct h + 2))) (h_ct h) i = h_i h (ad 0) i := fun i hi => (i_wr ..).trans ((g5n.i (by omega)).trans (c30 i hi))
  have n50 : h_sh (w_r g5 c 6 (some (h_ct h + 2))) (h_ct h) = some (1, 2 * K) := (g5n.2.2 _ (by omega)).1.trans n30
  have c51 : ∀ i, i < K → h_i (w_r g5 c 6 (some (h_ct h + 2))) (h_ct h + 1) i = h_i h (ad 1) i := fun i hi => (i_wr ..).trans ((g5n.i (by omega)).trans (c31 i hi))
  have n51 : h_sh (w_r g5 c 6 (some (h_ct h + 2))) (h_ct h + 1) = some (1, 2 * K) := (g5n.2.2 _ (by omega)).1.trans n31
  have c56 : ∀ i, i < K + 1 → h_i (w_r g5 c 6 (some (h_ct h + 2))) (h_ct h + 2) i = h_i h (ad 6) i := fun i hi => (i_wr ..).trans ((g5c i hi).trans (i3 _ _ (l 6 (by omega) (by omega))))
  have n56 : h_sh (w_r g5 c 6 (some (h_ct h + 2))) (h_ct h + 2) = some (1, 2 * K + 1) := g5s
  have f5 : Ge c (fun _ _ => False) h (w_r g5 c 6 (some (h_ct h + 2))) := (f3.tr (g5n.ge (c := c) (W := fun _ _ => False)) (fun _ _ _ z => z.elim)).tr (Ge.wr (W := fun _ _ => False)) (fun _ _ _ z => z.elim)
  have t5 : h_ct (w_r g5 c 6 (some (h_ct h + 2))) = h_ct h + 3 := by show h_ct g5 = _; omega
  have q5 : h_sl (w_r g5 c 6 (some (h_ct h + 2))) = h_sl h + 6 * K + 1 := by show h_sl g5 = _; omega
  have e11 : nI (2 * K) * (11 : Int32) = nI (22 * K) := by
    rw [show (11 : Int32) = nI 11 from rfl, nI_mulN, show 2 * K * 11 = 22 * K by omega]
  have cl : (nI (22 * K)).toNatClampNeg = 22 * K := nI_clamp (by omega)
  have g5sh : h_sh g5 c = some (0, 1) := (g5n.2.2 c (by omega)).1.trans ((sh3 c s11).trans s0)
  have key : ∀ G : PH, G = w_r g5 c 6 (some (h_ct h + 2)) → Q none (w_r (h_new (w_r (h_new G (4, 22 * K) (22 * K)) c 2 (some (h_ct G))) (4, 22 * K) (22 * K)) c 3 (some (h_ct (w_r (h_new G (4, 22 * K) (22 * K)) c 2 (some (h_ct G)))))) := by
    intro G hG
    rw [← hG] at sh5 r5 r50 r51 r56 i5 c50 n50 c51 n51 c56 n56 f5 t5 q5
    rw [t5]
    have a1 : Gn G (h_new G (4, 22 * K) (22 * K)) := Gn.new ..
    have u1 : h_ct (w_r (h_new G (4, 22 * K) (22 * K)) c 2 (some (h_ct h + 3))) = h_ct h + 4 := by show h_ct G + 1 = _; omega
    rw [u1]
    have a2 : Gn (w_r (h_new G (4, 22 * K) (22 * K)) c 2 (some (h_ct h + 3))) (h_new (w_r (h_new G (4, 22 * K) (22 * K)) c 2 (some (h_ct h + 3))) (4, 22 * K) (22 * K)) := Gn.new ..
    have x3 : h_sh (h_new G (4, 22 * K) (22 * K)) (h_ct h + 3) = some (4, 22 * K) := by
      rw [← t5]
      exact sh_new_eq G (4, 22 * K) (22 * K)
    have x4 : h_sh (h_new (w_r (h_new G (4, 22 * K) (22 * K)) c 2 (some (h_ct h + 3))) (4, 22 * K) (22 * K)) (h_ct h + 4) = some (4, 22 * K) := by
      rw [← u1]
      exact sh_new_eq _ (4, 22 * K) (22 * K)
    have v2 : h_r (w_r (h_new G (4, 22 * K) (22 * K)) c 2 (some (h_ct h + 3))) c 2 = some (h_ct h + 3) := w_r_eq
    have v1 : ∀ f, f ≠ 2 → h_r (w_r (h_new G (4, 22 * K) (22 * K)) c 2 (some (h_ct h + 3))) c f = h_r G c f := fun f hf => by rw [w_r_ne (fun z => hf z.2), a1.r (by omega)]
    have ss : ∀ x, x < h_ct h + 3 → h_sh (w_r (h_new G (4, 22 * K) (22 * K)) c 2 (some (h_ct h + 3))) x = h_sh G x := fun x hx => (a1.2.2 x (by omega)).1
    have s33 : h_sh (w_r (h_new G (4, 22 * K) (22 * K)) c 2 (some (h_ct h + 3))) (h_ct h + 3) = some (4, 22 * K) := x3
    have ii : ∀ x k, x < h_ct h + 3 → h_i (w_r (h_new G (4, 22 * K) (22 * K)) c 2 (some (h_ct h + 3))) x k = h_i G x k := fun x k hx => (i_wr ..).trans (a1.i (by omega))
    have ff : Ge c (fun _ _ => False) h (w_r (h_new G (4, 22 * K) (22 * K)) c 2 (some (h_ct h + 3))) := (f5.tr (a1.ge (c := c) (W := fun _ _ => False)) (fun _ _ _ z => z.elim)).tr (Ge.wr (W := fun _ _ => False)) (fun _ _ _ z => z.elim)
    have qq : h_sl (w_r (h_new G (4, 22 * K) (22 * K)) c 2 (some (h_ct h + 3))) = h_sl h + 28 * K + 1 := by show h_sl G + 22 * K = _; omega
    generalize w_r (h_new G (4, 22 * K) (22 * K)) c 2 (some (h_ct h + 3)) = G2 at u1 a2 x4 v2 v1 ss s33 ii ff qq ⊢
    have w3 : h_r (w_r (h_new G2 (4, 22 * K) (22 * K)) c 3 (some (h_ct h + 4))) c 3 = some (h_ct h + 4) := w_r_eq
    have w1 : ∀ f, f ≠ 3 → h_r (w_r (h_new G2 (4, 22 * K) (22 * K)) c 3 (some (h_ct h + 4))) c f = h_r G2 c f := fun f hf => by rw [w_r_ne (fun z => hf z.2), a2.r (by omega)]
    have ws : ∀ x, x < h_ct h + 4 → h_sh (w_r (h_new G2 (4, 22 * K) (22 * K)) c 3 (some (h_ct h + 4))) x = h_sh G2 x := fun x hx => (a2.2.2 x (by omega)).1
    have w34 : h_sh (w_r (h_new G2 (4, 22 * K) (22 * K)) c 3 (some (h_ct h + 4))) (h_ct h + 4) = some (4, 22 * K) := x4
    have wi : ∀ x k, x < h_ct h + 4 → h_i (w_r (h_new G2 (4, 22 * K) (22 * K)) c 3 (some (h_ct h + 4))) x k = h_i G2 x k := fun x k hx => (i_wr ..).trans (a2.i (by omega))
    have wf : Ge c (fun _ _ => False) h (w_r (h_new G2 (4, 22 * K) (22 * K)) c 3 (some (h_ct h + 4))) := (ff.tr (a2.ge (c := c) (W := fun _ _ => False)) (fun _ _ _ z => z.elim)).tr (Ge.wr (W := fun _ _ => False)) (fun _ _ _ z => z.elim)
    have wt : h_ct (w_r (h_new G2 (4, 22 * K) (22 * K)) c 3 (some (h_ct h + 4))) = h_ct h + 5 := by show h_ct G2 + 1 = _; omega
    have wq : h_sl (w_r (h_new G2 (4, 22 * K) (22 * K)) c 3 (some (h_ct h + 4))) = h_sl h + 50 * K + 1 := by show h_sl G2 + 22 * K = _; omega
    generalize w_r (h_new G2 (4, 22 * K) (22 * K)) c 3 (some (h_ct h + 4)) = G3 at w3 w1 ws w34 wi wf wt wq ⊢
    have rr : ∀ f, f ≠ 0 → f ≠ 1 → f ≠ 6 → f ≠ 2 → f ≠ 3 → h_r G3 c f = h_r h c f := fun f a b c' d' e' => by rw [w1 f e', v1 f d', r5 f a b c']
    have hh : ∀ x, x < h_ct h → h_sh G3 x = h_sh h x := fun x hx => by rw [ws x (by omega), ss x (by omega), sh5 x hx]
    have I0 : adI c (h_ct h + 1) (fun f => if f = 0 then h_ct h else ad f) := s9.set (Nat.le_refl _) (by omega) s11 s10
    have I1 : adI c (h_ct h + 2) (fun f => if f = 1 then h_ct h + 1 else if f = 0 then h_ct h else ad f) := I0.set (Nat.le_refl _) (by omega) (by omega) s10
    have I2 : adI c (h_ct h + 3) (fun f => if f = 6 then h_ct h + 2 else if f = 1 then h_ct h + 1 else if f = 0 then h_ct h else ad f) := I1.set (Nat.le_refl _) (by omega) (by omega) s10
    have I3 : adI c (h_ct h + 4) (fun f => if f = 2 then h_ct h + 3 else if f = 6 then h_ct h + 2 else if f = 1 then h_ct h + 1 else if f = 0 then h_ct h else ad f) := I2.set (Nat.le_refl _) (by omega) (by omega) s10
    have I4 : adI c (h_ct h + 5) (fun f => if f = 3 then h_ct h + 4 else if f = 2 then h_ct h + 3 else if f = 6 then h_ct h + 2 else if f = 1 then h_ct h + 1 else if f = 0 then h_ct h else ad f) := I3.set (Nat.le_refl _) (by omega) (by omega) s10
    have e22 : 11 * (2 * K) = 22 * K := by omega
    refine k G3 (fun f => if f = 3 then h_ct h + 4 else if f = 2 then h_ct h + 3 else if f = 6 then h_ct h + 2 else if f = 1 then h_ct h + 1 else if f = 0 then h_ct h else ad f) ⟨(hh c s11).trans s0, ⟨?_, ?_⟩, ⟨?_, ?_⟩, ⟨?_, ?_⟩, ⟨w3, by rw [e22]; exact w34⟩, ⟨(rr 5 (by omega) (by omega) (by omega) (by omega) (by omega)).trans s5.1, (hh _ (l 5 (by omega) (by omega))).trans s5.2⟩, ⟨?_, ?_⟩, ⟨(rr 7 (by omega) (by omega) (by omega) (by omega) (by omega)).trans s7.1, (hh _ (l 7 (by omega) (by omega))).trans s7.2⟩, ⟨(rr 8 (by omega) (by omega) (by omega) (by omega) (by omega)).trans s8.1, (hh _ (l 8 (by omega) (by omega))).trans s8.2⟩, by rw [wt]; exact I4, s10, by omega⟩ (fun i hi => ⟨?_, ?_⟩) (fun i hi => ?_) rfl rfl rfl (fun f => ?_) wf ⟨by omega, by omega⟩
    · rw [w1 0 (by omega), v1 0 (by omega), r50]
      rfl
    · show h_sh G3 (h_ct h) = _
      rw [ws _ (by omega), ss _ (by omega), n50]
    · rw [w1 1 (by omega), v1 1 (by omega), r51]
      rfl
    · show h_sh G3 (h_ct h + 1) = _
      rw [ws _ (by omega), ss _ (by omega), n51]
    · rw [w1 2 (by omega), v2]
      rfl
    · show h_sh G3 (h_ct h + 3) = _
      rw [ws _ (by omega), s33, e22]
    · rw [w1 6 (by omega), v1 6 (by omega), r56]
      rfl
    · show h_sh G3 (h_ct h + 2) = _
      rw [ws _ (by omega), ss _ (by omega), n56]
    · show h_i G3 (h_ct h) i = _
      rw [wi _ _ (by omega), ii _ _ (by omega), c50 i hi]
    · show h_i G3 (h_ct h + 1) i = _
      rw [wi _ _ (by omega), ii _ _ (by omega), c51 i hi]
    · show h_i G3 (h_ct h + 2) i = _
      rw [wi _ _ (by omega), ii _ _ (by omega), c56 i hi]
    · show (if f = 3 then h_ct h + 4 else if f = 2 then h_ct h + 3 else if f = 6 then h_ct h + 2 else if f = 1 then h_ct h + 1 else if f = 0 then h_ct h else ad f) = ad f ∨ h_ct h ≤ (if f = 3 then h_ct h + 4 else if f = 2 then h_ct h + 3 else if f = 6 then h_ct h + 2 else if f = 1 then h_ct h + 1 else if f = 0 then h_ct h else ad f)
      split
      · omega
      · split
        · omega
        · split
          · omega
          · split
            · omega
            · split <;> omega
  refine B_Ce_growStates_43 g5sh ?_ ?_ ?_ (B_Ce_growStates_66 ?_)
  · rw [e11, cl]
    exact fun z => z.elim (fun q => nI_lt0 (by omega) q) (fun q => by omega)
  · rw [e11, cl, sh_new_lt (by omega)]
    exact (sh5 c s11).trans s0
  · rw [e11, cl, sh_new_lt (by show c < h_ct (w_r g5 c 6 (some (h_ct h + 2))) + 1; omega)]
    show h_sh (h_new (w_r g5 c 6 (some (h_ct h + 2))) (4, 22 * K) (22 * K)) c = _
    rw [sh_new_lt (by omega)]
    exact (sh5 c s11).trans s0
  · rw [e11, cl]
    exact key _ rfl
