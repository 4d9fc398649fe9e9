/-! witness on the class's side: one pair and one letter more -/
theorem bt.t {v : Int32} {P : Prop} (h : bt v P) (z : v = 0) : ¬ P := fun p => by
  rw [h.1 p] at z
  exact absurd z (by decide)
theorem bt.f {v : Int32} {P : Prop} (h : bt v P) (z : ¬ v = 0) : P := Classical.byContradiction (fun p => z (h.2 p))
theorem dv792 : ∀ k, k < 792 → nI k / (8 : Int32) = nI (k / 8) := by decide +kernel
def TwI (h : PH) (b : Nat) (N gs : List (List Nat)) (m : Nat) (E : List TwE) (wc : List Nat) (v : Nat) (g : PH) (E1 : List TwE) : Prop := QS g b N E1 ∧ Qok gs m E1 wc v ∧ Fr (Wtw b) h g ∧ ∃ L, E1 = E ++ L ∧ ∀ q ∈ L, q.2.2.2 = v
theorem TwI.mem {h g : PH} {b m v : Nat} {N gs : List (List Nat)} {E E1 : List TwE} {wc : List Nat} (i : TwI h b N gs m E wc v g E1) {x y : List Nat} (hp : ∃ p ∈ E1, p.2.1 = x ∧ p.2.2.1 = y) : ∃ p ∈ E1, p.2.1 = x ∧ p.2.2.1 = y ∧ pkN p.1 ≤ pkN wc := by
  obtain ⟨p, p1, p2, p3⟩ := hp
  exact ⟨p, p1, p2, p3, (i.2.1.2.1 p p1).1⟩
theorem pr_up {E1 E2 : List TwE} {x y : List Nat} (h : ∃ p ∈ E1, p.2.1 = x ∧ p.2.2.1 = y) (hL : ∃ L, E2 = E1 ++ L) : ∃ p ∈ E2, p.2.1 = x ∧ p.2.2.1 = y := by
  obtain ⟨p, p1, p2⟩ := h
  obtain ⟨L, e⟩ := hL
  exact ⟨p, by rw [e]; exact List.mem_append.mpr (Or.inl p1), p2⟩
theorem tw_step {d : Nat} {h : PH} {Q : PQ} {b c v e s m : Nat} {N gs : List (List Nat)} {E : List TwE} {q : TwE} (hT : TrS h c) (hc : CTr h c N gs m) (hS : TwS h b) (hd : c + 9 < b ∨ b + 6 < c) (hE : QS h b N E) (hQ : Qok gs m E (q.1 ++ [s]) v) (hv : h_i h b 6 = nI v) (he : E[e]? = some q) (s0 : 0 < s) (s1 : s < 28) (k0 : ∀ h' E', TwI h b N gs m E (q.1 ++ [s]) v h' E' → dnE gs m E' q s → Q (some (.int 0)) h') (k1 : ∀ h' E', TwI h b N gs m E (q.1 ++ [s]) v h' E' → Clo gs m q.2.1 q.2.2.1 s → Q (some (.int 1)) h') : wpm (d + 2) 102 [.ref b, .ref c, .int (nI e), .int (nI s)] h Q := by
  refine wpm_in P_Tw_step rfl (by decide) (by show ¬ 8 < 4; decide) ?_
  obtain ⟨w, x, y, vb⟩ := q
  have hN : okN N := hc.1.1
  have n99 := hN.2.2.2.1
  have hRq : RcT gs m w x y := hQ.1 _ (List.mem_of_getElem? he)
  obtain ⟨⟨hx, ⟨r, hr⟩, hy, h8⟩, est, _, _⟩ := hE.2.1 e _ he
  have hx : x ∈ N := hx
  have hr : x = r ++ y := hr
  have hy : y ∈ N := hy
  have h8 : y.length < 8 := h8
  have est : h_i h (b + 2) e = nI (nix N x * 8 + y.length) := est
  have hQ : Qok gs m E (w ++ [s]) v := hQ
  have el := (List.getElem?_eq_some_iff.mp he).1
  have ele := hE.le hN
  have hu := nix_lt hx
  have huy := nix_lt hy
  have edv : nI (nix N x * 8 + y.length) / (8 : Int32) = nI (nix N x) := by rw [dv792 _ (by omega), show (nix N x * 8 + y.length) / 8 = nix N x by omega]
  have emd : nI (nix N x * 8 + y.length) - nI (nix N x * 8 + y.length) / (8 : Int32) * (8 : Int32) = nI y.length := by
    have := nI_rem (u := nix N x * 8 + y.length) (c := 8) (by omega) (by omega)
    rw [show (nix N x * 8 + y.length) % 8 = y.length by omega] at this
    exact this
  have e9 : h_i h c 9 = nI N.length := hc.1.2.1
  have enx : h_i h (c + 1) (nix N x * 28 + s) = nd N (x ++ [s]) := (hc.1.2.2.2.1 _ _ (nix_get hx)).2.2.2.2 s s1
  have eny : h_i h (c + 1) (nix N y * 28 + s) = nd N (y ++ [s]) := (hc.1.2.2.2.1 _ _ (nix_get hy)).2.2.2.2 s s1
  have ebk : h_i h (c + 2) (nix N x * 8 + y.length) = nI (nix N y) := by
    rw [hc.2.2.1 _ _ (nix_get hx) _ h8]
    unfold bk
    have hl : y.length ≤ x.length := by rw [hr, List.length_append]; omega
    have ed : x.drop (x.length - y.length) = y := by
      rw [hr, List.length_append, Nat.add_sub_cancel]
      exact List.drop_left
    rw [if_pos hl, ed, nd_at hN.1 (nix_get hy)]
  have inN : ∀ z, isI gs m z ∨ isG gs m z → z ∈ N := fun z hz => (hc.2.1 z).mpr (Or.inr hz)
  have i00 : TwI h b N gs m E (w ++ [s]) v h E := ⟨hE, hQ, Fr.rf _ _, [], (List.append_nil _).symm, fun q hq => by cases hq⟩
  refine B_Tw_step_0 hS.1 hS.2.2.1.1 hS.2.2.1.2 (vp_in_nI (by omega) (by omega)) hT.1 ?_
  rw [nI_clamp (by omega), est, emd, edv]
  refine tr_next_v hT e9 n99 hu s0 s1 (B_Tw_step_29 hT.1 ?_)
  refine tr_back_v hT e9 n99 hu h8 (B_Tw_step_40 hT.1 ?_)
  rw [ebk]
  refine tr_next_v hT e9 n99 huy s0 s1 ?_
  rw [enx, eny]
  by_cases hX : x ++ [s] ∈ N
  · by_cases hY : y ++ [s] ∈ N
    · rw [nd_at hN.1 (nix_get hX), nd_at hN.1 (nix_get hY)]
      have lX := nix_lt hX
      have lY := nix_lt hY
      have cg : ∀ {g E1}, TwI h b N gs m E (w ++ [s]) v g E1 → CTr g c N gs m := fun i => CTr.fr i.2.2.1 (fun a j z => by unfold Wtw at z; omega) hc
      have bI : ∀ {g E1} {X : List Nat}, TwI h b N gs m E (w ++ [s]) v g E1 → X ∈ N → bt (h_i g (c + 5) (nix N X)) (isI gs m X) := fun i hX => ((cg i).1.2.2.2.1 _ _ (nix_get hX)).2.2.1
      have bW : ∀ {g E1} {X : List Nat}, TwI h b N gs m E (w ++ [s]) v g E1 → X ∈ N → bt (h_i g (c + 4) (nix N X)) (isG gs m X) := fun i hX => ((cg i).1.2.2.2.1 _ _ (nix_get hX)).2.1
      have bD : ∀ {g E1} {X : List Nat}, TwI h b N gs m E (w ++ [s]) v g E1 → X ∈ N → h_i g (c + 3) (nix N X) = nI X.length := fun i hX => ((cg i).1.2.2.2.1 _ _ (nix_get hX)).1
      have l7 : ∀ {X : List Nat}, X ∈ N → X.length < 8 := fun hX => by have := (hN.2.2.1 _ hX).2; omega
      have n0 : ([] : List Nat) ∈ N := List.mem_of_getElem? hN.2.1
      have psh : ∀ (g : PH) (E1 : List TwE) (x' y' : List Nat) (Qq : PQ), TwI h b N gs m E (w ++ [s]) v g E1 → okq N (w ++ [s], x', y', v) → RcT gs m (w ++ [s]) x' y' → (∀ g' E2, TwI h b N gs m E (w ++ [s]) v g' E2 → (∃ L, E2 = E1 ++ L) → (∃ p ∈ E2, p.2.1 = x' ∧ p.2.2.1 = y') → Qq none g') → wpm (d + 1) 103 [.ref b, .int (nI (nix N x')), .int (nI y'.length), .int (nI e), .int (nI s)] g Qq := by
        intro g E1 x' y' Qq ⟨i1, i2, i3, L, i4, i5⟩ hok hr k
        refine tw_push hN (hS.fr i3) i1 ((i3.i _ _ (fun z => by unfold Wtw at z; omega)).trans hv) hok s1 (Or.inr ⟨e, w, (x, y, vb), by rw [i4, List.getElem?_append_left el]; exact he, s0, s1, rfl, rfl⟩) (fun g' E2 hE2 h2 f2 => ?_)
        rcases h2 with ⟨e2, hp⟩ | e2
        · rw [e2] at hE2
          exact k g' E1 ⟨hE2, i2, i3.tr f2, L, i4, i5⟩ ⟨[], (List.append_nil _).symm⟩ hp
        · rw [e2] at hE2
          exact k g' _ ⟨hE2, i2.add hr, i3.tr f2, L ++ [(w ++ [s], x', y', v)], by rw [i4, List.append_assoc], fun q hq => (List.mem_append.mp hq).elim (i5 q) (fun z => by rw [List.mem_singleton.mp z])⟩ ⟨_, rfl⟩ ⟨_, List.mem_append.mpr (Or.inr (List.mem_singleton.mpr rfl)), rfl, rfl⟩
      refine B_Tw_step_44 (fun z => absurd z (nI_neg1 (by omega))) (fun _ => B_Tw_step_52 (fun _ => ?_) (fun z => absurd z (nI_neg1 (by omega))))
      have vX : vp_in (nI (nix N (x ++ [s]))) 99 := vp_in_nI (by omega) (by omega)
      have vY : vp_in (nI (nix N (y ++ [s]))) 99 := vp_in_nI (by omega) (by omega)
      by_cases hxy : x = y
      · subst hxy
        refine B_Tw_step_60 (fun z => absurd rfl z) (fun _ => ?_)
        have st121 : ∀ g E1, TwI h b N gs m E (w ++ [s]) v g E1 → (isI gs m (x ++ [s]) → ∃ p ∈ E1, p.2.1 = x ++ [s] ∧ p.2.2.1 = x ++ [s]) → (isI gs m (x ++ [s]) → isG gs m (x ++ [s]) → ∃ p ∈ E1, p.2.1 = x ++ [s] ∧ p.2.2.1 = []) → wpx (d + 1) P_Tw_step 121 [.ref b, .ref c, .int (nI e), .int (nI s), .int (nI (nix N x)), .int (nI x.length), .int (nI (nix N (x ++ [s]))), .int (nI (nix N (x ++ [s])))] [] g Q := fun g E1 i a1 a2 => by
          refine B_Tw_step_121 (k0 g E1 i ⟨fun x' y' hs => i.mem ?_, fun z => z.1 rfl⟩)
          rcases hs with ⟨_, i1, ex, ey | ⟨g1, ey⟩⟩ | ⟨z, _⟩
          · rw [ex, ey]
            exact a1 i1
          · rw [ex, ey]
            exact a2 i1 g1
          · exact absurd rfl z
        have st92 : ∀ g E1, TwI h b N gs m E (w ++ [s]) v g E1 → (isI gs m (x ++ [s]) → ∃ p ∈ E1, p.2.1 = x ++ [s] ∧ p.2.2.1 = x ++ [s]) → wpx (d + 1) P_Tw_step 92 [.ref b, .ref c, .int (nI e), .int (nI s), .int (nI (nix N x)), .int (nI x.length), .int (nI (nix N (x ++ [s]))), .int (nI (nix N (x ++ [s])))] [] g Q := fun g E1 i a1 => by
          have hTg := hT.fr i.2.2.1
          have hSg := hS.fr i.2.2.1
          refine B_Tw_step_92 hTg.1 hTg.2.2.2.2.2.1.1 hTg.2.2.2.2.2.1.2 vX (fun z => ?_) (fun z => B_Tw_step_102 hTg.1 hTg.2.2.2.2.1.1 hTg.2.2.2.2.1.2 vX (fun z2 => ?_) (fun z2 => ?_))
          · rw [nI_clamp (by omega)] at z
            exact st121 g E1 i a1 (fun p => absurd p ((bI i hX).t z))
          · rw [nI_clamp (by omega)] at z2
            exact st121 g E1 i a1 (fun _ p => absurd p ((bW i hX).t z2))
          · rw [nI_clamp (by omega)] at z z2
            have iX := (bI i hX).f z
            have gX := (bW i hX).f z2
            refine B_Tw_step_112 hSg.1 (psh g E1 (x ++ [s]) [] _ i ⟨hX, ⟨_, (List.append_nil _).symm⟩, n0, by show 0 < 8; omega⟩ (hRq.go (Or.inl ⟨rfl, iX, rfl, Or.inr ⟨gX, rfl⟩⟩)) (fun g2 E2 i2 l2 p2 => st121 g2 E2 i2 (fun p => pr_up (a1 p) l2) (fun _ _ => p2)))
        refine B_Tw_step_67 hT.1 hT.2.2.2.2.2.1.1 hT.2.2.2.2.2.1.2 vX (fun z => ?_) (fun z => B_Tw_step_77 hT.1 hT.2.2.2.1.1 hT.2.2.2.1.2 vX hS.1 ?_)
        · rw [nI_clamp (by omega)] at z
          exact st92 h E i00 (fun p => absurd p ((bI i00 hX).t z))
        · rw [nI_clamp (by omega)] at z ⊢
          have iX := (bI i00 hX).f z
          rw [bD i00 hX]
          exact psh h E (x ++ [s]) (x ++ [s]) _ i00 ⟨hX, ⟨[], rfl⟩, hX, l7 hX⟩ (hRq.go (Or.inl ⟨rfl, iX, rfl, Or.inl rfl⟩)) (fun g2 E2 i2 l2 p2 => st92 g2 E2 i2 (fun _ => p2))
      · have rXY : ∃ r, x ++ [s] = r ++ (y ++ [s]) := ⟨r, by rw [hr, List.append_assoc]⟩
        refine B_Tw_step_60 (fun _ => ?_) (fun z => ?_)
        · have st216 : ∀ g E1, TwI h b N gs m E (w ++ [s]) v g E1 → (isI gs m (x ++ [s]) → isI gs m (y ++ [s]) → ∃ p ∈ E1, p.2.1 = x ++ [s] ∧ p.2.2.1 = y ++ [s]) → (isI gs m (x ++ [s]) → isG gs m (y ++ [s]) → ∃ p ∈ E1, p.2.1 = x ++ [s] ∧ p.2.2.1 = []) → (isG gs m (x ++ [s]) → isI gs m (y ++ [s]) → ∃ p ∈ E1, p.2.1 = y ++ [s] ∧ p.2.2.1 = []) → wpx (d + 1) P_Tw_step 216 [.ref b, .ref c, .int (nI e), .int (nI s), .int (nI (nix N x)), .int (nI y.length), .int (nI (nix N (x ++ [s]))), .int (nI (nix N (y ++ [s])))] [] g Q := fun g E1 i a1 a2 a3 => by
            have hTg := hT.fr i.2.2.1
            have dn : ¬ (isG gs m (x ++ [s]) ∧ isG gs m (y ++ [s])) → dnE gs m E1 (w, x, y, vb) s := fun hno => by
              refine ⟨fun x' y' hs => i.mem ?_, fun z => hno z.2⟩
              rcases hs with ⟨z, _⟩ | ⟨_, ⟨i1, i2, ex, ey⟩ | ⟨i1, i2, ex, ey⟩ | ⟨i1, i2, ex, ey⟩⟩
              · exact absurd z hxy
              · rw [ex, ey]
                exact a1 i1 i2
              · rw [ex, ey]
                exact a2 i1 i2
              · rw [ex, ey]
                exact a3 i1 i2
            refine B_Tw_step_216 hTg.1 hTg.2.2.2.2.1.1 hTg.2.2.2.2.1.2 vX (fun z => ?_) (fun z => B_Tw_step_226 hTg.1 hTg.2.2.2.2.1.1 hTg.2.2.2.2.1.2 vY (fun z2 => ?_) (fun z2 => ?_))
            · rw [nI_clamp (by omega)] at z
              exact B_Tw_step_240 (B_Tw_step_241 rfl (k0 g E1 i (dn (fun p => (bW i hX).t z p.1))))
            · rw [nI_clamp (by omega)] at z2
              exact B_Tw_step_240 (B_Tw_step_241 rfl (k0 g E1 i (dn (fun p => (bW i hY).t z2 p.2))))
            · rw [nI_clamp (by omega)] at z z2
              exact B_Tw_step_236 (B_Tw_step_241 rfl (k1 g E1 i ⟨hxy, (bW i hX).f z, (bW i hY).f z2⟩))
          have st187 : ∀ g E1, TwI h b N gs m E (w ++ [s]) v g E1 → (isI gs m (x ++ [s]) → isI gs m (y ++ [s]) → ∃ p ∈ E1, p.2.1 = x ++ [s] ∧ p.2.2.1 = y ++ [s]) → (isI gs m (x ++ [s]) → isG gs m (y ++ [s]) → ∃ p ∈ E1, p.2.1 = x ++ [s] ∧ p.2.2.1 = []) → wpx (d + 1) P_Tw_step 187 [.ref b, .ref c, .int (nI e), .int (nI s), .int (nI (nix N x)), .int (nI y.length), .int (nI (nix N (x ++ [s]))), .int (nI (nix N (y ++ [s])))] [] g Q := fun g E1 i a1 a2 => by
            have hTg := hT.fr i.2.2.1
            have hSg := hS.fr i.2.2.1
            refine B_Tw_step_187 hTg.1 hTg.2.2.2.2.1.1 hTg.2.2.2.2.1.2 vX (fun z => ?_) (fun z => B_Tw_step_197 hTg.1 hTg.2.2.2.2.2.1.1 hTg.2.2.2.2.2.1.2 vY (fun z2 => ?_) (fun z2 => ?_))
            · rw [nI_clamp (by omega)] at z
              exact st216 g E1 i a1 a2 (fun p => absurd p ((bW i hX).t z))
            · rw [nI_clamp (by omega)] at z2
              exact st216 g E1 i a1 a2 (fun _ p => absurd p ((bI i hY).t z2))
            · rw [nI_clamp (by omega)] at z z2
              have gX := (bW i hX).f z
              have iY := (bI i hY).f z2
              exact B_Tw_step_207 hSg.1 (psh g E1 (y ++ [s]) [] _ i ⟨hY, ⟨_, (List.append_nil _).symm⟩, n0, by show 0 < 8; omega⟩ (hRq.go (Or.inr ⟨hxy, Or.inr (Or.inr ⟨gX, iY, rfl, rfl⟩)⟩)) (fun g2 E2 i2 l2 p2 => st216 g2 E2 i2 (fun p p' => pr_up (a1 p p') l2) (fun p p' => pr_up (a2 p p') l2) (fun _ _ => p2)))
          have st158 : ∀ g E1, TwI h b N gs m E (w ++ [s]) v g E1 → (isI gs m (x ++ [s]) → isI gs m (y ++ [s]) → ∃ p ∈ E1, p.2.1 = x ++ [s] ∧ p.2.2.1 = y ++ [s]) → wpx (d + 1) P_Tw_step 158 [.ref b, .ref c, .int (nI e), .int (nI s), .int (nI (nix N x)), .int (nI y.length), .int (nI (nix N (x ++ [s]))), .int (nI (nix N (y ++ [s])))] [] g Q := fun g E1 i a1 => by
            have hTg := hT.fr i.2.2.1
            have hSg := hS.fr i.2.2.1
            refine B_Tw_step_158 hTg.1 hTg.2.2.2.2.2.1.1 hTg.2.2.2.2.2.1.2 vX (fun z => ?_) (fun z => B_Tw_step_168 hTg.1 hTg.2.2.2.2.1.1 hTg.2.2.2.2.1.2 vY (fun z2 => ?_) (fun z2 => ?_))
            · rw [nI_clamp (by omega)] at z
              exact st187 g E1 i a1 (fun p => absurd p ((bI i hX).t z))
            · rw [nI_clamp (by omega)] at z2
              exact st187 g E1 i a1 (fun _ p => absurd p ((bW i hY).t z2))
            · rw [nI_clamp (by omega)] at z z2
              have iX := (bI i hX).f z
              have gY := (bW i hY).f z2
              exact B_Tw_step_178 hSg.1 (psh g E1 (x ++ [s]) [] _ i ⟨hX, ⟨_, (List.append_nil _).symm⟩, n0, by show 0 < 8; omega⟩ (hRq.go (Or.inr ⟨hxy, Or.inr (Or.inl ⟨iX, gY, rfl, rfl⟩)⟩)) (fun g2 E2 i2 l2 p2 => st187 g2 E2 i2 (fun p p' => pr_up (a1 p p') l2) (fun _ _ => p2)))
          refine B_Tw_step_123 hT.1 hT.2.2.2.2.2.1.1 hT.2.2.2.2.2.1.2 vX (fun z => ?_) (fun z => B_Tw_step_133 hT.1 hT.2.2.2.2.2.1.1 hT.2.2.2.2.2.1.2 vY (fun z2 => ?_) (fun z2 => B_Tw_step_143 hT.1 hT.2.2.2.1.1 hT.2.2.2.1.2 vY hS.1 ?_))
          · rw [nI_clamp (by omega)] at z
            exact st158 h E i00 (fun p => absurd p ((bI i00 hX).t z))
          · rw [nI_clamp (by omega)] at z2
            exact st158 h E i00 (fun _ p => absurd p ((bI i00 hY).t z2))
          · rw [nI_clamp (by omega)] at z z2 ⊢
            have iX := (bI i00 hX).f z
            have iY := (bI i00 hY).f z2
            rw [bD i00 hY]
            exact psh h E (x ++ [s]) (y ++ [s]) _ i00 ⟨hX, rXY, hY, l7 hY⟩ (hRq.go (Or.inr ⟨hxy, Or.inl ⟨iX, iY, rfl, rfl⟩⟩)) (fun g2 E2 i2 l2 p2 => st158 g2 E2 i2 (fun _ _ => p2))
        · rw [nI_eq (by omega) (by omega)] at z
          have a := nix_get hX
          rw [z, nix_get hY] at a
          exact absurd (List.append_cancel_right (Option.some.inj a)).symm hxy
    · rw [nd_no hY, nd_at hN.1 (nix_get hX)]
      have lX := nix_lt hX
      refine B_Tw_step_44 (fun z => absurd z (nI_neg1 (by omega))) (fun _ => B_Tw_step_52 (fun z => absurd rfl z) (fun _ => B_Tw_step_58 (k0 h E i00 ⟨fun x' y' hs => absurd (inN _ hs.mem.2) hY, fun z => absurd (inN _ (Or.inr z.2.2)) hY⟩)))
  · rw [nd_no hX]
    exact B_Tw_step_44 (fun _ => B_Tw_step_58 (k0 h E i00 ⟨fun x' y' hs => absurd (inN _ hs.mem.1) hX, fun z => absurd (inN _ (Or.inr z.2.1)) hX⟩)) (fun z => absurd rfl z)
