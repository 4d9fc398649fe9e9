/-! words on the class's side: how many words lie behind each state -/
def eS (f : Nat → Nat) (gs : List (List Nat)) (m j : Nat) (V : List (List Nat)) (es : List (Nat × Nat)) : Nat := (es.map (fun q => cnF f gs m j (V.getD q.2 []))).sum
theorem eS_snoc {f : Nat → Nat} {gs : List (List Nat)} {m j : Nat} {V : List (List Nat)} {es : List (Nat × Nat)} {q : Nat × Nat} : eS f gs m j V (es ++ [q]) = eS f gs m j V es + cnF f gs m j (V.getD q.2 []) := by
  unfold eS
  rw [List.map_append, List.sum_append]
  show _ + (_ + 0) = _
  rw [Nat.add_zero]
theorem EL.sum {f : Nat → Nat} {N gs : List (List Nat)} {m j : Nat} {V : List (List Nat)} {v : List Nat} (hf : f2 f) (ho : okg gs m) (hu : unlk gs) (hN : okN N) (hi : ∀ x, isI gs m x → x ∈ N) : ∀ {n : Nat} {es : List (Nat × Nat)}, EL N gs m V v n es → eS f gs m j V es = sm (fun i => cnF f gs m j (v ++ [i + 1])) n
  | 0, es, h => by
    have h : es = [] := h
    rw [h]
    rfl
  | n + 1, es, ⟨es', h1, h2⟩ => by
    have ih := EL.sum (j := j) hf ho hu hN hi h1
    show _ = sm _ n + cnF f gs m j (v ++ [n + 1])
    rcases h2 with ⟨a, e⟩ | ⟨_, t, u, a, b, _, e⟩
    · rw [e, ih, cnF_k0 hf ho hu a, Nat.add_zero]
    · rw [e, eS_snoc, ih, gD a, cnF_ky hf ho hu hN hi b]
theorem EL.lev {N gs : List (List Nat)} {m : Nat} {V : List (List Nat)} {v : List Nat} : ∀ {n : Nat} {es : List (Nat × Nat)}, EL N gs m V v n es → ∀ q ∈ es, ∃ u, V[q.2]? = some u ∧ u.length ≤ v.length + 1 ∧ 0 < q.1 ∧ q.1 ≤ n ∧ kyW N gs m u = kyW N gs m (v ++ [q.1])
  | 0, es, h => by
    have h : es = [] := h
    rw [h]
    exact fun q hq => by cases hq
  | n + 1, es, ⟨es', h1, h2⟩ => fun q hq => by
    rcases h2 with ⟨_, e⟩ | ⟨_, t, u, a, b, c, e⟩
    · rw [e] at hq
      obtain ⟨u, c1, c2, c3, c4, c5⟩ := EL.lev h1 q hq
      exact ⟨u, c1, c2, c3, by omega, c5⟩
    · rw [e] at hq
      rcases mem_snoc hq with z | z
      · obtain ⟨u, c1, c2, c3, c4, c5⟩ := EL.lev h1 q z
        exact ⟨u, c1, c2, c3, by omega, c5⟩
      · rw [z]
        exact ⟨u, a, c, Nat.succ_pos _, Nat.le_refl _, b⟩
def CtS (h : PH) (ad : Nat → Nat) (gs : List (List Nat)) (m t j : Nat) (u : List Nat) : Prop := h_l h (ad 2) (t * 11 + j) = lN (cnF oneN gs m j u) ∧ h_l h (ad 3) (t * 11 + j) = lN (cnF onlyN gs m j u)
theorem ce_countFrom {d : Nat} {h : PH} {Q : PQ} {c m K M E s j : Nat} {ad : Nat → Nat} {N gs V : List (List Nat)} {ed : List (Nat × Nat)} {F : Nat → Nat} {v : List Nat} (ho : okg gs m) (hu : unlk gs) (hN : okN N) (hi : ∀ x, isI gs m x → x ∈ N) (hI : BIv N gs m c h ad K M E V ed) (hE : BEd N gs m V ed F V.length) (hF : ∀ s', s' ≤ V.length → h_i h (ad 6) s' = nI (F s')) (hs : V[s]? = some v) (hj : v.length + j ≤ 10) (hp : ∀ j', j = j' + 1 → ∀ (t : Nat) (u : List Nat), V[t]? = some u → u.length + j' ≤ 10 → CtS h ad gs m t j' u) (k : ∀ h', Fr (fun x k => (x = ad 2 ∨ x = ad 3) ∧ k = s * 11 + j) h h' → CtS h' ad gs m s j v → Q none h') : wpm (d + 1) 21 [.ref c, .int (nI s), .int (nI j)] h Q := by
  refine wpm_in P_Ce_countFrom rfl (by decide) (by show ¬ 5 < 3; decide) ?_
  have hS := hI.1
  obtain ⟨s0, s1, s2, s3, s4, s5, s6, s7, s8, s9, s10, s11⟩ := hI.1
  have v3 := keys_le ho hN hI.2.1.2.2.1 hI.2.1.2.2.2
  have kl := hI.2.2.2.1.1.le
  have VK := hI.2.2.2.2.1
  have sl := (List.getElem?_eq_some_iff.mp hs).1
  have n23 : ad 2 ≠ ad 3 := s9.ne (by omega) (by omega) (by omega) (by omega) (by omega)
  have ex : nI s * (11 : Int32) + nI j = nI (s * 11 + j) := by rw [show (11 : Int32) = nI 11 from rfl, nI_mulN, nI_add]
  have vx : vp_in (nI (s * 11 + j)) (11 * K) := vp_in_nI (by omega) (by omega)
  have cx : (nI (s * 11 + j)).toNatClampNeg = s * 11 + j := nI_clamp (by omega)
  obtain ⟨ky, lv⟩ := hI.2.1.2.1 s v hs
  have W2 : ∀ (g : PH) (a : Int64), Fr (fun x k => (x = ad 2 ∨ x = ad 3) ∧ k = s * 11 + j) g (w_l g (ad 2) (s * 11 + j) a) := fun g a => Fr.wl _ _ ⟨Or.inl rfl, rfl⟩
  have W3 : ∀ (g : PH) (a : Int64), Fr (fun x k => (x = ad 2 ∨ x = ad 3) ∧ k = s * 11 + j) g (w_l g (ad 3) (s * 11 + j) a) := fun g a => Fr.wl _ _ ⟨Or.inr rfl, rfl⟩
  by_cases j0 : j = 0
  · refine B_Ce_countFrom_0 (fun z => ?_) (fun _ => ?_)
    · rw [j0] at z
      exact absurd rfl z
    rw [ex]
    have dg0 : (nI (kyW N gs m v)) &&& (3 : Int32) = nI (dg gs m v 0) := by
      have := kyW_d (N := N) (gs := gs) (m := m) (d := 0) v (by omega)
      rw [Nat.pow_zero, Nat.div_one] at this
      rw [nI_and3, this]
    have d2 := dg_le (gs := gs) (m := m) v 0
    have d0 := dg_0 (gs := gs) (m := m) v
    have at36 : ∀ (a : Int64), a = lN (oneN (rdc gs m v)) → wpx d P_Ce_countFrom 36 [.ref c, .int (nI s), .int (nI j), .int (nI (s * 11 + j)), .int (nI (dg gs m v 0))] [.long a, .int (nI (s * 11 + j)), .ref (ad 2)] h Q := fun a ha => by
      have hS1 := CeS.fr (W2 h a) hS
      have fin : ∀ (b : Int64), b = lN (onlyN (rdc gs m v)) → wpx d P_Ce_countFrom 53 [.ref c, .int (nI s), .int (nI j), .int (nI (s * 11 + j)), .int (nI (dg gs m v 0))] [.long b, .int (nI (s * 11 + j)), .ref (ad 3)] (w_l h (ad 2) (s * 11 + j) a) Q := fun b hb => by
        refine B_Ce_countFrom_53 hS1.2.2.2.2.1.2 vx ?_
        rw [cx]
        refine k _ ((W2 h a).tr (W3 _ b)) ⟨?_, ?_⟩
        · rw [wl_ne _ _ (fun z => n23 z.1), wl_eq, ha, j0]
          rfl
        · rw [wl_eq, hb, j0]
          rfl
      refine B_Ce_countFrom_36 s3.2 vx s0 s4.1 (fun z => ?_) (fun z => ?_)
      · rw [cx]
        refine B_Ce_countFrom_52 (fin 0 ?_)
        have ne : rdc gs m v ≠ 1 := fun q => z (by rw [d0, q]; rfl)
        unfold onlyN
        rw [if_neg ne]
        rfl
      · rw [cx]
        refine B_Ce_countFrom_48 (fin 1 ?_)
        have e1 : rdc gs m v = 1 := by
          have := (nI_eq (a := dg gs m v 0) (b := 1) (by omega) (by omega)).mp z
          omega
        unfold onlyN
        rw [if_pos e1]
        rfl
    refine B_Ce_countFrom_11 s0 s1.1 s1.2 (vp_in_nI (by omega) (by omega)) s3.1 (fun z => ?_) (fun z => ?_)
    · rw [nI_clamp (by omega), ky, dg0] at z ⊢
      refine B_Ce_countFrom_35 (at36 0 ?_)
      have e0 : rdc gs m v = 0 := by
        have := (nI_leI (a := dg gs m v 0) (b := 0) (by omega) (by omega)).mp z
        omega
      unfold oneN
      rw [if_pos e0]
      rfl
    · rw [nI_clamp (by omega), ky, dg0] at z ⊢
      refine B_Ce_countFrom_31 (at36 1 ?_)
      have e0 : rdc gs m v ≠ 0 := fun q => z ((nI_leI (a := dg gs m v 0) (b := 0) (by omega) (by omega)).mpr (by omega))
      unfold oneN
      rw [if_neg e0]
      rfl
  · obtain ⟨j', hj'⟩ : ∃ j', j = j' + 1 := ⟨j - 1, by omega⟩
    have hp := hp j' hj'
    obtain ⟨q1, q2, q3, q4⟩ := hE.1 s v sl hs
    have q3 := q3 (by omega)
    generalize hes : (ed.drop (F s)).take (F (s + 1) - F s) = es at q3
    have esl : es.length = F (s + 1) - F s := by
      rw [← hes, List.length_take, List.length_drop]
      omega
    have edl : ed.length ≤ 27 * V.length := hE.2.2
    have cE := hI.2.2.2.1.2.2.le
    have edE := hI.2.2.2.2.2.2.1
    have edle := edE.2.2.2
    have gE : ∀ i q, es[i]? = some q → ed[F s + i]? = some q := fun i q hq => by
      have il := (List.getElem?_eq_some_iff.mp hq).1
      rw [← hes, List.getElem?_take_of_lt (by omega), List.getElem?_drop] at hq
      exact hq
    refine B_Ce_countFrom_0 (fun _ => ?_) (fun z => ?_)
    · rw [ex]
      refine B_Ce_countFrom_55 s0 s3.1 s3.2 vx s4.1 s4.2 vx s6.1 s6.2 (vp_in_nI (by omega) (by omega)) ?_
      rw [cx, nI_clamp (by omega)]
      have f0 : Fr (fun x k => (x = ad 2 ∨ x = ad 3) ∧ k = s * 11 + j) h (w_l (w_l h (ad 2) (s * 11 + j) 0) (ad 3) (s * 11 + j) 0) := (W2 h 0).tr (W3 _ 0)
      have z2 : h_l (w_l (w_l h (ad 2) (s * 11 + j) 0) (ad 3) (s * 11 + j) 0) (ad 2) (s * 11 + j) = 0 := by rw [wl_ne _ _ (fun z => n23 z.1), wl_eq]
      have z3 : h_l (w_l (w_l h (ad 2) (s * 11 + j) 0) (ad 3) (s * 11 + j) 0) (ad 3) (s * 11 + j) = 0 := wl_eq ..
      have iF : h_i (w_l (w_l h (ad 2) (s * 11 + j) 0) (ad 3) (s * 11 + j) 0) (ad 6) s = nI (F s) := hF s (by omega)
      rw [iF]
      generalize w_l (w_l h (ad 2) (s * 11 + j) 0) (ad 3) (s * 11 + j) 0 = g0 at f0 z2 z3 ⊢
      have loop : ∀ (n i : Nat) (g : PH), es.length - i = n → i ≤ es.length → Fr (fun x k => (x = ad 2 ∨ x = ad 3) ∧ k = s * 11 + j) h g → h_l g (ad 2) (s * 11 + j) = lN (eS oneN gs m j' V (es.take i)) → h_l g (ad 3) (s * 11 + j) = lN (eS onlyN gs m j' V (es.take i)) → wpx d P_Ce_countFrom 77 [.ref c, .int (nI s), .int (nI j), .int (nI (s * 11 + j)), .int (nI (F s + i))] [] g Q := by
        intro n
        induction n with
        | zero =>
          intro i g hn hi' hf h2 h3
          have ei : i = es.length := by omega
          have hSg := CeS.fr hf hS
          refine B_Ce_countFrom_77 hSg.1 hSg.2.2.2.2.2.2.1.1 hSg.2.2.2.2.2.2.1.2 (by rw [nI_1]; exact vp_in_nI (by omega) (by omega)) (fun _ => B_Ce_countFrom_152 (k g hf ⟨?_, ?_⟩)) (fun z => ?_)
          · rw [h2, ei, List.take_length, EL.sum f2_one ho hu hN hi q3, hj']
            rfl
          · rw [h3, ei, List.take_length, EL.sum f2_only ho hu hN hi q3, hj']
            rfl
          · have n6 : ¬ ((ad 6 = ad 2 ∨ ad 6 = ad 3) ∧ s + 1 = s * 11 + j) := fun z => z.1.elim (s9.ne (by omega) (by omega) (by omega) (by omega) (by omega)) (s9.ne (by omega) (by omega) (by omega) (by omega) (by omega))
            rw [nI_1, nI_clamp (by omega), hf.i _ _ n6, hF _ (by omega), nI_leI (by omega) (by omega)] at z
            omega
        | succ n ih =>
          intro i g hn hi' hf h2 h3
          have gq : es[i]? = some (es[i]'(by omega)) := List.getElem?_eq_getElem (by omega)
          generalize es[i]'(by omega) = q at gq
          obtain ⟨u, c1, c2, c3, c4, c5⟩ := EL.lev q3 q (List.mem_of_getElem? gq)
          have ul := (List.getElem?_eq_some_iff.mp c1).1
          obtain ⟨y1, y2⟩ := hp q.2 u c1 (by omega)
          have eT : h_i h (ad 8) (F s + i) = nI q.2 := (edE.2.1 _ q (gE i q gq)).2
          have hSg := CeS.fr hf hS
          have fi : ∀ f kk, f < 9 → f ≠ 4 → f ≠ 2 → f ≠ 3 → h_i g (ad f) kk = h_i h (ad f) kk := fun f kk a b c' e' => hf.i _ _ (fun z => z.1.elim (s9.ne a (by omega) b (by omega) c') (s9.ne a (by omega) b (by omega) e'))
          have ne : q.2 * 11 + j' ≠ s * 11 + j := fun z => by omega
          have p2 : h_l g (ad 2) (q.2 * 11 + j') = lN (cnF oneN gs m j' u) := (hf.l _ _ (fun z => ne z.2)).trans y1
          have p3 : h_l g (ad 3) (q.2 * 11 + j') = lN (cnF onlyN gs m j' u) := (hf.l _ _ (fun z => ne z.2)).trans y2
          have eix : ((nI q.2 * (11 : Int32)) + nI j) - (1 : Int32) = nI (q.2 * 11 + j') := by
            rw [show (11 : Int32) = nI 11 from rfl, nI_mulN, nI_add, show (1 : Int32) = nI 1 from rfl, nI_subN (by omega), hj', show q.2 * 11 + (j' + 1) - 1 = q.2 * 11 + j' by omega]
          have cF : (nI (F s + i)).toNatClampNeg = F s + i := nI_clamp (by omega)
          have cq : (nI (q.2 * 11 + j')).toNatClampNeg = q.2 * 11 + j' := nI_clamp (by omega)
          have vq : vp_in (nI (q.2 * 11 + j')) (11 * K) := vp_in_nI (by omega) (by omega)
          have E8 : h_i g (ad 8) (F s + i) = nI q.2 := (fi 8 _ (by omega) (by omega) (by omega) (by omega)).trans eT
          refine B_Ce_countFrom_77 hSg.1 hSg.2.2.2.2.2.2.1.1 hSg.2.2.2.2.2.2.1.2 (by rw [nI_1]; exact vp_in_nI (by omega) (by omega)) (fun z => ?_) (fun _ => ?_)
          · rw [nI_1, nI_clamp (by omega), fi 6 _ (by omega) (by omega) (by omega) (by omega), hF _ (by omega), nI_leI (by omega) (by omega)] at z
            omega
          · refine B_Ce_countFrom_90 hSg.1 hSg.2.2.2.1.1 hSg.2.2.2.1.2 vx hSg.2.2.2.2.2.2.2.2.1.1 hSg.2.2.2.2.2.2.2.2.1.2 (vp_in_nI (by omega) (by omega)) (by rw [cF, E8, eix]; exact vq) hSg.2.2.2.2.1.1 hSg.2.2.2.2.1.2 vx ?_ (B_Ce_countFrom_146 ?_)
            · rw [cF]
              show vp_in (((h_i g (ad 8) (F s + i) * (11 : Int32)) + nI j) - (1 : Int32)) _
              rw [E8, eix]
              exact vq
            · have e8' : ∀ a, h_i (w_l g (ad 2) (s * 11 + j) a) (ad 8) (F s + i) = nI q.2 := fun a => E8
              rw [cF, cx, E8, eix, cq, e8', eix, cq, p2, h2, lN_addN, wl_ne _ _ (fun z => n23 z.1.symm), h3, wl_ne _ _ (fun z => n23 z.1.symm), p3, lN_addN, nI_1]
              have tk : es.take (i + 1) = es.take i ++ [q] := by
                rw [List.take_add_one, gq]
                rfl
              refine ih (i + 1) _ (by omega) (by omega) (hf.tr ((W2 g _).tr (W3 _ _))) ?_ ?_
              · rw [wl_ne _ _ (fun z => n23 z.1), wl_eq, tk, eS_snoc, gD c1]
              · rw [wl_eq, tk, eS_snoc, gD c1]
      exact loop es.length 0 g0 rfl (Nat.zero_le _) f0 (by rw [z2]; rfl) (by rw [z3]; rfl)
    · exact absurd ((nI_eq (b := 0) (by omega) (by omega)).mp z) j0
