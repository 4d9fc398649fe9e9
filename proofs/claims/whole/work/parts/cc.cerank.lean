/-! words on the class's side: the number of a word -/
theorem rkW_cut {gs : List (List Nat)} {m x : Nat} {v r : List Nat} : rkW gs m v (x :: r) = sm (fun i => cnF oneN gs m r.length (v ++ [i + 1])) (x - 1) + rkW gs m (v ++ [x]) r := rfl
theorem ce_rankOf {d : Nat} {h : PH} {Q : PQ} {c m K M E : Nat} {ad : Nat → Nat} {N gs V : List (List Nat)} {ed : List (Nat × Nat)} {F : Nat → Nat} {w : List Nat} (ho : okg gs m) (hu : unlk gs) (hN : okN N) (hi : ∀ x, isI gs m x → x ∈ N) (hO : OwS h) (hC : CEN h c ad K M E N gs m V ed F) (hw : CWd h w) (hl : w.length ≤ 10) (k0 : rdc gs m w = 0 → Q (some (.long (-1))) h) (k1 : rdc gs m w ≠ 0 → Q (some (.long (lN (rkW gs m [] w)))) h) : wpm (d + 1) 24 [.ref c, .ref 13] h Q := by
  refine wpm_in P_Ce_rankOf rfl (by decide) (by show ¬ 8 < 2; decide) ?_
  obtain ⟨hI, hE, hF, hCt⟩ := hC
  obtain ⟨s0, s1, s2, s3, s4, s5, s6, s7, s8, s9, s10, s11⟩ := hI.1
  have kl := hI.2.2.2.1.1.le
  have cE := hI.2.2.2.1.2.2.le
  have VK := hI.2.2.2.2.1
  have edE := hI.2.2.2.2.2.2.1
  have edle := edE.2.2.2
  have edl : ed.length ≤ 27 * V.length := hE.2.2
  have v3 := keys_le ho hN hI.2.1.2.2.1 hI.2.1.2.2.2
  have V0 := hI.2.2.2.2.2.2.2.1
  have hwO := os_theWord hO
  refine B_Ce_rankOf_0 ?_
  have loop : ∀ (r i s A : Nat) (u : List Nat) (v6 v7 : Value), w.length - i = r → i ≤ w.length → V[s]? = some u → kyW N gs m (w.take i) = kyW N gs m u → u.length ≤ i → A + rkW gs m (w.take i) (w.drop i) = rkW gs m [] w → wpx d P_Ce_rankOf 7 [.ref c, .ref 13, .int (nI s), .long (lN A), .retAddr 2, .int (nI i), v6, v7] [] h Q := by
    intro r
    induction r with
    | zero =>
      intro i s A u v6 v7 hr hi' hs hky hul hA
      have ei : i = w.length := by omega
      subst ei
      have sl := (List.getElem?_eq_some_iff.mp hs).1
      rw [List.take_length] at hky
      rw [List.drop_eq_nil_of_le (Nat.le_refl _)] at hA
      have hA : A + 0 = rkW gs m [] w := hA
      obtain ⟨y1, _⟩ := hCt s u 0 hs (by omega)
      have e0 : cnF oneN gs m 0 u = oneN (rdc gs m w) := (cnF_ky (n := 0) f2_one ho hu hN hi hky).symm
      rw [e0, Nat.add_zero] at y1
      have ex : nI s * (11 : Int32) = nI (s * 11) := by rw [show (11 : Int32) = nI 11 from rfl, nI_mulN]
      have o1 := f2_one.2.2 (rdc gs m w)
      refine B_Ce_rankOf_7 hwO (fun _ => B_Ce_rankOf_147 s0 s3.1 s3.2 (by rw [ex]; exact vp_in_nI (by omega) (by omega)) (fun z => B_Ce_rankOf_165 (B_Ce_rankOf_168 (k0 ?_))) (fun z => B_Ce_rankOf_161 (B_Ce_rankOf_168 ?_))) (fun z => ?_)
      · rw [ex, nI_clamp (by omega), y1] at z
        have := (lg_le (a := oneN (rdc gs m w)) (b := 0) (by omega) (by omega)).mp z
        unfold oneN at this
        by_cases y : rdc gs m w = 0
        · exact y
        · rw [if_neg y] at this
          omega
      · rw [ex, nI_clamp (by omega), y1] at z
        rw [show A = rkW gs m [] w by omega]
        refine k1 (fun y => z ?_)
        rw [y]
        exact (lg_le (a := 0) (b := 0) (by omega) (by omega)).mpr (Nat.le_refl _)
      · rw [hw.2.1, nI_leI (by omega) (by omega)] at z
        omega
    | succ r ih =>
      intro i s A u v6 v7 hr hi' hs hky hul hA
      have sl := (List.getElem?_eq_some_iff.mp hs).1
      have gx : w[i]? = some (w[i]'(by omega)) := List.getElem?_eq_getElem (by omega)
      generalize w[i]'(by omega) = x at gx
      have hx := hw.1.2 x (List.mem_of_getElem? gx)
      have ewx : h_i h 14 i = nI x := hw.2.2 i x gx
      have edr : w.drop i = x :: w.drop (i + 1) := by
        rw [List.drop_eq_getElem_cons (by omega)]
        have := (List.getElem?_eq_some_iff.mp gx).2
        rw [this]
      have etk : w.take (i + 1) = w.take i ++ [x] := by
        rw [List.take_add_one, gx]
        rfl
      have lr : (w.drop (i + 1)).length = r := by
        rw [List.length_drop]
        omega
      rw [edr, rkW_cut, lr] at hA
      have eN : nI w.length - (1 : Int32) - nI i = nI r := by
        rw [show (1 : Int32) = nI 1 from rfl, nI_subN (by omega), nI_subN (by omega), show w.length - 1 - i = r by omega]
      obtain ⟨q1, q2, q3, q4⟩ := hE.1 s u sl hs
      have q3 := q3 (by omega)
      generalize hes : (ed.drop (F s)).take (F (s + 1) - F s) = es at q3
      have esl : es.length = F (s + 1) - F s := by
        rw [← hes, List.length_take, List.length_drop]
        omega
      have gE : ∀ i q, es[i]? = some q → ed[F s + i]? = some q := fun i q hq => by
        have il := (List.getElem?_eq_some_iff.mp hq).1
        rw [← hes, List.getElem?_take_of_lt (by omega), List.getElem?_drop] at hq
        exact hq
      have kv := kyW_step (c := x) ho hu hN hi hky
      have fe : (fun i' => cnF oneN gs m r (w.take i ++ [i' + 1])) = (fun i' => cnF oneN gs m r (u ++ [i' + 1])) := funext (fun i' => (kyW_step (c := i' + 1) ho hu hN hi hky).2 oneN r f2_one)
      have dead : (∀ q t, ¬ es[q]? = some (x, t)) → rdc gs m w = 0 := fun hno => by
        have k0 : kyW N gs m (u ++ [x]) = 0 := Classical.byContradiction (fun y => by
          obtain ⟨q, t, hq⟩ := EL.has hx.1 y q3 (by omega)
          exact hno q t hq)
        rw [← kv.1, ← etk] at k0
        have := dg_dead ho hu (w.drop (i + 1)) _ (kyW_0 k0)
        rw [List.take_append_drop] at this
        exact this
      refine B_Ce_rankOf_7 hwO (fun z => ?_) (fun _ => B_Ce_rankOf_16 (fun z => ?_) (fun _ => B_Ce_rankOf_23 hwO s0 s6.1 s6.2 (vp_in_nI (by omega) (by omega)) ?_))
      · rw [hw.2.1, nI_leI (by omega) (by omega)] at z
        omega
      · rw [show (10 : Int32) = nI 10 from rfl, nI_leI (by omega) (by omega)] at z
        omega
      rw [nI_clamp (by omega), hF s (by omega), hw.2.1, eN]
      have vs : vp_in (nI s + (1 : Int32)) (K + 1) := by rw [nI_1]; exact vp_in_nI (by omega) (by omega)
      have cs1 : (nI s + (1 : Int32)).toNatClampNeg = s + 1 := by rw [nI_1]; exact nI_clamp (by omega)
      have vi : vp_in (nI i) 800 := vp_in_nI (by omega) (by omega)
      have ci : (nI i).toNatClampNeg = i := nI_clamp (by omega)
      have seek : ∀ (n2 q : Nat), es.length - q = n2 → q ≤ es.length → (∀ q' a, q' < q → es[q']? = some a → a.1 < x) → wpx d P_Ce_rankOf 42 [.ref c, .ref 13, .int (nI s), .long (lN (A + eS oneN gs m r V (es.take q))), .retAddr 2, .int (nI i), .int (nI r), .int (nI (F s + q))] [] h Q := by
        intro n2
        have out : ∀ q, q ≤ es.length → (∀ q' a, q' < q → es[q']? = some a → a.1 < x) → (∀ a, es[q]? = some a → x ≤ a.1) → wpx d P_Ce_rankOf 99 [.ref c, .ref 13, .int (nI s), .long (lN (A + eS oneN gs m r V (es.take q))), .retAddr 2, .int (nI i), .int (nI r), .int (nI (F s + q))] [] h Q := fun q hq hlo hup => by
          refine B_Ce_rankOf_99 s0 s6.1 s6.2 vs (fun z => B_Ce_rankOf_129 (k0 (dead (fun q' t hq' => ?_)))) (fun z => ?_)
          · rw [cs1, hF _ (by omega), nI_leI (by omega) (by omega)] at z
            have il := (List.getElem?_eq_some_iff.mp hq').1
            exact absurd (hlo q' (x, t) (by omega) hq') (Nat.lt_irrefl x)
          · rw [cs1, hF _ (by omega), nI_leI (by omega) (by omega)] at z
            have gq : es[q]? = some (es[q]'(by omega)) := List.getElem?_eq_getElem (by omega)
            generalize es[q]'(by omega) = a at gq
            have hax := hup a gq
            obtain ⟨u', c1, c2, c3, c4, c5⟩ := q3.lev a (List.mem_of_getElem? gq)
            have eG : h_i h (ad 7) (F s + q) = nI a.1 := (edE.2.1 _ a (gE q a gq)).1
            have eT : h_i h (ad 8) (F s + q) = nI a.2 := (edE.2.1 _ a (gE q a gq)).2
            have cF : (nI (F s + q)).toNatClampNeg = F s + q := nI_clamp (by omega)
            have vF : vp_in (nI (F s + q)) E := vp_in_nI (by omega) (by omega)
            refine B_Ce_rankOf_112 s0 s7.1 s7.2 vF hwO (or_w_sign hO) (os_w_sign hO) vi (fun y => B_Ce_rankOf_133 s0 s8.1 s8.2 vF ?_) (fun y => B_Ce_rankOf_129 (k0 (dead (fun q' t hq' => ?_))))
            · rw [cF, ci, eG, ewx, nI_eq (by omega) (by omega)] at y
              rw [cF, eT, nI_1]
              obtain ⟨a1, a2⟩ := a
              have y : a1 = x := y
              subst y
              have esum := (q3.at q a1 a2 gq).sum (f := oneN) (j := r) f2_one ho hu hN hi
              refine ih (i + 1) a2 _ u' _ _ (by omega) (by omega) c1 (by rw [etk, kv.1]; exact c5.symm) (by omega) ?_
              rw [etk, esum, ← fe]
              omega
            · rw [cF, ci, eG, ewx, nI_eq (by omega) (by omega)] at y
              rcases (show q' < q ∨ q' = q ∨ q < q' by omega) with z1 | z1 | z1
              · exact absurd (hlo q' (x, t) z1 hq') (Nat.lt_irrefl x)
              · rw [z1, gq] at hq'
                exact y (congrArg Prod.fst (Option.some.inj hq'))
              · have := q3.lt q q' a (x, t) z1 gq hq'
                have : a.1 < x := this
                omega
        induction n2 with
        | zero =>
          intro q hn2 hq hlo
          refine B_Ce_rankOf_42 s0 s6.1 s6.2 vs (fun _ => out q hq hlo (fun a ha => ?_)) (fun z => ?_)
          · have := (List.getElem?_eq_some_iff.mp ha).1
            omega
          · rw [cs1, hF _ (by omega), nI_leI (by omega) (by omega)] at z
            omega
        | succ n2 ih2 =>
          intro q hn2 hq hlo
          have gq : es[q]? = some (es[q]'(by omega)) := List.getElem?_eq_getElem (by omega)
          generalize es[q]'(by omega) = a at gq
          obtain ⟨u', c1, c2, c3, c4, c5⟩ := q3.lev a (List.mem_of_getElem? gq)
          have tl := (List.getElem?_eq_some_iff.mp c1).1
          obtain ⟨y1, _⟩ := hCt a.2 u' r c1 (by omega)
          have eG : h_i h (ad 7) (F s + q) = nI a.1 := (edE.2.1 _ a (gE q a gq)).1
          have eT : h_i h (ad 8) (F s + q) = nI a.2 := (edE.2.1 _ a (gE q a gq)).2
          have eix : (nI a.2 * (11 : Int32)) + nI r = nI (a.2 * 11 + r) := by rw [show (11 : Int32) = nI 11 from rfl, nI_mulN, nI_add]
          have cF : (nI (F s + q)).toNatClampNeg = F s + q := nI_clamp (by omega)
          have cq : (nI (a.2 * 11 + r)).toNatClampNeg = a.2 * 11 + r := nI_clamp (by omega)
          have vF : vp_in (nI (F s + q)) E := vp_in_nI (by omega) (by omega)
          refine B_Ce_rankOf_42 s0 s6.1 s6.2 vs (fun z => ?_) (fun _ => B_Ce_rankOf_55 s0 s7.1 s7.2 vF hwO (or_w_sign hO) (os_w_sign hO) vi (fun z => out q hq hlo (fun a' ha' => ?_)) (fun z => B_Ce_rankOf_72 s0 s3.1 s8.1 s8.2 vF s3.2 (by rw [cF, eT, eix]; exact vp_in_nI (by omega) (by omega)) ?_))
          · rw [cs1, hF _ (by omega), nI_leI (by omega) (by omega)] at z
            omega
          · rw [cF, ci, eG, ewx, nI_leI (by omega) (by omega)] at z
            rw [gq] at ha'
            cases ha'
            exact z
          · rw [cF, ci, eG, ewx, nI_leI (by omega) (by omega)] at z
            have tk : es.take (q + 1) = es.take q ++ [a] := by
              rw [List.take_add_one, gq]
              rfl
            have e2 : eS oneN gs m r V (es.take (q + 1)) = eS oneN gs m r V (es.take q) + cnF oneN gs m r u' := by rw [tk, eS_snoc, gD c1]
            rw [cF, eT, eix, cq, y1, lN_addN, nI_1, show A + eS oneN gs m r V (es.take q) + cnF oneN gs m r u' = A + eS oneN gs m r V (es.take (q + 1)) by omega]
            refine ih2 (q + 1) (by omega) (by omega) (fun q' a' h1 h2 => ?_)
            by_cases y : q' = q
            · rw [y, gq] at h2
              cases h2
              omega
            · exact hlo q' a' (by omega) h2
      exact seek es.length 0 rfl (Nat.zero_le _) (fun q' a h1 => absurd h1 (Nat.not_lt_zero _))
  exact loop w.length 0 0 0 [] _ _ rfl (Nat.zero_le _) V0 rfl (Nat.le_refl _) (by rw [Nat.zero_add]; rfl)
