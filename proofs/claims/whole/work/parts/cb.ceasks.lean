/-! words on the class's side: amounts, the word with a number, the number of a word -/
theorem EL.at {N gs : List (List Nat)} {m : Nat} {V : List (List Nat)} {v : List Nat} : ∀ {n : Nat} {es : List (Nat × Nat)}, EL N gs m V v n es → ∀ (q c t : Nat), es[q]? = some (c, t) → EL N gs m V v (c - 1) (es.take q)
  | 0, es, h => by
    have h : es = [] := h
    rw [h]
    exact fun q c t hq => by cases hq
  | n + 1, es, ⟨es', h1, h2⟩ => fun q c t hq => by
    rcases h2 with ⟨_, e⟩ | ⟨_, t', u, _, _, _, e⟩
    · rw [e] at hq ⊢
      exact EL.at h1 q c t hq
    · rw [e] at hq ⊢
      rcases get_snoc hq with ⟨a, b⟩ | ⟨a, b⟩
      · rw [List.take_append_of_le_length (by omega)]
        exact EL.at h1 q c t b
      · cases b
        rw [a, List.take_left, Nat.add_sub_cancel]
        exact h1
theorem EL.lt {N gs : List (List Nat)} {m : Nat} {V : List (List Nat)} {v : List Nat} : ∀ {n : Nat} {es : List (Nat × Nat)}, EL N gs m V v n es → ∀ (q q' : Nat) (a b : Nat × Nat), q < q' → es[q]? = some a → es[q']? = some b → a.1 < b.1
  | 0, es, h => by
    have h : es = [] := h
    rw [h]
    exact fun q q' a b _ hq => by cases hq
  | n + 1, es, ⟨es', h1, h2⟩ => fun q q' a b hlt hq hq' => by
    rcases h2 with ⟨_, e⟩ | ⟨_, t', u, _, _, _, e⟩
    · rw [e] at hq hq'
      exact EL.lt h1 q q' a b hlt hq hq'
    · rw [e] at hq hq'
      rcases get_snoc hq' with ⟨c, d⟩ | ⟨c, d⟩
      · rcases get_snoc hq with ⟨c', d'⟩ | ⟨c', d'⟩
        · exact EL.lt h1 q q' a b hlt d' d
        · omega
      · rcases get_snoc hq with ⟨c', d'⟩ | ⟨c', d'⟩
        · obtain ⟨_, _, _, _, z, _⟩ := EL.lev h1 a (List.mem_of_getElem? d')
          rw [d]
          exact Nat.lt_succ_of_le z
        · omega
theorem EL.has {N gs : List (List Nat)} {m x : Nat} {V : List (List Nat)} {v : List Nat} (h0 : 0 < x) (hk : kyW N gs m (v ++ [x]) ≠ 0) : ∀ {n : Nat} {es : List (Nat × Nat)}, EL N gs m V v n es → x ≤ n → ∃ (q t : Nat), es[q]? = some (x, t)
  | 0, es, _ => fun hx => by omega
  | n + 1, es, ⟨es', h1, h2⟩ => fun hx => by
    by_cases y : x = n + 1
    · rcases h2 with ⟨a, _⟩ | ⟨_, t, u, _, _, _, e⟩
      · rw [y] at hk
        exact absurd a hk
      · refine ⟨es'.length, t, ?_⟩
        rw [e, List.getElem?_append_right (Nat.le_refl _), Nat.sub_self, y]
        rfl
    · obtain ⟨q, t, hq⟩ := EL.has h0 hk h1 (by omega)
      rcases h2 with ⟨_, e⟩ | ⟨_, t', u, _, _, _, e⟩
      · exact ⟨q, t, by rw [e]; exact hq⟩
      · exact ⟨q, t, by rw [e]; exact get_app hq⟩
theorem sm_up {f : Nat → Nat} {a : Nat} : ∀ b, a ≤ b → sm f a ≤ sm f b
  | 0, h => by rw [show a = 0 by omega]; exact Nat.le_refl _
  | b + 1, h => by
    by_cases y : a = b + 1
    · rw [y]
      exact Nat.le_refl _
    · have := sm_up (f := f) (a := a) b (by omega)
      show sm f a ≤ sm f b + f b
      omega
def pick (f : Nat → Nat) : Nat → Nat → Nat → Nat × Nat
  | 0, i, k => (i, k)
  | n + 1, i, k => if k < f i then (i, k) else pick f n (i + 1) (k - f i)
theorem pick_is {f : Nat → Nat} {p k : Nat} (h1 : sm f p ≤ k) (h2 : k < sm f (p + 1)) : ∀ n i, i ≤ p → p < i + n → pick f n i (k - sm f i) = (p, k - sm f p)
  | 0, i, a, b => by omega
  | n + 1, i, a, b => by
    show (if k - sm f i < f i then _ else _) = _
    have s1 : sm f (i + 1) = sm f i + f i := rfl
    have s2 := sm_up (f := f) p a
    by_cases y : i = p
    · subst y
      rw [if_pos (by omega)]
    · have s3 := sm_up (f := f) (a := i + 1) p (by omega)
      rw [if_neg (by omega), show k - sm f i - f i = k - sm f (i + 1) by omega]
      exact pick_is h1 h2 n (i + 1) (by omega) (by omega)
def nthW (gs : List (List Nat)) (m : Nat) : Nat → List Nat → Nat → List Nat
  | 0, v, _ => v
  | n + 1, v, k => nthW gs m n (v ++ [(pick (fun i => cnF oneN gs m n (v ++ [i + 1])) 27 0 k).1 + 1]) (pick (fun i => cnF oneN gs m n (v ++ [i + 1])) 27 0 k).2
def rkW (gs : List (List Nat)) (m : Nat) : List Nat → List Nat → Nat
  | _, [] => 0
  | v, x :: w => sm (fun i => cnF oneN gs m w.length (v ++ [i + 1])) (x - 1) + rkW gs m (v ++ [x]) w
/-- one more letter of the word with a number: an edge -/
theorem EL.pick {N gs : List (List Nat)} {m j k : Nat} {V : List (List Nat)} {v : List Nat} (ho : okg gs m) (hu : unlk gs) (hN : okN N) (hi : ∀ x, isI gs m x → x ∈ N) {es : List (Nat × Nat)} (h : EL N gs m V v 27 es) {q : Nat} {a : Nat × Nat} (hq : es[q]? = some a) (h1 : eS oneN gs m j V (es.take q) ≤ k) (h2 : k < eS oneN gs m j V (es.take (q + 1))) : pick (fun i => cnF oneN gs m j (v ++ [i + 1])) 27 0 k = (a.1 - 1, k - eS oneN gs m j V (es.take q)) := by
  obtain ⟨c, t⟩ := a
  obtain ⟨u, c1, c2, c3, c4, c5⟩ := h.lev _ (List.mem_of_getElem? hq)
  have e1 := (h.at q c t hq).sum (f := oneN) (j := j) f2_one ho hu hN hi
  have tk : es.take (q + 1) = es.take q ++ [(c, t)] := by
    rw [List.take_add_one, hq]
    rfl
  have ec : c - 1 + 1 = c := by have : 0 < c := c3; omega
  have e2 : eS oneN gs m j V (es.take (q + 1)) = sm (fun i => cnF oneN gs m j (v ++ [i + 1])) (c - 1 + 1) := by
    rw [tk, eS_snoc, e1]
    show _ = sm _ (c - 1) + cnF oneN gs m j (v ++ [c - 1 + 1])
    rw [gD c1, ec, cnF_ky f2_one ho hu hN hi c5]
  rw [e1] at h1 ⊢
  rw [e2] at h2
  have c4 : c ≤ 27 := c4
  exact pick_is h1 h2 27 0 (Nat.zero_le _) (by omega)
theorem ce_amount {d : Nat} {h : PH} {Q : PQ} {c m K M E n w : Nat} {ad : Nat → Nat} {N gs V : List (List Nat)} {ed : List (Nat × Nat)} {F : Nat → Nat} (hC : CEN h c ad K M E N gs m V ed F) (hn : n ≤ 10) (hw : w ≤ 2) (k : Q (some (.long (if w = 0 then lN (cnF oneN gs m n []) else if w = 1 then lN (cnF onlyN gs m n []) else lN (cnF oneN gs m n []) - lN (cnF onlyN gs m n [])))) h) : wpm (d + 1) 22 [.ref c, .int (nI n), .int (nI w)] h Q := by
  refine wpm_in P_Ce_amount rfl (by decide) (by show ¬ 3 < 3; decide) ?_
  obtain ⟨s0, s1, s2, s3, s4, _⟩ := hC.1.1
  have kl := hC.1.2.2.2.1.1.le
  obtain ⟨y1, y2⟩ := hC.2.2.2 0 [] n hC.1.2.2.2.2.2.2.2.1 (by show 0 + n ≤ 10; omega)
  rw [Nat.zero_mul, Nat.zero_add] at y1 y2
  have vn : vp_in (nI n) (11 * K) := vp_in_nI (by omega) (by omega)
  refine B_Ce_amount_0 (fun z => absurd z (nI_lt0 (by omega))) (fun _ => B_Ce_amount_4 (fun _ => B_Ce_amount_14 (fun z => ?_) (fun z => ?_)) (fun z => ?_))
  · have w0 : ¬ w = 0 := fun y => z (by rw [y]; rfl)
    rw [if_neg w0] at k
    refine B_Ce_amount_25 (fun z => B_Ce_amount_39 s0 s3.1 s3.2 vn s4.1 s4.2 vn (B_Ce_amount_52 ?_)) (fun z => B_Ce_amount_30 s0 s4.1 s4.2 vn (B_Ce_amount_52 ?_))
    · have w1 : ¬ w = 1 := fun y => z (by rw [y]; rfl)
      rw [if_neg w1] at k
      rw [nI_clamp (by omega), y1, y2]
      exact k
    · have w1 : w = 1 := (nI_eq (b := 1) (by omega) (by omega)).mp z
      rw [if_pos w1] at k
      rw [nI_clamp (by omega), y2]
      exact k
  · have w0 : w = 0 := (nI_eq (b := 0) (by omega) (by omega)).mp z
    rw [if_pos w0] at k
    refine B_Ce_amount_18 s0 s3.1 s3.2 vn ?_
    rw [nI_clamp (by omega), y1]
    exact k
  · exact absurd ((nI_leI (b := 10) (by omega) (by omega)).mpr hn) z
theorem kyW_step {N gs : List (List Nat)} {m c : Nat} {v u : List Nat} (ho : okg gs m) (hu : unlk gs) (hN : okN N) (hi : ∀ x, isI gs m x → x ∈ N) (h : kyW N gs m v = kyW N gs m u) : kyW N gs m (v ++ [c]) = kyW N gs m (u ++ [c]) ∧ ∀ (f : Nat → Nat) n, f2 f → cnF f gs m n (v ++ [c]) = cnF f gs m n (u ++ [c]) := by
  obtain ⟨a, b⟩ := kyW_inj ho hN hi h
  obtain ⟨a', b'⟩ := dg_step ho hu a b c
  refine ⟨?_, fun f n hf => cnF_key hf ho hu n _ _ a' b'⟩
  unfold kyW
  rw [dgs_7, dgs_7, b', a' 0 (by omega), a' 1 (by omega), a' 2 (by omega), a' 3 (by omega), a' 4 (by omega), a' 5 (by omega), a' 6 (by omega)]
theorem lN_subN {a b : Nat} (h : b ≤ a) : lN a - lN b = lN (a - b) := by
  have e : lN a = lN (a - b) + lN b := by rw [lN_addN, Nat.sub_add_cancel h]
  rw [e]
  exact Int64.add_sub_cancel _ _
theorem ce_bringTo {d : Nat} {h : PH} {Q : PQ} {c m K M E n kk : Nat} {ad : Nat → Nat} {N gs V : List (List Nat)} {ed : List (Nat × Nat)} {F : Nat → Nat} (ho : okg gs m) (hu : unlk gs) (hN : okN N) (hi : ∀ x, isI gs m x → x ∈ N) (hO : OwS h) (hC : CEN h c ad K M E N gs m V ed F) (hn : n ≤ 10) (hk : kk < 2 ^ 63) (k0 : cnF oneN gs m n [] ≤ kk → Q (some (.int 0)) h) (k1 : kk < cnF oneN gs m n [] → ∀ h', CWd h' (nthW gs m n [] kk) → Fr Wcd h h' → Q (some (.int 1)) h') : wpm (d + 2) 23 [.ref c, .ref 13, .int (nI n), .long (lN kk)] h Q := by
  refine wpm_in P_Ce_bringTo rfl (by decide) (by show ¬ 10 < 5; decide) ?_
  obtain ⟨hI, hE, hF, hCt⟩ := hC
  have hS := hI.1
  obtain ⟨s0, s1, s2, s3, s4, s5, s6, s7, s8, s9, s10, s11⟩ := hI.1
  have kl := hI.2.2.2.1.1.le
  have cE := hI.2.2.2.1.2.2.le
  have VK := hI.2.2.2.2.1
  have edE := hI.2.2.2.2.2.2.1
  have edle := edE.2.2.2
  have edl : ed.length ≤ 27 * V.length := hE.2.2
  have v3 := keys_le ho hN hI.2.1.2.2.1 hI.2.1.2.2.2
  have V0 := hI.2.2.2.2.2.2.2.1
  have wc : ∀ {g : PH}, Fr Wcd h g → ∀ x k, 63 ≤ x → h_i g x k = h_i h x k := fun hf x k hx => hf.i _ _ (fun z => by unfold Wcd at z; omega)
  have wl : ∀ {g : PH}, Fr Wcd h g → ∀ x k, 63 ≤ x → h_l g x k = h_l h x k := fun hf x k hx => hf.l _ _ (fun z => by unfold Wcd at z; omega)
  have a6 := (s9.2 6 (by omega) (by omega)).2.1
  have a2 := (s9.2 2 (by omega) (by omega)).2.1
  have a7 := (s9.2 7 (by omega) (by omega)).2.1
  have a8 := (s9.2 8 (by omega) (by omega)).2.1
  have cb : ∀ n v, n ≤ 10 → cnF oneN gs m n v < 2 ^ 60 := fun n v hn => cnF_b f2_one hn v
  have vn : vp_in (nI n) (11 * K) := vp_in_nI (by omega) (by omega)
  obtain ⟨y1, _⟩ := hCt 0 [] n V0 (by show 0 + n ≤ 10; omega)
  rw [Nat.zero_mul, Nat.zero_add] at y1
  have cn := cb n [] hn
  refine B_Ce_bringTo_0 (fun z => absurd z (nI_lt0 (by omega))) (fun _ => B_Ce_bringTo_4 (fun z => ?_) (fun _ => B_Ce_bringTo_10 (fun z => ?_) (fun _ => B_Ce_bringTo_16 s0 s3.1 s3.2 vn (fun z => B_Ce_bringTo_29 (os_theWord hO) (wo_clear hO (fun g1 w1 f1 => B_Ce_bringTo_33 ?_))) (fun z => B_Ce_bringTo_27 (k0 ?_)))))
  · rw [show (10 : Int32) = nI 10 from rfl, nI_ltI (by omega) (by omega)] at z
    omega
  · have := (lg_lt (a := kk) (b := 0) hk (by omega)).mp z
    omega
  · rw [nI_clamp (by omega), y1, lg_lt hk (by omega)] at z
    have loop : ∀ (r : Nat) (s : Nat) (u v : List Nat) (kk' : Nat) (g : PH) (v9 : Value), V[s]? = some u → kyW N gs m v = kyW N gs m u → u.length ≤ v.length → v.length + r = n → kk' < cnF oneN gs m r v → nthW gs m r v kk' = nthW gs m n [] kk → CWd g v → Fr Wcd h g → wpx (d + 1) P_Ce_bringTo 44 [.ref c, .ref 13, .int (nI n), .long (lN kk), .retAddr 2, .int (nI s), .long (lN kk'), .retAddr 2, .int (nI r - (1 : Int32)), v9] [] g Q := by
      intro r
      induction r with
      | zero =>
        intro s u v kk' g v9 hs hky hul hvl hk' hnt hw hf
        refine B_Ce_bringTo_44 (fun _ => B_Ce_bringTo_167 (k1 z g ?_ hf)) (fun y => absurd (by decide) y)
        rw [← hnt]
        exact hw
      | succ r ih =>
        intro s u v kk' g v9 hs hky hul hvl hk' hnt hw hf
        have hSg := CeS.fr hf hS
        have hOg := hf.ow hO
        have sl := (List.getElem?_eq_some_iff.mp hs).1
        have e1 : nI (r + 1) - (1 : Int32) = nI r := by rw [show (1 : Int32) = nI 1 from rfl, nI_subN (by omega), Nat.add_sub_cancel]
        rw [e1]
        obtain ⟨q1, q2, q3, q4⟩ := hE.1 s u sl hs
        have q3 := q3 (by omega)
        generalize hes : (ed.drop (F s)).take (F (s + 1) - F s) = es at q3
        have esl : es.length = F (s + 1) - F s := by
          rw [← hes, List.length_take, List.length_drop]
          omega
        have gE : ∀ i q, es[i]? = some q → ed[F s + i]? = some q := fun i q hq => by
          have il := (List.getElem?_eq_some_iff.mp hq).1
          rw [← hes, List.getElem?_take_of_lt (by omega), List.getElem?_drop] at hq
          exact hq
        have etot : cnF oneN gs m (r + 1) v = eS oneN gs m r V es := by
          rw [cnF_ky f2_one ho hu hN hi hky, q3.sum f2_one ho hu hN hi]
          rfl
        rw [etot] at hk'
        have tb := cb (r + 1) v (by omega)
        rw [etot] at tb
        refine B_Ce_bringTo_44 (fun y => absurd y (nI_lt0 (by omega))) (fun _ => B_Ce_bringTo_49 hSg.1 hSg.2.2.2.2.2.2.1.1 hSg.2.2.2.2.2.2.1.2 (vp_in_nI (by omega) (by omega)) ?_)
        rw [nI_clamp (by omega), wc hf _ _ a6, hF s (by omega)]
        have seek : ∀ (n2 q : Nat), es.length - q = n2 → q ≤ es.length → eS oneN gs m r V (es.take q) ≤ kk' → wpx (d + 1) P_Ce_bringTo 58 [.ref c, .ref 13, .int (nI n), .long (lN kk), .retAddr 2, .int (nI s), .long (lN (kk' - eS oneN gs m r V (es.take q))), .retAddr 2, .int (nI r), .int (nI (F s + q))] [] g Q := by
          intro n2
          induction n2 with
          | zero =>
            intro q hn2 hq hle
            rw [show q = es.length by omega, List.take_length] at hle
            omega
          | succ n2 ih2 =>
            intro q hn2 hq hle
            have gq : es[q]? = some (es[q]'(by omega)) := List.getElem?_eq_getElem (by omega)
            generalize es[q]'(by omega) = a at gq
            obtain ⟨u', c1, c2, c3, c4, c5⟩ := q3.lev a (List.mem_of_getElem? gq)
            have tl := (List.getElem?_eq_some_iff.mp c1).1
            obtain ⟨y1, _⟩ := hCt a.2 u' r c1 (by omega)
            have eT : h_i g (ad 8) (F s + q) = nI a.2 := (wc hf _ _ a8).trans (edE.2.1 _ a (gE q a gq)).2
            have eG : h_i g (ad 7) (F s + q) = nI a.1 := (wc hf _ _ a7).trans (edE.2.1 _ a (gE q a gq)).1
            have eL : h_l g (ad 2) (a.2 * 11 + r) = lN (cnF oneN gs m r u') := (wl hf _ _ a2).trans y1
            have eix : (nI a.2 * (11 : Int32)) + nI r = nI (a.2 * 11 + r) := by rw [show (11 : Int32) = nI 11 from rfl, nI_mulN, nI_add]
            have cF : (nI (F s + q)).toNatClampNeg = F s + q := nI_clamp (by omega)
            have cq : (nI (a.2 * 11 + r)).toNatClampNeg = a.2 * 11 + r := nI_clamp (by omega)
            have vF : vp_in (nI (F s + q)) E := vp_in_nI (by omega) (by omega)
            have vq : vp_in (nI (a.2 * 11 + r)) (11 * K) := vp_in_nI (by omega) (by omega)
            have tk : es.take (q + 1) = es.take q ++ [a] := by
              rw [List.take_add_one, gq]
              rfl
            have e2 : eS oneN gs m r V (es.take (q + 1)) = eS oneN gs m r V (es.take q) + cnF oneN gs m r u' := by rw [tk, eS_snoc, gD c1]
            have c1b := cb r u' (by omega)
            have found : kk' < eS oneN gs m r V (es.take (q + 1)) → wpx (d + 1) P_Ce_bringTo 125 [.ref c, .ref 13, .int (nI n), .long (lN kk), .retAddr 2, .int (nI s), .long (lN (kk' - eS oneN gs m r V (es.take q))), .retAddr 2, .int (nI r), .int (nI (F s + q))] [] g Q := fun hlt => by
              have hp := q3.pick ho hu hN hi gq hle hlt
              have fe : (fun i => cnF oneN gs m r (v ++ [i + 1])) = (fun i => cnF oneN gs m r (u ++ [i + 1])) := funext (fun i => (kyW_step (c := i + 1) ho hu hN hi hky).2 oneN r f2_one)
              have ea : a.1 - 1 + 1 = a.1 := by omega
              have hnt' : nthW gs m r (v ++ [a.1]) (kk' - eS oneN gs m r V (es.take q)) = nthW gs m n [] kk := by
                rw [← hnt]
                show _ = nthW gs m r _ _
                rw [fe, hp, ea]
              have kv := kyW_step (c := a.1) ho hu hN hi hky
              have lv : (v ++ [a.1]).length = v.length + 1 := List.length_append
              refine B_Ce_bringTo_125 hSg.1 hSg.2.2.2.2.2.2.1.1 hSg.2.2.2.2.2.2.1.2 (by rw [nI_1]; exact vp_in_nI (by omega) (by omega)) (fun _ => B_Ce_bringTo_141 hSg.1 hSg.2.2.2.2.2.2.2.1.1 hSg.2.2.2.2.2.2.2.1.2 vF (os_theWord hOg) ?_) (fun y => ?_)
              · rw [cF, eG]
                refine wo_add hOg hw c3 (by omega) (by omega) (fun g2 w2 f2' => ?_)
                have hf2 := hf.tr f2'
                have hSg2 := CeS.fr hf2 hS
                refine B_Ce_bringTo_152 hSg2.1 hSg2.2.2.2.2.2.2.2.2.1.1 hSg2.2.2.2.2.2.2.2.2.1.2 vF ?_
                rw [cF, (wc hf2 _ _ a8).trans (edE.2.1 _ a (gE q a gq)).2, nI_dn]
                refine ih a.2 u' (v ++ [a.1]) _ g2 _ c1 (kv.1.trans c5.symm) (by omega) (by omega) ?_ hnt' w2 hf2
                rw [kv.2 oneN r f2_one, ← cnF_ky f2_one ho hu hN hi c5]
                omega
              · rw [nI_1, nI_clamp (by omega), wc hf _ _ a6, hF _ (by omega), nI_ltI (by omega) (by omega)] at y
                omega
            refine B_Ce_bringTo_58 hSg.1 hSg.2.2.2.2.2.2.1.1 hSg.2.2.2.2.2.2.1.2 (by rw [nI_1]; exact vp_in_nI (by omega) (by omega)) (fun y => ?_) (fun _ => B_Ce_bringTo_72 hSg.1 hSg.2.2.2.1.1 hSg.2.2.2.2.2.2.2.2.1.1 hSg.2.2.2.2.2.2.2.2.1.2 vF hSg.2.2.2.1.2 (by rw [cF, eT, eix]; exact vq) (fun y => found ?_) (fun y => B_Ce_bringTo_96 hSg.1 hSg.2.2.2.1.1 hSg.2.2.2.2.2.2.2.2.1.1 hSg.2.2.2.2.2.2.2.2.1.2 vF hSg.2.2.2.1.2 (by rw [cF, eT, eix]; exact vq) ?_))
            · rw [nI_1, nI_clamp (by omega), wc hf _ _ a6, hF _ (by omega), nI_leI (by omega) (by omega)] at y
              omega
            · rw [cF, eT, eix, cq, eL, lg_lt (by omega) (by omega)] at y
              omega
            · rw [cF, eT, eix, cq, eL, lg_lt (by omega) (by omega)] at y
              rw [cF, eT, eix, cq, eL, lN_subN (by omega), nI_1, show kk' - eS oneN gs m r V (es.take q) - cnF oneN gs m r u' = kk' - eS oneN gs m r V (es.take (q + 1)) by omega]
              exact ih2 (q + 1) (by omega) (by omega) (by omega)
        exact seek es.length 0 rfl (Nat.zero_le _) (Nat.zero_le _)
    exact loop n 0 [] [] kk g1 _ V0 rfl (Nat.le_refl _) (Nat.zero_add n) z rfl w1 f1
  · rw [nI_clamp (by omega), y1, lg_lt hk (by omega)] at z
    omega
