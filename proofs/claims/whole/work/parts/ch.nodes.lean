/-! words on the reference's side: its nodes, beginnings and groups -/
def MNd (h : PH) (N : List (List Nat)) (W : List Nat → Prop) : Prop := okN N ∧ h_i h 17 53 = nI N.length ∧ (∀ x, W x → x ∈ N) ∧ ∀ (u : Nat) (x : List Nat), N[u]? = some x → (0 < u → bt (h_i h 45 u) (W x)) ∧ ∀ s, 0 < s → s < 28 → h_i h 44 (27 * u + (s - 1)) = nd N (x ++ [s])
def CNd (h : PH) (N gs : List (List Nat)) (m : Nat) : Prop := MNd h N (isG gs m) ∧ ∀ x, x ∈ N ↔ x = [] ∨ isI gs m x ∨ isG gs m x
def Wnd (x k : Nat) : Prop := x = 44 ∨ x = 45 ∨ (x = 17 ∧ (k = 26 ∨ k = 53))
def Wn2 (x k : Nat) : Prop := x = 44 ∨ x = 45 ∨ (x = 17 ∧ k = 53)
theorem Wn2.up {x k : Nat} (h : Wn2 x k) : Wnd x k := h.elim Or.inl (fun h => h.elim (fun h => Or.inr (Or.inl h)) (fun h => Or.inr (Or.inr ⟨h.1, Or.inr h.2⟩)))
theorem MNd.cg {h : PH} {N : List (List Nat)} {W W' : List Nat → Prop} (e : ∀ x, W x ↔ W' x) (hc : MNd h N W) : MNd h N W' := by
  have : W = W' := funext (fun x => propext (e x))
  rw [← this]
  exact hc
theorem MNd.node {h h' : PH} {u s : Nat} {N : List (List Nat)} {W : List Nat → Prop} {x : List Nat} (s0 : 0 < s) (hs : s < 28) (hc : MNd h N W) (hu : N[u]? = some x) (hy : ¬ x ++ [s] ∈ N) (ho : okr (x ++ [s])) (hl : N.length < 99) (e53 : h_i h' 17 53 = nI (N.length + 1)) (e45 : ∀ j, h_i h' 45 j = if j = N.length then 0 else h_i h 45 j) (e44 : ∀ j, h_i h' 44 j = if 27 * N.length ≤ j ∧ j < 27 * N.length + 27 then -1 else if j = 27 * u + (s - 1) then nI N.length else h_i h 44 j) : MNd h' (N ++ [x ++ [s]]) W := by
  obtain ⟨c1, c2, c3, c4⟩ := hc
  have ul := (List.getElem?_eq_some_iff.mp hu).1
  have n0 : 0 < N.length := by omega
  refine ⟨c1.add (List.mem_of_getElem? hu) hy ho hl, by rw [e53, List.length_append]; rfl, fun z hz => List.mem_append_left _ (c3 z hz), fun u' z hz => ?_⟩
  by_cases w : u' < N.length
  · rw [List.getElem?_append_left w] at hz
    obtain ⟨d2, d5⟩ := c4 u' z hz
    refine ⟨fun h0 => by rw [e45, if_neg (by omega)]; exact d2 h0, fun t t0 ht => ?_⟩
    rw [e44, if_neg (by omega)]
    by_cases v : z ++ [t] = x ++ [s]
    · have e' := List.append_inj' v rfl
      have eu : u' = u := by
        rw [e'.1] at hz
        exact (nix_at c1.1 hz).symm.trans (nix_at c1.1 hu)
      have et : t = s := by
        have := e'.2
        injection this
      rw [if_pos (by rw [eu, et]), v, nd_new hy]
    · have hj : ¬ 27 * u' + (t - 1) = 27 * u + (s - 1) := fun w' => by
        have a1 : u' = u := by omega
        have a2 : t = s := by omega
        subst a1
        rw [hz] at hu
        cases hu
        exact v (by rw [a2])
      rw [if_neg hj, nd_app v]
      exact d5 t t0 ht
  · rw [List.getElem?_append_right (by omega)] at hz
    have hi := (List.getElem?_eq_some_iff.mp hz).1
    have hi' : u' - N.length < 1 := hi
    have eu : u' = N.length := by omega
    rw [eu, Nat.sub_self] at hz
    have ez : x ++ [s] = z := Option.some.inj hz
    refine ⟨fun _ => ?_, fun t t0 ht => ?_⟩
    · rw [eu, e45, if_pos rfl]
      refine ⟨fun z' => absurd (c3 _ z') (by rw [← ez]; exact hy), fun _ => rfl⟩
    · rw [eu, e44, if_pos (by omega)]
      refine (nd_no (fun q => ?_)).symm
      rcases List.mem_append.mp q with v | v
      · rw [← ez] at v
        exact hy (c1.up v)
      · have := congrArg List.length (List.mem_singleton.mp v)
        rw [List.length_append, ez] at this
        have h1 : ([t] : List Nat).length = 1 := rfl
        omega
theorem MNd.ends {h : PH} {u : Nat} {N : List (List Nat)} {W : List Nat → Prop} {x : List Nat} {v : Int32} (hv : v = 1) (hc : MNd h N W) (hu : N[u]? = some x) : MNd (w_i h 45 u v) N (fun z => W z ∨ z = x) := by
  obtain ⟨c1, c2, c3, c4⟩ := hc
  refine ⟨c1, by rw [wi_ne _ _ (by omega)]; exact c2, fun z hz => ?_, fun u' z hz => ?_⟩
  · rcases hz with w | w
    · exact c3 z w
    · rw [w]
      exact List.mem_of_getElem? hu
  · obtain ⟨d2, d5⟩ := c4 u' z hz
    refine ⟨fun h0 => ?_, fun t t0 ht => by rw [wi_ne _ _ (by omega)]; exact d5 t t0 ht⟩
    by_cases y : u' = u
    · subst y
      rw [hz] at hu
      cases hu
      rw [wi_eq, hv]
      exact ⟨fun _ => rfl, fun w => absurd (Or.inr rfl) w⟩
    · rw [wi_ne _ _ (fun w => y w.2)]
      refine bt.cg ⟨Or.inl, fun w => w.elim id (fun e => ?_)⟩ (d2 h0)
      rw [e] at hz
      exact absurd ((nix_at c1.1 hz).symm.trans (nix_at c1.1 hu)) y
theorem MNd.same {h : PH} {u : Nat} {N : List (List Nat)} {W : List Nat → Prop} {v : Int32} (hv : v = h_i h 45 u) (hc : MNd h N W) : MNd (w_i h 45 u v) N W := by
  obtain ⟨c1, c2, c3, c4⟩ := hc
  refine ⟨c1, by rw [wi_ne _ _ (by omega)]; exact c2, c3, fun u' z hz => ?_⟩
  obtain ⟨d2, d5⟩ := c4 u' z hz
  refine ⟨fun h0 => ?_, fun t t0 ht => by rw [wi_ne _ _ (by omega)]; exact d5 t t0 ht⟩
  by_cases y : u' = u
  · rw [y, wi_eq, hv, ← y]
    exact d2 h0
  · rw [wi_ne _ _ (fun w => y w.2)]
    exact d2 h0
theorem md_grow {d : Nat} {h0 : PH} {Q : PQ} {N : List (List Nat)} {i u j s : Nat} (hM : MdS h0) (hN : N.length < 99) (h53 : h_i h0 17 53 = nI N.length) (hu : u < 99) (s0 : 0 < s) (hs : s < 28) (k : ∀ h' y5, h_i h' 17 53 = nI (N.length + 1) → (∀ j, h_i h' 45 j = if j = N.length then 0 else h_i h0 45 j) → (∀ j, h_i h' 44 j = if 27 * N.length ≤ j ∧ j < 27 * N.length + 27 then -1 else if j = 27 * u + (s - 1) then nI N.length else h_i h0 44 j) → Fr Wn2 h0 h' → wpx d P_Md_layNodes 168 [.ref 17, .int (nI i), .int (nI u), .int (nI j), .int (nI (s - 1)), .int y5] [] h' Q) (v5 : Value) : wpx d P_Md_layNodes 100 [.ref 17, .int (nI i), .int (nI u), .int (nI j), .int (nI (s - 1)), v5] [] h0 Q := by
  have eix : (27 : Int32) * nI u + nI (s - 1) = nI (27 * u + (s - 1)) := by rw [show (27 : Int32) = nI 27 from rfl, nI_mulN, nI_add]
  have vix : vp_in ((27 : Int32) * nI u + nI (s - 1)) 2700 := by
    rw [eix]
    exact vp_in_nI (by omega) (by omega)
  have e0 : h_i (w_i h0 44 (((27 : Int32) * nI u + nI (s - 1)).toNatClampNeg) (h_i h0 17 53)) 17 53 = nI N.length := by
    rw [wi_ne _ _ (by omega)]
    exact h53
  refine B_Md_layNodes_100 hM.1 (mr_nodeNext hM) (ms_nodeNext hM) vix (mr_nodeEnds hM) (ms_nodeEnds hM) (by rw [e0]; exact vp_in_nI (by omega) (by omega)) ?_
  rw [e0, h53, eix, nI_clamp (by omega), nI_clamp (by omega)]
  have z0 : (0 : Int32) &&& 1 = 0 := by decide
  rw [z0]
  have loop : ∀ (n i5 : Nat) (g : PH), 27 - i5 = n → i5 ≤ 27 → h_i g 17 53 = nI N.length → (∀ j, h_i g 45 j = if j = N.length then 0 else h_i h0 45 j) → (∀ j, h_i g 44 j = if 27 * N.length ≤ j ∧ j < 27 * N.length + i5 then -1 else if j = 27 * u + (s - 1) then nI N.length else h_i h0 44 j) → Fr Wn2 h0 g → wpx d P_Md_layNodes 129 [.ref 17, .int (nI i), .int (nI u), .int (nI j), .int (nI (s - 1)), .int (nI i5)] [] g Q := by
    intro n
    induction n with
    | zero =>
      intro i5 g hn hi g53 g45 g44 hf
      have hMg := hf.md hM
      have e5 : i5 = 27 := by omega
      subst e5
      refine B_Md_layNodes_129 (fun _ => B_Md_layNodes_158 hMg.1 ?_) (fun q => absurd (by decide) q)
      rw [g53, nI_1]
      refine k _ _ (wi_eq ..) (fun j => by rw [wi_ne _ _ (by omega)]; exact g45 j) (fun j => by rw [wi_ne _ _ (by omega)]; exact g44 j) (hf.tr (Fr.wi _ _ (Or.inr (Or.inr ⟨rfl, rfl⟩))))
    | succ n ih =>
      intro i5 g hn hi g53 g45 g44 hf
      have hMg := hf.md hM
      have ej : (27 : Int32) * h_i g 17 53 + nI i5 = nI (27 * N.length + i5) := by rw [g53, show (27 : Int32) = nI 27 from rfl, nI_mulN, nI_add]
      refine B_Md_layNodes_129 (fun q => ?_) (fun _ => B_Md_layNodes_136 hMg.1 (mr_nodeNext hMg) (ms_nodeNext hMg) (by rw [ej]; exact vp_in_nI (by omega) (by omega)) ?_)
      · rw [show (27 : Int32) = nI 27 from rfl, nI_leI (by omega) (by omega)] at q
        omega
      · rw [ej, nI_clamp (by omega), nI_1]
        refine ih (i5 + 1) _ (by omega) (by omega) (by rw [wi_ne _ _ (by omega)]; exact g53) (fun j => by rw [wi_ne _ _ (by omega)]; exact g45 j) (fun j => ?_) (hf.tr (Fr.wi _ _ (Or.inl rfl)))
        by_cases y : j = 27 * N.length + i5
        · rw [y, wi_eq, if_pos (by omega)]
        · rw [wi_ne _ _ (fun w => y w.2), g44]
          by_cases z : 27 * N.length ≤ j ∧ j < 27 * N.length + i5
          · rw [if_pos z, if_pos (by omega)]
          · rw [if_neg z, if_neg (show ¬ (27 * N.length ≤ j ∧ j < 27 * N.length + (i5 + 1)) by omega)]
  refine loop _ 0 _ rfl (Nat.zero_le _) ?_ (fun j => ?_) (fun j => ?_) ((Fr.wi _ _ (Or.inl rfl)).tr (Fr.wi _ _ (Or.inr (Or.inl rfl))))
  · rw [wi_ne _ _ (by omega), wi_ne _ _ (by omega)]
    exact h53
  · by_cases y : j = N.length
    · rw [y, wi_eq, if_pos rfl]
    · rw [wi_ne _ _ (fun w => y w.2), if_neg y, wi_ne _ _ (by omega)]
  · rw [wi_ne _ _ (by omega), if_neg (by omega)]
    by_cases y : j = 27 * u + (s - 1)
    · rw [y, wi_eq, if_pos rfl]
    · rw [wi_ne _ _ (fun w => y w.2), if_neg y]
theorem md_layNodes {d : Nat} {h : PH} {Q : PQ} {gs : List (List Nat)} {m : Nat} (hM : MdS h) (hg : MGr h gs m) (hF : h_i h 17 26 ≠ 0 → ∃ N, CNd h N gs m) (k : ∀ h' N, CNd h' N gs m → h_i h' 17 26 ≠ 0 → Fr Wnd h h' → Q none h') : wpm (d + 3) 247 [.ref 17] h Q := by
  refine wpm_in P_Md_layNodes rfl (by decide) (by show ¬ 6 < 1; decide) ?_
  have h14 := hg.1.1
  have hgf : ∀ {g : PH}, Fr Wnd h g → MGr g gs m := fun hf => MGr.fr hf (fun x k z y => by unfold Wnd at z; omega) hg
  -- the letters of one group
  have letters : ∀ (i : Nat) (l : List Nat) (N : List (List Nat)) (W : List Nat → Prop) (R : List (List Nat) → PH → Prop), gs[i]? = some l → inm m i → N.length + l.length ≤ 99 → (∀ g1 N1 x2, MNd g1 N1 (fun x => W x ∨ x = l) → (∀ x, x ∈ N1 ↔ x ∈ N ∨ ∃ j, j ≤ l.length ∧ x = l.take j) → N1.length ≤ N.length + l.length → h_i g1 17 26 = 1 → Fr Wnd h g1 → ∀ x3 v4 v5, wpx (d + 2) P_Md_layNodes 213 [.ref 17, .int (nI i), .int x2, .int x3, v4, v5] [] g1 Q) → ∀ (e j u : Nat) (g : PH) (N1 : List (List Nat)) (v4 v5 : Value), l.length - j = e → j ≤ l.length → N1[u]? = some (l.take j) → MNd g N1 (fun x => W x ∨ (j = l.length ∧ x = l)) → (∀ x, x ∈ N1 ↔ x ∈ N ∨ ∃ j', j' ≤ j ∧ x = l.take j') → N1.length ≤ N.length + j → h_i g 17 26 = 1 → Fr Wnd h g → wpx (d + 2) P_Md_layNodes 53 [.ref 17, .int (nI i), .int (nI u), .int (nI j), v4, v5] [] g Q := by
    intro i l N W R gl hin hln kk e
    have li := gL gl
    obtain ⟨l1, l2, l3⟩ := hg.1.at gl
    have l7 := l1.2
    induction e with
    | zero =>
      intro j u g N1 v4 v5 he hj hu hN hm hl1 h26 hf
      have hMg := hf.md hM
      have hgg := hgf hf
      have ej : j = l.length := by omega
      subst ej
      refine B_Md_layNodes_53 hMg.1 (mr_size hMg) (ms_size hMg) (vp_in_nI (by omega) (by omega)) (fun _ => kk g N1 _ (hN.cg (fun x => by
        constructor
        · rintro (w | w)
          · exact Or.inl w
          · exact Or.inr w.2
        · rintro (w | w)
          · exact Or.inl w
          · exact Or.inr ⟨rfl, w⟩)) hm hl1 h26 hf _ _ _) (fun q => ?_)
      rw [nI_clamp (by omega), (hgg.2.2.2 i l gl).1, nI_leI (by omega) (by omega)] at q
      omega
    | succ e ih =>
      intro j u g N1 v4 v5 he hj hu hN hm hl1 h26 hf
      have hMg := hf.md hM
      have hgg := hgf hf
      have ul := (List.getElem?_eq_some_iff.mp hu).1
      have gx : l[j]? = some l[j] := List.getElem?_eq_getElem (by omega)
      generalize l[j] = s at gx
      have hs := l1.1 s (List.mem_of_getElem? gx)
      have tk : l.take (j + 1) = l.take j ++ [s] := by
        rw [List.take_succ, gx]
        rfl
      have m31 : m < 2 ^ 31 := Nat.lt_of_lt_of_le hg.1.2.1 (Nat.pow_le_pow_right (by decide) (by omega))
      refine B_Md_layNodes_53 hMg.1 (mr_size hMg) (ms_size hMg) (vp_in_nI (by omega) (by omega)) (fun q => ?_) (fun _ => B_Md_layNodes_63 hMg.1 ?_)
      · rw [nI_clamp (by omega), (hgg.2.2.2 i l gl).1, nI_leI (by omega) (by omega)] at q
        omega
      rw [hgg.2.2.1]
      refine md_isOf m31 (by omega) (fun _ => B_Md_layNodes_71 (fun z => absurd z (by decide)) (fun _ => ?_)) (fun q => absurd hin q)
      refine B_Md_layNodes_74 hMg.1 (md_letterAt hMg (by omega) ?_)
      have ex : nI (s + 96) - (97 : Int32) = nI (s - 1) := by
        rw [show (97 : Int32) = nI 97 from rfl, nI_subN (by omega)]
        rfl
      have eix : (27 : Int32) * nI u + nI (s - 1) = nI (27 * u + (s - 1)) := by rw [show (27 : Int32) = nI 27 from rfl, nI_mulN, nI_add]
      have here := hN.2.2.2 u _ hu
      have ch : h_i g 44 (27 * u + (s - 1)) = nd N1 (l.take (j + 1)) := by
        rw [here.2 s hs.1 hs.2, tk]
      rw [(hgg.2.2.2 i l gl).2 j s gx]
      have go : ∀ (g' : PH) (N2 : List (List Nat)) (w : Nat) (v5' : Value), N2[w]? = some (l.take (j + 1)) → h_i g' 44 (27 * u + (s - 1)) = nI w → MNd g' N2 W → (∀ x, x ∈ N2 ↔ x ∈ N ∨ ∃ j', j' ≤ j + 1 ∧ x = l.take j') → N2.length ≤ N.length + (j + 1) → h_i g' 17 26 = 1 → Fr Wnd h g' → wpx (d + 2) P_Md_layNodes 168 [.ref 17, .int (nI i), .int (nI u), .int (nI j), .int (nI (s - 1)), v5'] [] g' Q := by
        intro g' N2 w v5' hw hnx hN' hm' hln' h26' hf'
        have hMg' := hf'.md hM
        have hgg' := hgf hf'
        have wl := (List.getElem?_eq_some_iff.mp hw).1
        have n99 := hN'.1.2.2.2.1
        have w0 : 0 < w := by
          refine Nat.pos_of_ne_zero (fun q => ?_)
          rw [q, hN'.1.2.1] at hw
          have := congrArg List.length (Option.some.inj hw)
          rw [List.length_take] at this
          have h2 : ([] : List Nat).length = 0 := rfl
          omega
        have fin : ∀ b : Int32, (j + 1 = l.length → b = 1) → (j + 1 ≠ l.length → b = 0) → wpx (d + 2) P_Md_layNodes 205 [.ref 17, .int (nI i), .int (nI w), .int (nI j), .int (nI (s - 1)), v5'] [.int b, .int (h_i g' 45 w), .int (nI w), .ref 45] g' Q := by
          intro b b1 b0
          refine B_Md_layNodes_205 (ms_nodeEnds hMg') (vp_in_nI (by omega) (by omega)) ?_
          rw [nI_clamp (by omega), nI_1]
          have old := (hN'.2.2.2 w _ hw).1 w0
          have oldv : h_i g' 45 w = 0 ∨ h_i g' 45 w = 1 := (Classical.em (W (l.take (j + 1)))).elim (fun z => Or.inr (old.1 z)) (fun z => Or.inl (old.2 z))
          have f2 : ∀ v, Fr Wnd h (w_i g' 45 w v) := fun v => hf'.tr (Fr.wi _ _ (Or.inr (Or.inl rfl)))
          refine ih (j + 1) w _ N2 _ _ (by omega) (by omega) hw ?_ hm' hln' (by rw [wi_ne _ _ (by omega)]; exact h26') (f2 _)
          by_cases y : j + 1 = l.length
          · have etk : l.take (j + 1) = l := List.take_of_length_le (by omega)
            rw [etk] at hw
            refine (hN'.ends ?_ hw).cg (fun x => ?_)
            · rw [b1 y]
              rcases oldv with z | z <;> rw [z] <;> decide
            · constructor
              · rintro (z | z)
                · exact Or.inl z
                · exact Or.inr ⟨y, z⟩
              · rintro (z | z)
                · exact Or.inl z
                · exact Or.inr z.2
          · refine (hN'.same ?_).cg (fun x => ?_)
            · rw [b0 y]
              rcases oldv with z | z <;> rw [z] <;> decide
            · constructor
              · exact Or.inl
              · rintro (z | z)
                · exact z
                · exact absurd z.1 y
        refine B_Md_layNodes_168 hMg'.1 (mr_nodeNext hMg') (ms_nodeNext hMg') (by rw [eix]; exact vp_in_nI (by omega) (by omega)) (mr_nodeEnds hMg') (ms_nodeEnds hMg') (by rw [eix, nI_clamp (by omega), hnx]; exact vp_in_nI (by omega) (by omega)) (mr_size hMg') (ms_size hMg') (vp_in_nI (by omega) (by omega)) (fun z => ?_) (fun z => ?_) <;> rw [nI_clamp (show i < 2 ^ 31 by omega), (hgg'.2.2.2 i l gl).1, show (1 : Int32) = nI 1 from rfl, nI_subN (by omega), nI_eq (by omega) (by omega)] at z <;> rw [eix, nI_clamp (show 27 * u + (s - 1) < 2 ^ 31 by omega), hnx, nI_clamp (show w < 2 ^ 31 by omega)]
        · exact B_Md_layNodes_204 (fin 0 (fun q => absurd (by omega) z) (fun _ => rfl))
        · exact B_Md_layNodes_200 (fin 1 (fun _ => rfl) (fun q => absurd (by omega) q))
      have hNw : MNd g N1 W := hN.cg (fun x => by
        constructor
        · rintro (w | w)
          · exact w
          · omega
        · exact Or.inl)
      have hmm : l.take (j + 1) ∈ N1 → ∀ x, x ∈ N1 ↔ x ∈ N ∨ ∃ j', j' ≤ j + 1 ∧ x = l.take j' := fun hin x => by
        constructor
        · intro w
          rcases (hm x).mp w with v | ⟨j', v1, v2⟩
          · exact Or.inl v
          · exact Or.inr ⟨j', by omega, v2⟩
        · rintro (w | ⟨j', w1, w2⟩)
          · exact (hm x).mpr (Or.inl w)
          · by_cases y : j' = j + 1
            · rw [w2, y]
              exact hin
            · exact (hm x).mpr (Or.inr ⟨j', by omega, w2⟩)
      refine B_Md_layNodes_80 hMg.1 (mr_nodeNext hMg) (ms_nodeNext hMg) (by rw [ex, eix]; exact vp_in_nI (by omega) (by omega)) (fun z => ?_) (fun z => ?_) <;> rw [ex, eix, nI_clamp (show 27 * u + (s - 1) < 2 ^ 31 by omega), ch] at z <;> rw [ex]
      · by_cases hin : l.take (j + 1) ∈ N1
        · obtain ⟨w, hw⟩ := List.mem_iff_getElem?.mp hin
          refine go g N1 w _ hw (by rw [ch, nd_at hN.1.1 hw]) hNw (hmm hin) (by omega) h26 hf
        · rw [nd_no hin] at z
          exact absurd z (by decide)
      · have hin : ¬ l.take (j + 1) ∈ N1 := fun hin => by
          obtain ⟨w, hw⟩ := List.mem_iff_getElem?.mp hin
          have wl := (List.getElem?_eq_some_iff.mp hw).1
          have n99 := hN.1.2.2.2.1
          rw [nd_at hN.1.1 hw] at z
          exact z (nI_pos' (by omega))
        have hin' : ¬ l.take j ++ [s] ∈ N1 := by rw [← tk]; exact hin
        refine md_grow hMg (by omega) hN.2.1 (by omega) hs.1 hs.2 (fun g' y5 e53 e45 e44 f1 => ?_) _
        refine go g' (N1 ++ [l.take (j + 1)]) N1.length _ ?_ ?_ ?_ (fun x => ?_) ?_ ?_ (hf.tr (f1.up (fun x k z => z.up)))
        · rw [List.getElem?_append_right (Nat.le_refl _), Nat.sub_self]
          rfl
        · rw [e44, if_neg (by omega), if_pos rfl]
        · rw [tk]
          exact hNw.node hs.1 hs.2 hu hin' (by rw [← tk]; exact ⟨fun y hy => l1.1 y (List.mem_of_mem_take hy), by rw [List.length_take]; omega⟩) (by omega) e53 e45 e44
        · rw [List.mem_append, List.mem_singleton, hm]
          constructor
          · rintro ((w | ⟨j', w1, w2⟩) | w)
            · exact Or.inl w
            · exact Or.inr ⟨j', by omega, w2⟩
            · exact Or.inr ⟨j + 1, Nat.le_refl _, w⟩
          · rintro (w | ⟨j', w1, w2⟩)
            · exact Or.inl (Or.inl w)
            · by_cases y : j' = j + 1
              · rw [y] at w2
                exact Or.inr w2
              · exact Or.inl (Or.inr ⟨j', by omega, w2⟩)
        · rw [List.length_append]
          show N1.length + 1 ≤ _
          omega
        · rw [f1.i _ _ (fun z => by unfold Wn2 at z; omega)]
          exact h26
  -- the groups
  have plants : ∀ (e i : Nat) (N : List (List Nat)) (g : PH), gs.length - i = e → i ≤ gs.length → MNd g N (Wpl2 gs m i) → (∀ x, x ∈ N ↔ x = [] ∨ Ipl gs m i x ∨ Wpl2 gs m i x) → N.length ≤ 1 + 7 * i → h_i g 17 26 = 1 → Fr Wnd h g → ∀ v2 v3 v4 v5, wpx (d + 2) P_Md_layNodes 41 [.ref 17, .int (nI i), v2, v3, v4, v5] [] g Q := by
    intro e
    induction e with
    | zero =>
      intro i N g he hi hN hm hln h26 hf v2 v3 v4 v5
      have hMg := hf.md hM
      have hgg := hgf hf
      have ei : i = gs.length := by omega
      subst ei
      refine B_Md_layNodes_41 hMg.1 (fun _ => B_Md_layNodes_219 (k g N ⟨hN.cg (fun x => Wpl_end), fun x => by rw [hm, Ipl_end, Wpl_end]⟩ (by rw [h26]; decide) hf)) (fun q => ?_)
      rw [hgg.2.1, nI_leI (by omega) (by omega)] at q
      omega
    | succ e ih =>
      intro i N g he hi hN hm hln h26 hf v2 v3 v4 v5
      have hMg := hf.md hM
      have hgg := hgf hf
      have gl := gS (gs := gs) (k := i) (by omega)
      generalize gs.getD i [] = l at gl
      obtain ⟨l1, l2, l3⟩ := hg.1.at gl
      have l7 := l1.2
      have m31 : m < 2 ^ 31 := Nat.lt_of_lt_of_le hg.1.2.1 (Nat.pow_le_pow_right (by decide) (by omega))
      refine B_Md_layNodes_41 hMg.1 (fun q => ?_) (fun _ => B_Md_layNodes_49 ?_)
      · rw [hgg.2.1, nI_leI (by omega) (by omega)] at q
        omega
      by_cases hin : inm m i
      · refine letters i l N (Wpl2 gs m i) (fun _ _ => True) gl hin (by omega) (fun g1 N1 x2 hN1 hm1 hln1 h26' f1 x3 v4 v5 => B_Md_layNodes_213 ?_) _ 0 0 g N v4 v5 rfl (Nat.zero_le _) hN.1.2.1 (hN.cg (fun x => ⟨Or.inl, fun w => w.elim id (fun z => absurd z.1 (by omega))⟩)) (fun x => ?_) (Nat.le_refl _) h26 hf
        · rw [nI_1]
          refine ih (i + 1) N1 g1 (by omega) (by omega) (hN1.cg (fun x => Wpl_in gl hin)) (fun x => ?_) (by omega) h26' f1 _ _ _ _
          rw [hm1, hm, ← Ipl_in gl hin, ← Wpl_in gl hin]
          constructor
          · rintro ((w | w | w) | ⟨j, j1, j2⟩)
            · exact Or.inl w
            · exact Or.inr (Or.inl (Or.inl w))
            · exact Or.inr (Or.inr (Or.inl w))
            · by_cases y : j = l.length
              · rw [y, List.take_of_length_le (Nat.le_refl _)] at j2
                exact Or.inr (Or.inr (Or.inr j2))
              · exact Or.inr (Or.inl (Or.inr ⟨j, by omega, j2⟩))
          · rintro (w | (w | ⟨j, j1, j2⟩) | (w | w))
            · exact Or.inl (Or.inl w)
            · exact Or.inl (Or.inr (Or.inl w))
            · exact Or.inr ⟨j, by omega, j2⟩
            · exact Or.inl (Or.inr (Or.inr w))
            · exact Or.inr ⟨l.length, Nat.le_refl _, by rw [w, List.take_of_length_le (Nat.le_refl _)]⟩
        · constructor
          · exact Or.inl
          · rintro (w | ⟨j', j1, j2⟩)
            · exact w
            · have : j' = 0 := by omega
              subst this
              rw [j2]
              exact List.mem_of_getElem? hN.1.2.1
      · refine B_Md_layNodes_53 hMg.1 (mr_size hMg) (ms_size hMg) (vp_in_nI (by omega) (by omega)) (fun q => ?_) (fun _ => B_Md_layNodes_63 hMg.1 ?_)
        · rw [nI_clamp (by omega), (hgg.2.2.2 i l gl).1] at q
          exact absurd q (nI_nle l2 (by omega))
        rw [hgg.2.2.1]
        refine md_isOf m31 (by omega) (fun q => absurd q hin) (fun _ => B_Md_layNodes_71 (fun _ => B_Md_layNodes_213 ?_) (fun z => absurd rfl z))
        rw [nI_1]
        exact ih (i + 1) N g (by omega) (by omega) (hN.cg (fun x => Wpl_no hin)) (fun x => by rw [hm, Ipl_no hin, Wpl_no hin]) (by omega) h26 hf _ _ _ _
  -- the root
  have root : ∀ (e i : Nat) (g : PH), 27 - i = e → i ≤ 27 → (∀ j, j < i → h_i g 44 j = -1) → h_i g 17 53 = 1 → h_i g 17 26 = 1 → Fr Wnd h g → wpx (d + 2) P_Md_layNodes 20 [.ref 17, .int (nI i), .retAddr 0, .retAddr 0, .retAddr 0, .retAddr 0] [] g Q := by
    intro e
    induction e with
    | zero =>
      intro i g he hi h44 h53 h26 hf
      refine B_Md_layNodes_20 (fun _ => B_Md_layNodes_39 ?_) (fun q => ?_)
      · refine plants _ 0 [[]] g rfl (Nat.zero_le _) ⟨okN_1, h53, fun x ⟨k', a, _⟩ => absurd a (by omega), fun u x hu => ?_⟩ (fun x => ?_) (Nat.le_refl _) h26 hf _ _ _ _
        · have hl := (List.getElem?_eq_some_iff.mp hu).1
          have hl' : u < 1 := hl
          have e0 : u = 0 := by omega
          subst e0
          have e : [] = x := Option.some.inj hu
          subst e
          refine ⟨fun q => absurd q (by omega), fun s s0 hs => ?_⟩
          rw [h44 _ (by omega)]
          exact (nd_no (fun q => by cases List.mem_singleton.mp q)).symm
        · rw [List.mem_singleton]
          constructor
          · exact Or.inl
          · rintro (w | ⟨k', l, a, _⟩ | ⟨k', a, _⟩)
            · exact w
            · exact absurd a (by omega)
            · exact absurd a (by omega)
      · have e5 : i = 27 := by omega
        subst e5
        exact absurd (by decide) q
    | succ e ih =>
      intro i g he hi h44 h53 h26 hf
      have hMg := hf.md hM
      refine B_Md_layNodes_20 (fun q => ?_) (fun _ => B_Md_layNodes_26 hMg.1 (mr_nodeNext hMg) (ms_nodeNext hMg) (vp_in_nI (by omega) (by omega)) ?_)
      · rw [show (27 : Int32) = nI 27 from rfl, nI_leI (by omega) (by omega)] at q
        omega
      · rw [nI_clamp (by omega), nI_1]
        refine ih (i + 1) _ (by omega) (by omega) (fun j hj => ?_) (by rw [wi_ne _ _ (by omega)]; exact h53) (by rw [wi_ne _ _ (by omega)]; exact h26) (hf.tr (Fr.wi _ _ (Or.inl rfl)))
        by_cases y : j = i
        · rw [y, wi_eq]
        · rw [wi_ne _ _ (fun w => y w.2)]
          exact h44 j (by omega)
  refine B_Md_layNodes_0 hM.1 (fun q => B_Md_layNodes_8 hM.1 ?_) (fun q => ?_)
  · refine root _ 0 _ rfl (Nat.zero_le _) (fun j hj => absurd hj (by omega)) (wi_eq ..) ?_ ((Fr.wi _ _ (Or.inr (Or.inr ⟨rfl, Or.inl rfl⟩))).tr (Fr.wi _ _ (Or.inr (Or.inr ⟨rfl, Or.inr rfl⟩))))
    rw [wi_ne _ _ (by omega), wi_eq]
  · obtain ⟨N, hN⟩ := hF q
    exact B_Md_layNodes_7 (k h N hN q (Fr.rf _ _))
