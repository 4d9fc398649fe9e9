/-! the tree: suffixes, signs; built; kept till the table changes -/
theorem ja_fillI {d : Nat} {h : PH} {Q : PQ} {r n : Nat} {v : Int32} (hs : h_sh h r = some (1, n)) (hn : n < 2 ^ 31) (k : ∀ h', (∀ i, i < n → h_i h' r i = v) → Fr (fun a _ => a = r) h h' → Q none h') : wpm (d + 1) 283 [.ref r, .int v] h Q := by
  refine wpm_in P_Ja_fillI rfl (by decide) (by show ¬ 4 < 2; decide) (B_Ja_fillI_0 hs ?_)
  have loop : ∀ (e j : Nat) (g : PH), n - j = e → j ≤ n → Fr (fun a _ => a = r) h g → (∀ i, i < j → h_i g r i = v) → wpx d P_Ja_fillI 5 [.ref r, .int v, .int (nI j), .int (nI n)] [] g Q := by
    intro e
    induction e with
    | zero =>
      intro j g he hj hf h1
      have ej : j = n := by omega
      subst ej
      exact B_Ja_fillI_5 (fun _ => B_Ja_fillI_20 (k g h1 hf)) (fun q => absurd ((nI_leI (by omega) (by omega)).mpr (Nat.le_refl _)) q)
    | succ e ih =>
      intro j g he hj hf h1
      have hs' : h_sh g r = some (1, n) := by rw [hf.1]; exact hs
      refine B_Ja_fillI_5 (fun q => ?_) (fun _ => B_Ja_fillI_10 hs' (vp_in_nI (by omega) hn) ?_)
      · rw [nI_leI (by omega) (by omega)] at q
        omega
      · rw [nI_1, nI_clamp (by omega)]
        refine ih (j + 1) _ (by omega) (by omega) (hf.tr (Fr.wi _ _ rfl)) (fun i hi => ?_)
        by_cases e1 : i = j
        · subst e1
          rw [wi_eq]
        · rw [wi_ne _ _ (by omega)]
          exact h1 i (by omega)
  exact loop _ 0 h rfl (Nat.zero_le _) (Fr.rf _ _) (fun i hi => absurd hi (by omega))
theorem tr_next_v {d : Nat} {h : PH} {Q : PQ} {b u s n : Nat} (hT : TrS h b) (e9 : h_i h b 9 = nI n) (hn : n ≤ 99) (hu : u < n) (h1 : 1 ≤ s) (hs : s < 28) (k : Q (some (.int (h_i h (b + 1) (u * 28 + s)))) h) : wpm (d + 1) 97 [.ref b, .int (nI u), .int (nI s)] h Q := by
  refine wpm_in P_Tr_next rfl (by decide) (by show ¬ 3 < 3; decide) ?_
  have eix : nI u * (28 : Int32) + nI s = nI (u * 28 + s) := by rw [show (28 : Int32) = nI 28 from rfl, nI_mulN, nI_add]
  refine B_Tr_next_0 (fun z => absurd z (nI_lt0 (by omega))) (fun _ => B_Tr_next_4 hT.1 (fun z => ?_) (fun _ => B_Tr_next_12 (fun z => ?_) (fun _ => B_Tr_next_17 (fun _ => B_Tr_next_27 hT.1 hT.2.1.1 hT.2.1.2 (by rw [eix]; exact vp_in_nI (by omega) (by omega)) (B_Tr_next_38 ?_)) (fun z => ?_))))
  · rw [e9, nI_leI (by omega) (by omega)] at z
    omega
  · rw [show (1 : Int32) = nI 1 from rfl, nI_ltI (by omega) (by omega)] at z
    omega
  · rw [eix, nI_clamp (by omega)]
    exact k
  · rw [show (28 : Int32) = nI 28 from rfl, nI_ltI (by omega) (by omega)] at z
    omega
theorem tr_next_n {d : Nat} {h : PH} {Q : PQ} {b : Nat} {x2 : Int32} (k : Q (some (.int (-1))) h) : wpm (d + 1) 97 [.ref b, .int (-1), .int x2] h Q := by
  refine wpm_in P_Tr_next rfl (by decide) (by show ¬ 3 < 3; decide) ?_
  exact B_Tr_next_0 (fun _ => B_Tr_next_23 (B_Tr_next_38 k)) (fun z => absurd (by decide) z)
theorem tr_back_v {d : Nat} {h : PH} {Q : PQ} {b u s n : Nat} (hT : TrS h b) (e9 : h_i h b 9 = nI n) (hn : n ≤ 99) (hu : u < n) (hs : s < 8) (k : Q (some (.int (h_i h (b + 2) (u * 8 + s)))) h) : wpm (d + 1) 98 [.ref b, .int (nI u), .int (nI s)] h Q := by
  refine wpm_in P_Tr_back rfl (by decide) (by show ¬ 3 < 3; decide) ?_
  have eix : nI u * (8 : Int32) + nI s = nI (u * 8 + s) := by rw [show (8 : Int32) = nI 8 from rfl, nI_mulN, nI_add]
  refine B_Tr_back_0 (fun z => absurd z (nI_lt0 (by omega))) (fun _ => B_Tr_back_4 hT.1 (fun z => ?_) (fun _ => B_Tr_back_12 (fun z => absurd z (nI_lt0 (by omega))) (fun _ => B_Tr_back_16 (fun _ => B_Tr_back_26 hT.1 hT.2.2.1.1 hT.2.2.1.2 (by rw [eix]; exact vp_in_nI (by omega) (by omega)) (B_Tr_back_37 ?_)) (fun z => ?_))))
  · rw [e9, nI_leI (by omega) (by omega)] at z
    omega
  · rw [eix, nI_clamp (by omega)]
    exact k
  · rw [show (8 : Int32) = nI 8 from rfl, nI_ltI (by omega) (by omega)] at z
    omega
/-- the node of a row's last letters, so many -/
def bk (N : List (List Nat)) (x : List Nat) (d : Nat) : Int32 := if d ≤ x.length then nd N (x.drop (x.length - d)) else -1
theorem TrN.fr {W' : Nat → Nat → Prop} {h h' : PH} {b : Nat} {N : List (List Nat)} {I W : List Nat → Prop} (hf : Fr W' h h') (hw : ∀ x k, W' x k → ¬ Wpl b x k) (hc : TrN h b N I W) : TrN h' b N I W := by
  obtain ⟨c1, c2, c3, c4, c5⟩ := hc
  have e : ∀ x k, Wtre b x → h_i h' x k = h_i h x k := fun x k z => hf.i x k (fun q => hw x k q (Or.inl z))
  have e1 : ∀ k, h_i h' (b + 1) k = h_i h (b + 1) k := fun k => e _ k (Or.inl rfl)
  have e3 : ∀ k, h_i h' (b + 3) k = h_i h (b + 3) k := fun k => e _ k (Or.inr ⟨by omega, by omega⟩)
  have e4 : ∀ k, h_i h' (b + 4) k = h_i h (b + 4) k := fun k => e _ k (Or.inr ⟨by omega, by omega⟩)
  have e5 : ∀ k, h_i h' (b + 5) k = h_i h (b + 5) k := fun k => e _ k (Or.inr ⟨by omega, by omega⟩)
  have e6 : ∀ k, h_i h' (b + 6) k = h_i h (b + 6) k := fun k => e _ k (Or.inr ⟨by omega, by omega⟩)
  have e7 : ∀ k, h_i h' (b + 7) k = h_i h (b + 7) k := fun k => e _ k (Or.inr ⟨by omega, by omega⟩)
  refine ⟨c1, (hf.i b 9 (fun q => hw _ _ q (Or.inr ⟨rfl, rfl⟩))).trans c2, c3, fun u x hu => ?_, fun u h1 h2 => ?_⟩
  · obtain ⟨d1, d2, d3, d4, d5⟩ := c4 u x hu
    refine ⟨by rw [e3]; exact d1, by rw [e4]; exact d2, by rw [e5]; exact d3, fun y s ee => by rw [e6, e7]; exact d4 y s ee, fun s hs => by rw [e1]; exact d5 s hs⟩
  · obtain ⟨d1, d2, d3⟩ := c5 u h1 h2
    exact ⟨by rw [e4]; exact d1, by rw [e5]; exact d2, fun s hs => by rw [e1]; exact d3 s hs⟩
theorem snoc_ex {x : List Nat} (h : x ≠ []) : ∃ y s, x = y ++ [s] := ⟨x.dropLast, x.getLast h, (List.dropLast_concat_getLast h).symm⟩
theorem okN.ne {N : List (List Nat)} (h : okN N) {u : Nat} {x : List Nat} (h0 : 0 < u) (hu : N[u]? = some x) : x ≠ [] := fun e => by
  rw [e] at hu
  have := (nix_at h.1 hu).symm.trans (nix_at h.1 h.2.1)
  omega
theorem tr_link {d : Nat} {h : PH} {Q : PQ} {b w : Nat} {N : List (List Nat)} {I W : List Nat → Prop} {x : List Nat} (hT : TrS h b) (hN : TrN h b N I W) (h0 : 0 < w) (hw : N[w]? = some x) (hp : ∀ u y, u < w → N[u]? = some y → ∀ d, d < 8 → h_i h (b + 2) (u * 8 + d) = bk N y d) (hm : ∀ d, d < 8 → h_i h (b + 2) (w * 8 + d) = -1) (k : ∀ h', (∀ d, d < 8 → h_i h' (b + 2) (w * 8 + d) = bk N x d) → Fr (fun a i => a = b + 2 ∧ w * 8 ≤ i ∧ i < w * 8 + 8) h h' → Q none h') : wpm (d + 2) 94 [.ref b, .int (nI w)] h Q := by
  refine wpm_in P_Tr_linkSuffixes rfl (by decide) (by show ¬ 3 < 2; decide) ?_
  have b63 : 63 ≤ b := hT.2.2.2.2.2.2.2.2.2.2.1
  have wl := (List.getElem?_eq_some_iff.mp hw).1
  have n99 := hN.1.2.2.2.1
  obtain ⟨y, s, exy⟩ := snoc_ex (hN.1.ne h0 hw)
  subst exy
  have xl : (y ++ [s]).length = y.length + 1 := by rw [List.length_append]; rfl
  obtain ⟨p, p1, p2⟩ := hN.1.2.2.2.2 w y s hw
  have x7 : (y ++ [s]).length ≤ 7 := (hN.1.2.2.1 _ (List.mem_of_getElem? hw)).2
  have s28 := (hN.1.2.2.1 _ (List.mem_of_getElem? hw)).1 s (List.mem_append_right _ (List.mem_singleton.mpr rfl))
  have e8 : nI w * (8 : Int32) = nI (w * 8) := by rw [show (8 : Int32) = nI 8 from rfl, nI_mulN]
  have loop : ∀ (e j : Nat) (g : PH), 8 - j = e → 1 ≤ j → j ≤ 8 → Fr (fun a i => a = b + 2 ∧ w * 8 ≤ i ∧ i < w * 8 + 8) h g → (∀ i, i < j → h_i g (b + 2) (w * 8 + i) = bk N (y ++ [s]) i) → (∀ i, j ≤ i → i < 8 → h_i g (b + 2) (w * 8 + i) = -1) → wpx (d + 1) P_Tr_linkSuffixes 12 [.ref b, .int (nI w), .int (nI j)] [] g Q := by
    intro e
    induction e with
    | zero =>
      intro j g he j1 j8 hf h1 h2
      have hTg := hT.fr hf
      have fin : wpx (d + 1) P_Tr_linkSuffixes 68 [.ref b, .int (nI w), .int (nI j)] [] g Q := B_Tr_linkSuffixes_68 (k g (fun i hi => h1 i (by omega)) hf)
      exact B_Tr_linkSuffixes_12 hTg.1 hTg.2.2.2.1.1 hTg.2.2.2.1.2 (vp_in_nI (by omega) (by omega)) (fun _ => fin) (fun _ => B_Tr_linkSuffixes_22 (fun _ => fin) (fun z => absurd (nI_le (a := 8) (by omega) (by omega)) z))
    | succ e ih =>
      intro j g he j1 j8 hf h1 h2
      have hTg := hT.fr hf
      have hNg : TrN g b N I W := hN.fr hf (fun a i z q => by unfold Wpl Wtre at q; omega)
      obtain ⟨d1, d2, d3, d4, d5⟩ := hNg.2.2.2.1 w _ hw
      obtain ⟨d6, d7⟩ := d4 y s rfl
      refine B_Tr_linkSuffixes_12 hTg.1 hTg.2.2.2.1.1 hTg.2.2.2.1.2 (vp_in_nI (by omega) (by omega)) (fun z => B_Tr_linkSuffixes_68 (k g (fun i hi => ?_) hf)) (fun z => B_Tr_linkSuffixes_22 (fun q => ?_) (fun _ => ?_))
      · rw [nI_clamp (by omega), d1, nI_ltI (by omega) (by omega)] at z
        by_cases v : i < j
        · exact h1 i v
        · rw [h2 i (by omega) hi]
          unfold bk
          rw [if_neg (by omega)]
      · rw [show (8 : Int32) = nI 8 from rfl, nI_leI (by omega) (by omega)] at q
        omega
      · rw [nI_clamp (by omega), d1, nI_ltI (by omega) (by omega)] at z
        refine B_Tr_linkSuffixes_28 hTg.1 hTg.2.2.1.1 hTg.2.2.2.2.2.2.1.1 hTg.2.2.2.2.2.2.1.2 (vp_in_nI (by omega) (by omega)) ?_
        rw [nI_clamp (by omega), d6, nd_at hN.1.1 p2, show nI j - (1 : Int32) = nI (j - 1) by rw [show (1 : Int32) = nI 1 from rfl, nI_subN (by omega)], e8, nI_add]
        refine tr_back_v hTg hNg.2.1 (by omega) (by omega) (by omega) ?_
        have ep : h_i g (b + 2) (p * 8 + (j - 1)) = nd N (y.drop (y.length - (j - 1))) := by
          rw [hf.i _ _ (by omega), hp p y p1 p2 _ (by omega)]
          unfold bk
          rw [if_pos (by omega)]
        have ex : bk N (y ++ [s]) j = nd N (y.drop (y.length - (j - 1)) ++ [s]) := by
          unfold bk
          rw [if_pos (by omega), xl, show y.length + 1 - j = y.length - (j - 1) by omega, List.drop_append_of_le_length (by omega)]
        rw [ep]
        have fin : wpx (d + 1) P_Tr_linkSuffixes 61 [.ref b, .int (nI w), .int (nI j)] [.int (nd N (y.drop (y.length - (j - 1)) ++ [s])), .int (nI (w * 8 + j)), .ref (b + 2)] g Q := by
          refine B_Tr_linkSuffixes_61 hTg.2.2.1.2 (vp_in_nI (by omega) (by omega)) ?_
          rw [nI_clamp (by omega), nI_1]
          refine ih (j + 1) _ (by omega) (by omega) (by omega) (hf.tr (Fr.wi _ _ ⟨rfl, by omega, by omega⟩)) (fun i hi => ?_) (fun i h3 h4 => ?_)
          · by_cases v : i = j
            · rw [v, wi_eq, ex]
            · rw [wi_ne _ _ (by omega)]
              exact h1 i (by omega)
          · rw [wi_ne _ _ (by omega)]
            exact h2 i (by omega) h4
        refine B_Tr_linkSuffixes_52 hTg.1 hTg.2.2.2.2.2.2.2.1.1 hTg.2.2.2.2.2.2.2.1.2 (vp_in_nI (by omega) (by omega)) hTg.1 ?_
        rw [nI_clamp (by omega), d7]
        by_cases hz : y.drop (y.length - (j - 1)) ∈ N
        · obtain ⟨v, hv⟩ := List.mem_iff_getElem?.mp hz
          have vl := (List.getElem?_eq_some_iff.mp hv).1
          rw [nd_at hN.1.1 hv]
          refine tr_next_v hTg hNg.2.1 (by omega) vl s28.1 s28.2 ?_
          rw [(hNg.2.2.2.1 v _ hv).2.2.2.2 s s28.2]
          exact fin
        · rw [nd_no hz]
          refine tr_next_n ?_
          rw [nd_no (fun q => hz (hN.1.up q))] at fin
          exact fin
  refine B_Tr_linkSuffixes_0 hT.1 hT.2.2.1.1 hT.2.2.1.2 (by rw [e8]; exact vp_in_nI (by omega) (by omega)) ?_
  rw [e8, nI_clamp (by omega)]
  refine loop _ 1 _ rfl (Nat.le_refl _) (by omega) (Fr.wi _ _ ⟨rfl, by omega, by omega⟩) (fun i hi => ?_) (fun i h3 h4 => ?_)
  · rw [show i = 0 by omega]
    show h_i (w_i h (b + 2) (w * 8) 0) (b + 2) (w * 8) = _
    rw [wi_eq]
    unfold bk
    rw [if_pos (Nat.zero_le _), Nat.sub_zero, List.drop_length, nd_at hN.1.1 hN.1.2.1]
    rfl
  · rw [wi_ne _ _ (by omega)]
    exact hm i h4
/-- the nodes by their last signs -/
def lsg (N : List (List Nat)) (u : Nat) : Nat := (N.getD u []).getLastD 0
theorem lsg_at {N : List (List Nat)} {u s : Nat} {y : List Nat} (h : N[u]? = some (y ++ [s])) : lsg N u = s := by
  unfold lsg
  rw [gD h, List.getLastD_concat]
def sgB (N : List (List Nat)) (s : Nat) : Nat → List Nat
  | 0 => []
  | w + 1 => if 0 < w ∧ lsg N w = s then sgB N s w ++ [w] else sgB N s w
def sgF (N : List (List Nat)) : Nat → List Nat
  | 0 => []
  | s + 1 => sgF N s ++ sgB N s N.length
theorem sgB_mem {N : List (List Nat)} {s u : Nat} : ∀ {w : Nat}, u ∈ sgB N s w ↔ 0 < u ∧ u < w ∧ lsg N u = s
  | 0 => ⟨fun h => (by cases h), fun h => absurd h.2.1 (by omega)⟩
  | w + 1 => by
    have ih := sgB_mem (N := N) (s := s) (u := u) (w := w)
    unfold sgB
    by_cases z : 0 < w ∧ lsg N w = s
    · rw [if_pos z, List.mem_append, ih, List.mem_singleton]
      constructor
      · rintro (⟨a, b, c⟩ | a)
        · exact ⟨a, by omega, c⟩
        · rw [a]
          exact ⟨z.1, by omega, z.2⟩
      · rintro ⟨a, b, c⟩
        by_cases y : u = w
        · exact Or.inr y
        · exact Or.inl ⟨a, by omega, c⟩
    · rw [if_neg z, ih]
      constructor
      · rintro ⟨a, b, c⟩
        exact ⟨a, by omega, c⟩
      · rintro ⟨a, b, c⟩
        have : u ≠ w := fun y => z (by rw [← y]; exact ⟨a, c⟩)
        exact ⟨a, by omega, c⟩
theorem sgF_mem {N : List (List Nat)} {u : Nat} : ∀ {s : Nat}, u ∈ sgF N s ↔ 0 < u ∧ u < N.length ∧ lsg N u < s
  | 0 => ⟨fun h => (by cases h), fun h => absurd h.2.2 (by omega)⟩
  | s + 1 => by
    unfold sgF
    rw [List.mem_append, sgF_mem, sgB_mem]
    constructor
    · rintro (⟨a, b, c⟩ | ⟨a, b, c⟩)
      · exact ⟨a, b, by omega⟩
      · exact ⟨a, b, by omega⟩
    · rintro ⟨a, b, c⟩
      by_cases y : lsg N u = s
      · exact Or.inr ⟨a, b, y⟩
      · exact Or.inl ⟨a, b, by omega⟩
theorem nd_snoc {L : List Nat} {w : Nat} (h : L.Nodup) (hw : ¬ w ∈ L) : (L ++ [w]).Nodup := by
  rw [List.nodup_append]
  refine ⟨h, List.nodup_cons.mpr ⟨fun w => (by cases w), List.nodup_nil⟩, fun a ha b hb e => ?_⟩
  rw [List.mem_singleton] at hb
  exact hw (by rw [← hb, ← e]; exact ha)
theorem sgFB_nd {N : List (List Nat)} {s : Nat} (hF : (sgF N s).Nodup) : ∀ w, (sgF N s ++ sgB N s w).Nodup
  | 0 => by
    show (sgF N s ++ []).Nodup
    rw [List.append_nil]
    exact hF
  | w + 1 => by
    have ih := sgFB_nd hF w
    unfold sgB
    by_cases z : 0 < w ∧ lsg N w = s
    · rw [if_pos z, ← List.append_assoc]
      refine nd_snoc ih (fun q => ?_)
      rcases List.mem_append.mp q with v | v
      · have := (sgF_mem.mp v).2.2
        omega
      · have := (sgB_mem.mp v).2.1
        omega
    · rw [if_neg z]
      exact ih
theorem sgF_nd {N : List (List Nat)} : ∀ s, (sgF N s).Nodup
  | 0 => List.nodup_nil
  | s + 1 => sgFB_nd (sgF_nd s) N.length
theorem sgFB_len {N : List (List Nat)} {s w : Nat} (h0 : 0 < N.length) (hw : w ≤ N.length) : (sgF N s ++ sgB N s w).length < N.length := by
  have hn := sgFB_nd (sgF_nd (N := N) s) w
  have h1 : (0 :: (sgF N s ++ sgB N s w)).Nodup := List.nodup_cons.mpr ⟨fun q => by
    rcases List.mem_append.mp q with v | v
    · have := (sgF_mem.mp v).1
      omega
    · have := (sgB_mem.mp v).1
      omega, hn⟩
  have h2 : (0 :: (sgF N s ++ sgB N s w)) ⊆ List.range N.length := fun u hu => by
    rw [List.mem_range]
    rcases List.mem_cons.mp hu with v | v
    · omega
    · rcases List.mem_append.mp v with q | q
      · exact (sgF_mem.mp q).2.1
      · have := (sgB_mem.mp q).2.1
        omega
  have := h1.length_le_of_subset h2
  rw [List.length_range, List.length_cons] at this
  omega
def CSg (h : PH) (b : Nat) (N : List (List Nat)) : Prop := (∀ s, s ≤ 28 → h_i h (b + 9) s = nI (sgF N s).length) ∧ ∀ i u, (sgF N 28)[i]? = some u → h_i h (b + 8) i = nI u
theorem tr_list {d : Nat} {h : PH} {Q : PQ} {b : Nat} {N : List (List Nat)} {I W : List Nat → Prop} (hT : TrS h b) (hN : TrN h b N I W) (k : ∀ h', CSg h' b N → Fr (fun a _ => a = b + 8 ∨ a = b + 9) h h' → Q none h') : wpm (d + 1) 95 [.ref b] h Q := by
  refine wpm_in P_Tr_listBySign rfl (by decide) (by show ¬ 4 < 1; decide) (B_Tr_listBySign_0 ?_)
  have b63 : 63 ≤ b := hT.2.2.2.2.2.2.2.2.2.2.1
  have n99 := hN.1.2.2.2.1
  have n0 : 0 < N.length := (List.getElem?_eq_some_iff.mp hN.1.2.1).1
  have outer : ∀ (e s : Nat) (g : PH) (v : Value), 28 - s = e → s ≤ 28 → Fr (fun a _ => a = b + 8 ∨ a = b + 9) h g → (∀ s', s' < s → h_i g (b + 9) s' = nI (sgF N s').length) → (∀ i u, (sgF N s)[i]? = some u → h_i g (b + 8) i = nI u) → wpx d P_Tr_listBySign 4 [.ref b, .int (nI (sgF N s).length), .int (nI s), v] [] g Q := by
    intro e
    induction e with
    | zero =>
      intro s g v he hs hf h9 h8
      have es : s = 28 := by omega
      subst es
      have hTg := hT.fr hf
      refine B_Tr_listBySign_4 (fun _ => B_Tr_listBySign_59 hTg.1 hTg.2.2.2.2.2.2.2.2.2.1.1 hTg.2.2.2.2.2.2.2.2.2.1.2 (vp_in_nI (n := 28) (by omega) (by omega)) ?_) (fun q => absurd (by decide) q)
      refine k _ ⟨fun s' hs' => ?_, fun i u hu => ?_⟩ (hf.tr (Fr.wi _ _ (Or.inr rfl)))
      · by_cases y : s' = 28
        · rw [y, wi_eq]
        · rw [wi_ne _ _ (by omega)]
          exact h9 s' (by omega)
      · rw [wi_ne _ _ (by omega)]
        exact h8 i u hu
    | succ e ih =>
      intro s g v he hs hf h9 h8
      have hTg := hT.fr hf
      have inner : ∀ (f w : Nat) (g : PH), N.length - w = f → 1 ≤ w → w ≤ N.length → Fr (fun a _ => a = b + 8 ∨ a = b + 9) h g → (∀ s', s' < s + 1 → h_i g (b + 9) s' = nI (sgF N s').length) → (∀ i u, (sgF N s ++ sgB N s w)[i]? = some u → h_i g (b + 8) i = nI u) → wpx d P_Tr_listBySign 19 [.ref b, .int (nI (sgF N s ++ sgB N s w).length), .int (nI s), .int (nI w)] [] g Q := by
        intro f
        induction f with
        | zero =>
          intro w g hw w1 wn hf h9 h8
          have ew : w = N.length := by omega
          have hTg := hT.fr hf
          have hNg : TrN g b N I W := hN.fr hf (fun a i z q => by unfold Wpl Wtre at q; omega)
          refine B_Tr_listBySign_19 hTg.1 (fun _ => B_Tr_listBySign_53 ?_) (fun q => ?_)
          · rw [nI_1, ew]
            rw [ew] at h8
            exact ih (s + 1) g _ (by omega) (by omega) hf h9 h8
          · rw [hNg.2.1, nI_leI (by omega) (by omega)] at q
            omega
        | succ f ihf =>
          intro w g hw w1 wn hf h9 h8
          have hTg := hT.fr hf
          have hNg : TrN g b N I W := hN.fr hf (fun a i z q => by unfold Wpl Wtre at q; omega)
          have gw := gS (gs := N) (k := w) (by omega)
          obtain ⟨y, t, ey⟩ := snoc_ex (hN.1.ne w1 gw)
          rw [ey] at gw
          have lw : lsg N w = t := lsg_at gw
          have t28 := (hN.1.2.2.1 _ (List.mem_of_getElem? gw)).1 t (List.mem_append_right _ (List.mem_singleton.mpr rfl))
          have d7 : h_i g (b + 7) w = nI t := ((hNg.2.2.2.1 w _ gw).2.2.2.1 y t rfl).2
          have len := sgFB_len (N := N) (s := s) n0 (w := w) (by omega)
          have e0 : sgB N s (w + 1) = if 0 < w ∧ lsg N w = s then sgB N s w ++ [w] else sgB N s w := rfl
          refine B_Tr_listBySign_19 hTg.1 (fun q => ?_) (fun _ => B_Tr_listBySign_27 hTg.1 hTg.2.2.2.2.2.2.2.1.1 hTg.2.2.2.2.2.2.2.1.2 (vp_in_nI (by omega) (by omega)) (fun q => B_Tr_listBySign_47 ?_) (fun q => ?_))
          · rw [hNg.2.1, nI_leI (by omega) (by omega)] at q
            omega
          · rw [nI_clamp (by omega), d7] at q
            have ne : ¬ t = s := fun z => q (by rw [z])
            rw [if_neg (fun z => ne (lw.symm.trans z.2))] at e0
            rw [nI_1]
            have := ihf (w + 1) g (by omega) (by omega) (by omega) hf h9 (by rw [e0]; exact h8)
            rw [e0] at this
            exact this
          · rw [nI_clamp (by omega), d7, nI_eq (by omega) (by omega)] at q
            rw [if_pos ⟨w1, lw.trans q⟩] at e0
            refine B_Tr_listBySign_37 hTg.1 hTg.2.2.2.2.2.2.2.2.1.1 hTg.2.2.2.2.2.2.2.2.1.2 (vp_in_nI (by omega) (by omega)) (B_Tr_listBySign_47 ?_)
            rw [nI_clamp (by omega), nI_1, nI_1]
            have ea : sgF N s ++ sgB N s (w + 1) = (sgF N s ++ sgB N s w) ++ [w] := by rw [e0, List.append_assoc]
            have el : (sgF N s ++ sgB N s (w + 1)).length = (sgF N s ++ sgB N s w).length + 1 := by rw [ea, List.length_append]; rfl
            have := ihf (w + 1) (w_i g (b + 8) (sgF N s ++ sgB N s w).length (nI w)) (by omega) (by omega) (by omega) (hf.tr (Fr.wi _ _ (Or.inl rfl))) (fun s' hs' => by
              rw [wi_ne _ _ (by omega)]
              exact h9 s' hs') (fun i u hu => by
              rw [ea] at hu
              by_cases v : i < (sgF N s ++ sgB N s w).length
              · rw [List.getElem?_append_left v] at hu
                rw [wi_ne _ _ (by omega)]
                exact h8 i u hu
              · rw [List.getElem?_append_right (by omega)] at hu
                have hi := (List.getElem?_eq_some_iff.mp hu).1
                have hi' : i - (sgF N s ++ sgB N s w).length < 1 := hi
                have ei : i = (sgF N s ++ sgB N s w).length := by omega
                rw [ei, Nat.sub_self] at hu
                have eu : w = u := Option.some.inj hu
                rw [ei, wi_eq, eu])
            rw [el] at this
            exact this
      refine B_Tr_listBySign_4 (fun q => ?_) (fun _ => B_Tr_listBySign_10 hTg.1 hTg.2.2.2.2.2.2.2.2.2.1.1 hTg.2.2.2.2.2.2.2.2.2.1.2 (vp_in_nI (by omega) (by omega)) ?_)
      · rw [show (28 : Int32) = nI 28 from rfl, nI_leI (by omega) (by omega)] at q
        omega
      · rw [nI_clamp (by omega)]
        have e1 : sgB N s 1 = [] := by
          show (if 0 < 0 ∧ lsg N 0 = s then sgB N s 0 ++ [0] else sgB N s 0) = []
          rw [if_neg (by omega)]
          rfl
        have := inner _ 1 (w_i g (b + 9) s (nI (sgF N s).length)) rfl (Nat.le_refl _) n0 (hf.tr (Fr.wi _ _ (Or.inr rfl))) (fun s' hs' => by
          by_cases y : s' = s
          · rw [y, wi_eq]
          · rw [wi_ne _ _ (by omega)]
            exact h9 s' (by omega)) (fun i u hu => by
          rw [e1, List.append_nil] at hu
          rw [wi_ne _ _ (by omega)]
          exact h8 i u hu)
        rw [e1, List.append_nil] at this
        exact this
  exact outer _ 0 h _ rfl (Nat.zero_le _) (Fr.rf _ _) (fun s' hs' => absurd hs' (by omega)) (fun i u hu => by cases hu)
