/-! borders on the class's side: the list is sorted, by gaps -/
theorem nI_toInt' {n : Nat} (h : n < 2 ^ 31) : (nI n).toInt = n := Int32.toInt_ofNat_of_lt h
theorem nI_sneg {a b : Nat} (h : a < b) (hb : b < 2 ^ 31) : nI a - nI b < 0 := by
  rw [Int32.lt_iff_toInt_lt, Int32.toInt_sub, nI_toInt' (by omega), nI_toInt' hb]
  have e0 : (0 : Int32).toInt = 0 := rfl
  rw [e0]
  have : ((a : Int) - (b : Int)).bmod (2 ^ 32) = (a : Int) - b := Int.bmod_eq_of_le (by omega) (by omega)
  omega
theorem nI_half {n : Nat} (h : n < 2 ^ 31) : nI n / (2 : Int32) = nI (n / 2) := by
  apply Int32.toInt_inj.mp
  rw [Int32.toInt_div, nI_toInt' h, nI_toInt' (by omega)]
  have e2 : (2 : Int32).toInt = 2 := rfl
  rw [e2]
  have : (n : Int).tdiv 2 = ((n / 2 : Nat) : Int) := by rw [Int.tdiv_eq_ediv_of_nonneg (by omega)]; omega
  rw [this]
  exact Int.bmod_eq_of_le (by omega) (by omega)
theorem set_swap {l : List Nat} {i j a b : Nat} (hi : i < l.length) (hj : l[j]? = some b) (hij : i ≠ j) : ((l.set i b).set j a).Perm (l.set i a) := by
  obtain ⟨jl, ej⟩ := List.getElem?_eq_some_iff.mp hj
  refine List.perm_iff_count.mpr (fun c => ?_)
  have jl' : j < (l.set i b).length := by rw [List.length_set]; exact jl
  rw [List.count_set jl', List.count_set hi, List.count_set hi]
  have e : (l.set i b)[j] = b := by rw [List.getElem_set_ne hij, ej]
  rw [e]
  generalize (if (b == c) = true then 1 else 0) = q
  omega
/-- each element at most the one that stands g behind it, but for those that touch p -/
def gpS (g n : Nat) (l : List Nat) : Prop := ∀ t x y, t + g < n → l[t]? = some x → l[t + g]? = some y → x ≤ y
def gpH (g n p e : Nat) (l : List Nat) : Prop := (∀ t x y, t + g < n → t ≠ p → t + g ≠ p → l[t]? = some x → l[t + g]? = some y → x ≤ y) ∧ (∀ y, p + g < n → l[p + g]? = some y → e ≤ y) ∧ ∀ t x y, t + g = p → p + g < n → l[t]? = some x → l[p + g]? = some y → x ≤ y
theorem gpH.end {g n p e : Nat} {l : List Nat} (hg : 0 < g) (h : gpH g n p e l) (hx : ∀ t x, t + g = p → l[t]? = some x → x ≤ e) (hp : p < l.length) : gpS g n (l.set p e) := by
  obtain ⟨h1, h2, h3⟩ := h
  intro t x y ht hx' hy'
  rw [List.getElem?_set] at hx' hy'
  by_cases a : p = t
  · rw [if_pos a, if_pos hp] at hx'
    rw [if_neg (by omega)] at hy'
    have := Option.some.inj hx'
    rw [← this]
    exact h2 y (by omega) (by rw [a]; exact hy')
  · rw [if_neg a] at hx'
    by_cases b : p = t + g
    · rw [if_pos b, if_pos hp] at hy'
      have := Option.some.inj hy'
      rw [← this]
      exact hx t x (by omega) hx'
    · rw [if_neg b] at hy'
      exact h1 t x y ht (by omega) (by omega) hx' hy'
theorem gpH.step {g n p e j v : Nat} {l : List Nat} (hg : 0 < g) (h : gpH g n p e l) (hj : j + g = p) (hv : l[j]? = some v) (he : e ≤ v) (hp : p < l.length) : gpH g n j e (l.set p v) := by
  obtain ⟨h1, h2, h3⟩ := h
  refine ⟨fun t x y ht n1 n2 hx' hy' => ?_, fun y hy hy' => ?_, fun t x y ht hy hx' hy' => ?_⟩
  · rw [List.getElem?_set] at hx' hy'
    rw [if_neg (by omega)] at hy'
    by_cases a : p = t
    · rw [if_pos a, if_pos hp] at hx'
      have := Option.some.inj hx'
      rw [← this]
      exact h3 j v y hj (by omega) hv (by rw [a]; exact hy')
    · rw [if_neg a] at hx'
      exact h1 t x y ht (by omega) (by omega) hx' hy'
  · rw [List.getElem?_set, if_pos hj.symm, if_pos hp] at hy'
    have := Option.some.inj hy'
    omega
  · rw [List.getElem?_set, if_neg (by omega)] at hx'
    rw [List.getElem?_set, if_pos hj.symm, if_pos hp] at hy'
    have := Option.some.inj hy'
    rw [← this]
    refine h1 t x v (by omega) (by omega) (by omega) hx' (by rw [ht]; exact hv)
theorem gpH.ini {g n p e : Nat} {l : List Nat} (h : gpS g p l) (hn : n = p + 1) (hg : 0 < g) : gpH g n p e l := ⟨fun t x y ht n1 n2 hx hy => h t x y (by omega) hx hy, fun y hy => absurd hy (by omega), fun t x y ht hy => absurd hy (by omega)⟩
theorem gp_pw : ∀ {l : List Nat}, gpS 1 l.length l → l.Pairwise (· ≤ ·)
  | [], _ => List.Pairwise.nil
  | [x], _ => List.pairwise_singleton _ _
  | x :: y :: r, h => by
    have ih := gp_pw (l := y :: r) (fun t a b ht ha hb => h (t + 1) a b (by rw [List.length_cons]; omega) (by rw [List.getElem?_cons_succ]; exact ha) (by rw [List.getElem?_cons_succ]; exact hb))
    have xy : x ≤ y := h 0 x y (by simp) rfl rfl
    refine List.pairwise_cons.mpr ⟨fun z hz => ?_, ih⟩
    rcases List.mem_cons.mp hz with w | w
    · omega
    · have := (List.pairwise_cons.mp ih).1 z w
      omega
theorem BL.set {h : PH} {b la cap p v : Nat} {l : List Nat} (hB : BoS h b la cap) (hL : BL h b la cap l) (hp : p < l.length) : BL (w_i h la p (nI v)) b la cap (l.set p v) := by
  have lb := hB.2.2.2.2.2.2.2.2
  obtain ⟨e0, e1, e2⟩ := hL
  refine ⟨by rw [wi_ne _ _ (by omega), List.length_set]; exact e0, fun i q hq => ?_, by rw [List.length_set]; exact e2⟩
  rw [List.getElem?_set] at hq
  by_cases y : p = i
  · rw [if_pos y, if_pos hp] at hq
    rw [← y, wi_eq, Option.some.inj hq]
  · rw [if_neg y] at hq
    rw [wi_ne _ _ (fun z => y z.2.symm)]
    exact e1 i q hq
theorem bo_sort {d b la cap : Nat} {h : PH} {Q : PQ} {l : List Nat} (hB : BoS h b la cap) (hL : BL h b la cap l) (hc : cap ≤ 65536) (hv : ∀ v ∈ l, v < 2 ^ 31) (k : ∀ h' l', BL h' b la cap l' → l'.Perm l → l'.Pairwise (· ≤ ·) → Fr (fun x _ => x = la) h h' → Q none h') : wpm (d + 1) 9 [.ref b] h Q := by
  refine wpm_in P_Bo_sort rfl (by decide) (by show ¬ 5 < 1; decide) ?_
  have hlc := hL.2.2
  have pass : ∀ (g : Nat), 0 < g → g ≤ l.length → (∀ (h1 : PH) (l1 : List Nat) (x2 : Int32) (v3 v4 : Value), BL h1 b la cap l1 → l1.Perm l → gpS g l1.length l1 → Fr (fun x _ => x = la) h h1 → wpx d P_Bo_sort 90 [.ref b, .int (nI g), .int x2, v3, v4] [] h1 Q) → ∀ (e I : Nat) (h1 : PH) (l1 : List Nat) (v3 v4 : Value), l.length - I = e → I ≤ l.length → BL h1 b la cap l1 → l1.Perm l → gpS g I l1 → Fr (fun x _ => x = la) h h1 → wpx d P_Bo_sort 13 [.ref b, .int (nI g), .int (nI I), v3, v4] [] h1 Q := by
    intro g g0 gl kk e
    induction e with
    | zero =>
      intro I h1 l1 v3 v4 he hI L1 p1 s1 hf
      have ll := p1.length_eq
      have eI : I = l1.length := by omega
      rw [eI] at s1
      have B1 := hB.fr hf
      refine B_Bo_sort_13 B1.1 (fun _ => kk h1 l1 _ _ _ L1 p1 s1 hf) (fun z => ?_)
      rw [L1.1, nI_leI (by omega) (by omega)] at z
      omega
    | succ e ih =>
      intro I h1 l1 v3 v4 he hI L1 p1 s1 hf
      have ll := p1.length_eq
      have B1 := hB.fr hf
      have gx : l1[I]? = some (l1[I]'(by omega)) := List.getElem?_eq_getElem (by omega)
      have ex : l1.set I (l1[I]'(by omega)) = l1 := List.set_getElem_self ..
      generalize l1[I]'(by omega) = en at gx ex
      have ev := hv en (p1.mem_iff.mp (List.mem_of_getElem? gx))
      have hole : ∀ (q p : Nat) (h2 : PH) (l2 : List Nat), p ≤ q → p ≤ I → BL h2 b la cap l2 → (l2.set p en).Perm l → gpH g (I + 1) p en l2 → Fr (fun x _ => x = la) h h2 → wpx d P_Bo_sort 33 [.ref b, .int (nI g), .int (nI I), .int (nI en), .int (nI p - nI g)] [] h2 Q := by
        intro q
        induction q with
        | zero =>
          intro p h2 l2 hq hp L2 p2 s2 hf2
          have B2 := hB.fr hf2
          have l2l : l2.length = l.length := by have := p2.length_eq; rw [List.length_set] at this; exact this
          have ep : nI p - nI g + nI g = nI p := Int32.sub_add_cancel _ _
          refine B_Bo_sort_33 (fun _ => B_Bo_sort_74 B2.1 B2.2.2.2.1.1 B2.2.2.2.1.2 (by rw [ep]; exact vp_in_nI (by omega) (by omega)) ?_) (fun z => absurd (nI_sneg (by omega) (by omega)) z)
          rw [ep, nI_clamp (by omega), nI_1]
          refine ih (I + 1) _ (l2.set p en) _ _ (by omega) (by omega) (L2.set B2 (by omega)) p2 ?_ (hf2.tr (Fr.wi _ _ rfl))
          exact s2.end g0 (fun t x ht => absurd ht (by omega)) (by omega)
        | succ q ihq =>
          intro p h2 l2 hq hp L2 p2 s2 hf2
          have B2 := hB.fr hf2
          have l2l : l2.length = l.length := by have := p2.length_eq; rw [List.length_set] at this; exact this
          have ep : nI p - nI g + nI g = nI p := Int32.sub_add_cancel _ _
          have fin : (∀ t x, t + g = p → l2[t]? = some x → x ≤ en) → wpx d P_Bo_sort 74 [.ref b, .int (nI g), .int (nI I), .int (nI en), .int (nI p - nI g)] [] h2 Q := by
            intro hx
            refine B_Bo_sort_74 B2.1 B2.2.2.2.1.1 B2.2.2.2.1.2 (by rw [ep]; exact vp_in_nI (by omega) (by omega)) ?_
            rw [ep, nI_clamp (by omega), nI_1]
            exact ih (I + 1) _ (l2.set p en) _ _ (by omega) (by omega) (L2.set B2 (by omega)) p2 (s2.end g0 hx (by omega)) (hf2.tr (Fr.wi _ _ rfl))
          by_cases y : p < g
          · exact B_Bo_sort_33 (fun _ => fin (fun t x ht => absurd ht (by omega))) (fun z => absurd (nI_sneg y (by omega)) z)
          · have ej : nI p - nI g = nI (p - g) := nI_subN (by omega)
            have gv : l2[p - g]? = some (l2[p - g]'(by omega)) := List.getElem?_eq_getElem (by omega)
            generalize l2[p - g]'(by omega) = v at gv
            have vv : v < 2 ^ 31 := by
              refine hv v (p2.mem_iff.mp ?_)
              refine List.mem_of_getElem? (i := p - g) ?_
              rw [List.getElem?_set, if_neg (by omega)]
              exact gv
            refine B_Bo_sort_33 (fun z => ?_) (fun _ => B_Bo_sort_38 B2.1 B2.2.2.2.1.1 B2.2.2.2.1.2 (by rw [ej]; exact vp_in_nI (by omega) (by omega)) (fun z => fin (fun t x ht hx => ?_)) (fun z => B_Bo_sort_49 B2.1 B2.2.2.2.1.1 B2.2.2.2.1.2 (by rw [ej]; exact vp_in_nI (by omega) (by omega)) (by rw [ep]; exact vp_in_nI (by omega) (by omega)) ?_))
            · rw [ej] at z
              exact absurd z (nI_lt0 (by omega))
            · rw [ej, nI_clamp (by omega), L2.2.1 _ _ gv, nI_leI vv ev] at z
              have et : t = p - g := by omega
              rw [et, gv] at hx
              have := Option.some.inj hx
              omega
            · rw [ej, nI_clamp (by omega), L2.2.1 _ _ gv, nI_leI vv ev] at z
              rw [ep, ej, nI_clamp (show p < 2 ^ 31 by omega), nI_clamp (show p - g < 2 ^ 31 by omega), L2.2.1 _ _ gv]
              refine ihq (p - g) _ (l2.set p v) (by omega) (by omega) (L2.set B2 (by omega)) ?_ (s2.step g0 (by omega) gv (by omega) (by omega)) (hf2.tr (Fr.wi _ _ rfl))
              exact (set_swap (by omega) gv (by omega)).trans p2
      refine B_Bo_sort_13 B1.1 (fun z => ?_) (fun _ => B_Bo_sort_21 B1.1 B1.2.2.2.1.1 B1.2.2.2.1.2 (vp_in_nI (by omega) (by omega)) ?_)
      · rw [L1.1, nI_leI (by omega) (by omega)] at z
        omega
      · rw [nI_clamp (by omega), L1.2.1 _ _ gx]
        exact hole I I h1 l1 (Nat.le_refl _) (Nat.le_refl _) L1 (by rw [ex]; exact p1) (gpH.ini s1 rfl g0) hf
  have outer : ∀ (q g : Nat) (h1 : PH) (l1 : List Nat) (v2 v3 v4 : Value), g ≤ q → g ≤ l.length → BL h1 b la cap l1 → l1.Perm l → (g = 0 → gpS 1 l1.length l1) → Fr (fun x _ => x = la) h h1 → wpx d P_Bo_sort 7 [.ref b, .int (nI g), v2, v3, v4] [] h1 Q := by
    intro q
    induction q with
    | zero =>
      intro g h1 l1 v2 v3 v4 hq hg L1 p1 s1 hf
      have e0 : g = 0 := by omega
      subst e0
      exact B_Bo_sort_7 (fun _ => B_Bo_sort_97 (k h1 l1 L1 p1 (gp_pw (s1 rfl)) hf)) (fun z => absurd (by decide) z)
    | succ q ihq =>
      intro g h1 l1 v2 v3 v4 hq hg L1 p1 s1 hf
      by_cases y : g = 0
      · subst y
        exact B_Bo_sort_7 (fun _ => B_Bo_sort_97 (k h1 l1 L1 p1 (gp_pw (s1 rfl)) hf)) (fun z => absurd (by decide) z)
      · refine B_Bo_sort_7 (fun z => ?_) (fun _ => B_Bo_sort_11 ?_)
        · rw [show (0 : Int32) = nI 0 from rfl, nI_leI (by omega) (by omega)] at z
          omega
        · refine pass g (by omega) hg (fun h2 l2 x2 v3' v4' L2 p2 s2 hf2 => B_Bo_sort_90 ?_) _ g h1 l1 _ _ rfl hg L1 p1 (fun t x y ht => absurd ht (by omega)) hf
          rw [nI_half (by omega)]
          refine ihq (g / 2) h2 l2 _ _ _ (by omega) (by omega) L2 p2 (fun e => ?_) hf2
          have g1 : g = 1 := by omega
          rw [g1] at s2
          exact s2
  refine B_Bo_sort_0 hB.1 ?_
  rw [hL.1, nI_half (by omega)]
  exact outer _ (l.length / 2) h l _ _ _ (Nat.le_refl _) (by omega) hL (List.Perm.refl _) (fun e t x y ht => absurd ht (by omega)) (Fr.rf _ _)
