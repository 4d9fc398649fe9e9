/-! the tree built; kept till the table changes -/
def isI (gs : List (List Nat)) (m : Nat) (x : List Nat) : Prop := ∃ l, isG gs m l ∧ ∃ j, j < l.length ∧ x = l.take j
def CTr (h : PH) (b : Nat) (N : List (List Nat)) (gs : List (List Nat)) (m : Nat) : Prop := TrN h b N (isI gs m) (isG gs m) ∧ (∀ x, x ∈ N ↔ x = [] ∨ isI gs m x ∨ isG gs m x) ∧ (∀ u x, N[u]? = some x → ∀ d, d < 8 → h_i h (b + 2) (u * 8 + d) = bk N x d) ∧ CSg h b N
def CTrz (h : PH) (gs : List (List Nat)) (m : Nat) : Prop := ∀ c, h_r h 0 5 = some c → TrS h c ∧ h_i h (c + 3) 0 = 0 ∧ (h_i h c 10 = h_i h 2 6 → ∃ N, CTr h c N gs m) ∧ ∀ t, h_i h 2 6 = nI t → SB (h_i h c 10) t
theorem CTr.fr {W : Nat → Nat → Prop} {h h' : PH} {b : Nat} {N gs : List (List Nat)} {m : Nat} (hf : Fr W h h') (hw : ∀ x k, W x k → x < b ∨ b + 9 < x) (hc : CTr h b N gs m) : CTr h' b N gs m := by
  obtain ⟨c1, c2, c3, c4, c5⟩ := hc
  refine ⟨c1.fr hf (fun x k z y => by have := hw x k z; unfold Wpl Wtre at y; omega), c2, fun u x hu d hd => ?_, fun s hs => ?_, fun i u hu => ?_⟩
  · rw [hf.i _ _ (fun q => by have := hw _ _ q; omega)]
    exact c3 u x hu d hd
  · rw [hf.i _ _ (fun q => by have := hw _ _ q; omega)]
    exact c4 s hs
  · rw [hf.i _ _ (fun q => by have := hw _ _ q; omega)]
    exact c5 i u hu
def Ipl (gs : List (List Nat)) (m k : Nat) (x : List Nat) : Prop := ∃ k' l, k' < k ∧ gs[k']? = some l ∧ inm m k' ∧ ∃ j, j < l.length ∧ x = l.take j
def Wpl2 (gs : List (List Nat)) (m k : Nat) (x : List Nat) : Prop := ∃ k', k' < k ∧ gs[k']? = some x ∧ inm m k'
theorem Ipl_end {gs : List (List Nat)} {m : Nat} {x : List Nat} : Ipl gs m gs.length x ↔ isI gs m x := by
  constructor
  · rintro ⟨k', l, a, b, c, e⟩
    exact ⟨l, ⟨k', b, c⟩, e⟩
  · rintro ⟨l, ⟨k', b, c⟩, e⟩
    exact ⟨k', l, gL b, b, c, e⟩
theorem Wpl_end {gs : List (List Nat)} {m : Nat} {x : List Nat} : Wpl2 gs m gs.length x ↔ isG gs m x := by
  constructor
  · rintro ⟨k', a, b, c⟩
    exact ⟨k', b, c⟩
  · rintro ⟨k', b, c⟩
    exact ⟨k', gL b, b, c⟩
theorem Ipl_in {gs : List (List Nat)} {m k : Nat} {l x : List Nat} (hk : gs[k]? = some l) (hm : inm m k) : (Ipl gs m k x ∨ ∃ j, j < l.length ∧ x = l.take j) ↔ Ipl gs m (k + 1) x := by
  constructor
  · rintro (⟨k', l', a, b⟩ | e)
    · exact ⟨k', l', by omega, b⟩
    · exact ⟨k, l, by omega, hk, hm, e⟩
  · rintro ⟨k', l', a, b, c, e⟩
    by_cases y : k' = k
    · subst y
      rw [hk] at b
      cases b
      exact Or.inr e
    · exact Or.inl ⟨k', l', by omega, b, c, e⟩
theorem Wpl_in {gs : List (List Nat)} {m k : Nat} {l x : List Nat} (hk : gs[k]? = some l) (hm : inm m k) : (Wpl2 gs m k x ∨ x = l) ↔ Wpl2 gs m (k + 1) x := by
  constructor
  · rintro (⟨k', a, b⟩ | e)
    · exact ⟨k', by omega, b⟩
    · exact ⟨k, by omega, by rw [e]; exact hk, hm⟩
  · rintro ⟨k', a, b, c⟩
    by_cases y : k' = k
    · subst y
      rw [hk] at b
      cases b
      exact Or.inr rfl
    · exact Or.inl ⟨k', by omega, b, c⟩
theorem Ipl_no {gs : List (List Nat)} {m k : Nat} {x : List Nat} (hm : ¬ inm m k) : Ipl gs m k x ↔ Ipl gs m (k + 1) x := by
  constructor
  · rintro ⟨k', l', a, b⟩
    exact ⟨k', l', by omega, b⟩
  · rintro ⟨k', l', a, b, c, e⟩
    have : k' ≠ k := fun y => hm (by rw [← y]; exact c)
    exact ⟨k', l', by omega, b, c, e⟩
theorem Wpl_no {gs : List (List Nat)} {m k : Nat} {x : List Nat} (hm : ¬ inm m k) : Wpl2 gs m k x ↔ Wpl2 gs m (k + 1) x := by
  constructor
  · rintro ⟨k', a, b⟩
    exact ⟨k', by omega, b⟩
  · rintro ⟨k', a, b, c⟩
    have : k' ≠ k := fun y => hm (by rw [← y]; exact c)
    exact ⟨k', by omega, b, c⟩
theorem okN_1 : okN [[]] := ⟨List.nodup_cons.mpr ⟨fun w => (by cases w), List.nodup_nil⟩, rfl, fun x hx => by
  rw [List.mem_singleton.mp hx]
  exact ⟨fun y hy => (by cases hy), Nat.zero_le _⟩, by show 1 ≤ 99; omega, fun u x s h => by
  have hl := (List.getElem?_eq_some_iff.mp h).1
  have hl' : u < 1 := hl
  have e0 : u = 0 := by omega
  subst e0
  have e : [] = x ++ [s] := Option.some.inj h
  have := congrArg List.length e
  rw [List.length_append] at this
  have h1 : ([s] : List Nat).length = 1 := rfl
  have h2 : ([] : List Nat).length = 0 := rfl
  omega⟩
theorem tr_build {d : Nat} {h : PH} {Q : PQ} {b : Nat} {gs : List (List Nat)} {m : Nat} (hT : TrS h b) (h00 : h_i h (b + 3) 0 = 0) (hG : GrS h 2) (hg : CGr h 2 gs m) (k : ∀ h' N, CTr h' b N gs m → h_i h' b 10 = h_i h 2 6 → Fr (fun x _ => b ≤ x ∧ x ≤ b + 9) h h' → Q none h') : wpm (d + 3) 92 [.ref b, .ref 2] h Q := by
  refine wpm_in P_Tr_build rfl (by decide) (by show ¬ 3 < 2; decide) ?_
  have b63 : 63 ≤ b := hT.2.2.2.2.2.2.2.2.2.2.1
  have h14 := hg.1.1
  have hgf : ∀ {g : PH}, Fr (fun x _ => b ≤ x ∧ x ≤ b + 9) h g → CGr g 2 gs m := fun hf => CGr.fr hf (fun x k z y => by omega) hg
  -- the signs
  have last : ∀ (N : List (List Nat)) (g : PH) (x2 : Int32), TrN g b N (isI gs m) (isG gs m) → (∀ x, x ∈ N ↔ x = [] ∨ isI gs m x ∨ isG gs m x) → (∀ u x, N[u]? = some x → ∀ d, d < 8 → h_i g (b + 2) (u * 8 + d) = bk N x d) → h_i g b 10 = h_i h 2 6 → Fr (fun x _ => b ≤ x ∧ x ≤ b + 9) h g → wpx (d + 2) P_Tr_build 115 [.ref b, .ref 2, .int x2] [] g Q := by
    intro N g x2 hN hm hs h10 hf
    have hTg := hT.fr hf
    refine B_Tr_build_115 hTg.1 (tr_list hTg hN (fun g1 c1 f1 => B_Tr_build_119 (k g1 N ⟨hN.fr f1 (fun x k z y => by unfold Wpl Wtre at y; omega), hm, fun u x hu d' hd => ?_, c1⟩ ?_ (hf.tr (f1.up (fun x k z => by omega))))))
    · rw [f1.i _ _ (by omega)]
      exact hs u x hu d' hd
    · rw [f1.i _ _ (by omega)]
      exact h10
  -- the suffixes
  have links : ∀ (N : List (List Nat)) (e w : Nat) (g : PH), N.length - w = e → 1 ≤ w → w ≤ N.length → TrN g b N (isI gs m) (isG gs m) → (∀ x, x ∈ N ↔ x = [] ∨ isI gs m x ∨ isG gs m x) → (∀ u x, u < w → N[u]? = some x → ∀ d, d < 8 → h_i g (b + 2) (u * 8 + d) = bk N x d) → (∀ u, w ≤ u → u < 99 → ∀ d, d < 8 → h_i g (b + 2) (u * 8 + d) = -1) → h_i g b 10 = h_i h 2 6 → Fr (fun x _ => b ≤ x ∧ x ≤ b + 9) h g → wpx (d + 2) P_Tr_build 96 [.ref b, .ref 2, .int (nI w)] [] g Q := by
    intro N e
    induction e with
    | zero =>
      intro w g he hw1 hwn hN hm hs hs2 h10 hf
      have hTg := hT.fr hf
      have n99 := hN.1.2.2.2.1
      refine B_Tr_build_96 hTg.1 (fun _ => last N g _ hN hm (fun u x hu => hs u x (by have := (List.getElem?_eq_some_iff.mp hu).1; omega) hu) h10 hf) (fun q => ?_)
      rw [hN.2.1, nI_leI (by omega) (by omega)] at q
      omega
    | succ e ih =>
      intro w g he hw1 hwn hN hm hs hs2 h10 hf
      have hTg := hT.fr hf
      have n99 := hN.1.2.2.2.1
      have gw := gS (gs := N) (k := w) (by omega)
      refine B_Tr_build_96 hTg.1 (fun q => ?_) (fun _ => B_Tr_build_104 hTg.1 ?_)
      · rw [hN.2.1, nI_leI (by omega) (by omega)] at q
        omega
      · refine tr_link hTg hN hw1 gw hs (hs2 w (Nat.le_refl _) (by omega)) (fun g1 e1 f1 => B_Tr_build_109 ?_)
        rw [nI_1]
        refine ih (w + 1) g1 (by omega) (by omega) (by omega) (hN.fr f1 (fun x k z y => by unfold Wpl Wtre at y; omega)) hm (fun u x hu hx d' hd => ?_) (fun u h1 h2 d' hd => ?_) (by rw [f1.i _ _ (by omega)]; exact h10) (hf.tr (f1.up (fun x k z => by omega)))
        · by_cases y : u = w
          · subst y
            rw [gw] at hx
            cases hx
            exact e1 d' hd
          · rw [f1.i _ _ (by omega)]
            exact hs u x (by omega) hx d' hd
        · rw [f1.i _ _ (by omega)]
          exact hs2 u (by omega) h2 d' hd
  -- the groups
  have plants : ∀ (e i : Nat) (N : List (List Nat)) (g : PH), gs.length - i = e → i ≤ gs.length → TrN g b N (Ipl gs m i) (Wpl2 gs m i) → (∀ x, x ∈ N ↔ x = [] ∨ Ipl gs m i x ∨ Wpl2 gs m i x) → N.length ≤ 1 + 7 * i → h_i g (b + 2) 0 = 0 → (∀ j, 1 ≤ j → j < 792 → h_i g (b + 2) j = -1) → h_i g b 10 = h_i h 2 6 → Fr (fun x _ => b ≤ x ∧ x ≤ b + 9) h g → wpx (d + 2) P_Tr_build 56 [.ref b, .ref 2, .int (nI i)] [] g Q := by
    intro e
    induction e with
    | zero =>
      intro i N g he hi hN hm hln s0 s1 h10 hf
      have hGg := hf.gr hG
      have hgg := hgf hf
      have ei : i = gs.length := by omega
      subst ei
      refine B_Tr_build_56 hGg.1 (fun _ => B_Tr_build_94 ?_) (fun q => ?_)
      · have hN' := hN.cg (fun x => Ipl_end) (fun x => Wpl_end)
        have n0 : 0 < N.length := (List.getElem?_eq_some_iff.mp hN.1.2.1).1
        refine links N _ 1 g rfl (Nat.le_refl _) n0 hN' (fun x => by rw [hm, Ipl_end, Wpl_end]) (fun u x hu hx d' hd => ?_) (fun u h1 h2 d' hd => s1 _ (by omega) (by omega)) h10 hf
        have e0 : u = 0 := by omega
        subst e0
        rw [hN.1.2.1] at hx
        cases hx
        unfold bk
        by_cases y : d' = 0
        · subst y
          rw [if_pos (Nat.zero_le _)]
          show h_i g (b + 2) 0 = nd N []
          rw [nd_at hN.1.1 hN.1.2.1, s0]
          rfl
        · rw [if_neg (by show ¬ d' ≤ 0; omega)]
          exact s1 _ (by omega) (by omega)
      · rw [hgg.2.1, nI_leI (by omega) (by omega)] at q
        omega
    | succ e ih =>
      intro i N g he hi hN hm hln s0 s1 h10 hf
      have hGg := hf.gr hG
      have hgg := hgf hf
      have hTg := hT.fr hf
      have gl := gS (gs := gs) (k := i) (by omega)
      generalize gs.getD i [] = l at gl
      obtain ⟨l1, l2, l3⟩ := hg.1.at gl
      have l7 := l1.2
      refine B_Tr_build_56 hGg.1 (fun q => ?_) (fun _ => B_Tr_build_64 hGg.1 ?_)
      · rw [hgg.2.1, nI_leI (by omega) (by omega)] at q
        omega
      refine gr_isIn hGg hgg (by omega) (fun q => B_Tr_build_69 (fun z => absurd z (by decide)) (fun _ => ?_)) (fun q => B_Tr_build_69 (fun _ => B_Tr_build_88 ?_) (fun z => absurd rfl z))
      · refine B_Tr_build_72 hGg.1 hGg.2.1.1 hGg.2.1.2 (vp_in_nI (by omega) (by omega)) hGg.2.2.1.1 hGg.2.2.1.2 (vp_in_nI (by omega) (by omega)) hTg.1 ?_
        rw [nI_clamp (by omega), (hgg.2.2.2 i l gl).1, (hgg.2.2.2 i l gl).2]
        refine tr_plant hTg hN l1 l2 (by omega) (fun g1 N1 hN1 hm1 hln1 f1 => B_Tr_build_88 ?_)
        rw [nI_1]
        refine ih (i + 1) N1 g1 (by omega) (by omega) (hN1.cg (fun x => Ipl_in gl q) (fun x => Wpl_in gl q)) (fun x => ?_) (by omega) ?_ (fun j j1 j2 => ?_) ?_ (hf.tr (f1.up (fun x k z => by unfold Wpl Wtre at z; omega)))
        · rw [hm1, hm, ← Ipl_in gl q, ← Wpl_in gl q]
          constructor
          · rintro ((w | w | w) | ⟨j, j1, j2⟩)
            · exact Or.inl w
            · exact Or.inr (Or.inl (Or.inl w))
            · exact Or.inr (Or.inr (Or.inl w))
            · by_cases y : j = l.length
              · rw [y, List.take_of_length_le (Nat.le_refl _)] at j2
                exact Or.inr (Or.inr (Or.inr j2))
              · exact Or.inr (Or.inl (Or.inr ⟨j, by omega, j2⟩))
          · rintro (w | (w | ⟨j, j1, j2⟩) | (w | w))
            · exact Or.inl (Or.inl w)
            · exact Or.inl (Or.inr (Or.inl w))
            · exact Or.inr ⟨j, by omega, j2⟩
            · exact Or.inl (Or.inr (Or.inr w))
            · exact Or.inr ⟨l.length, Nat.le_refl _, by rw [w, List.take_of_length_le (Nat.le_refl _)]⟩
        · rw [f1.i _ _ (fun z => by unfold Wpl Wtre at z; omega)]
          exact s0
        · rw [f1.i _ _ (fun z => by unfold Wpl Wtre at z; omega)]
          exact s1 j j1 j2
        · rw [f1.i _ _ (fun z => by unfold Wpl Wtre at z; omega)]
          exact h10
      · rw [nI_1]
        exact ih (i + 1) N g (by omega) (by omega) (hN.cg (fun x => Ipl_no q) (fun x => Wpl_no q)) (fun x => by rw [hm, Ipl_no q, Wpl_no q]) (by omega) s0 s1 h10 hf
  have f0 : Fr (fun x _ => b ≤ x ∧ x ≤ b + 9) h (w_i h b 10 (h_i h 2 6)) := Fr.wi _ _ ⟨by omega, by omega⟩
  have e10 : h_i (w_i h b 10 (h_i h 2 6)) b 10 = h_i h 2 6 := wi_eq ..
  have e30 : h_i (w_i h b 10 (h_i h 2 6)) (b + 3) 0 = 0 := by rw [wi_ne _ _ (by omega)]; exact h00
  refine B_Tr_build_0 hG.1 hT.1 hT.2.1.1 ?_
  generalize w_i h b 10 (h_i h 2 6) = g0 at f0 e10 e30 ⊢
  refine ja_fillI (hT.fr f0).2.1.2 (by omega) (fun g1 c1 f1 => ?_)
  have F1 := f0.tr (f1.up (fun x k z => by omega : ∀ x k, x = b + 1 → b ≤ x ∧ x ≤ b + 9))
  have hT1 := hT.fr F1
  refine B_Tr_build_16 hT1.1 hT1.2.2.1.1 ?_
  refine ja_fillI hT1.2.2.1.2 (by omega) (fun g2 c2 f2 => ?_)
  have F2 := F1.tr (f2.up (fun x k z => by omega : ∀ x k, x = b + 2 → b ≤ x ∧ x ≤ b + 9))
  have hT2 := hT.fr F2
  refine B_Tr_build_24 hT2.1 hT2.2.2.2.2.1.1 ?_
  refine ow_lower (c := 99) hT2.2.2.2.2.1.2 (Nat.le_refl _) (by omega) (fun g3 c3 _ f3 => ?_)
  have F3 := F2.tr (f3.up (fun x k z => by omega : ∀ x k, x = b + 4 → b ≤ x ∧ x ≤ b + 9))
  have hT3 := hT.fr F3
  refine B_Tr_build_33 hT3.1 hT3.2.2.2.2.2.1.1 ?_
  refine ow_lower (c := 99) hT3.2.2.2.2.2.1.2 (Nat.le_refl _) (by omega) (fun g4 c4 _ f4 => ?_)
  have F4 := F3.tr (f4.up (fun x k z => by omega : ∀ x k, x = b + 5 → b ≤ x ∧ x ≤ b + 9))
  have hT4 := hT.fr F4
  refine B_Tr_build_42 hT4.1 hT4.2.2.1.1 hT4.2.2.1.2 (vp_in_nI (n := 0) (by omega) (by omega)) ?_
  have F5 : Fr (fun x _ => b ≤ x ∧ x ≤ b + 9) h (w_i (w_i g4 b 9 1) (b + 2) 0 0) := F4.tr ((Fr.wi _ _ ⟨by omega, by omega⟩).tr (Fr.wi _ _ ⟨by omega, by omega⟩))
  refine plants _ 0 [[]] _ rfl (Nat.zero_le _) ⟨okN_1, ?_, fun x hx => ?_, fun u x hu => ?_, fun u h1 h2 => ⟨?_, ?_, fun s hs => ?_⟩⟩ (fun x => ?_) (Nat.le_refl _) (wi_eq ..) (fun j j1 j2 => ?_) ?_ F5
  · rw [wi_ne _ _ (by omega), wi_eq]
    rfl
  · rcases hx with ⟨k', l, a, _⟩ | ⟨k', a, _⟩ <;> exact absurd a (by omega)
  · have hl := (List.getElem?_eq_some_iff.mp hu).1
    have hl' : u < 1 := hl
    have e0 : u = 0 := by omega
    subst e0
    have e : [] = x := Option.some.inj hu
    subst e
    refine ⟨?_, ⟨fun ⟨k', a, _⟩ => absurd a (by omega), fun _ => ?_⟩, ⟨fun ⟨k', l, a, _⟩ => absurd a (by omega), fun _ => ?_⟩, fun y s e => ?_, fun s hs => ?_⟩
    · rw [wi_ne _ _ (by omega), wi_ne _ _ (by omega), f4.i _ _ (by omega), f3.i _ _ (by omega), f2.i _ _ (by omega), f1.i _ _ (by omega), e30]
      rfl
    · rw [wi_ne _ _ (by omega), wi_ne _ _ (by omega), f4.i _ _ (by omega)]
      exact c3 0 (by omega)
    · rw [wi_ne _ _ (by omega), wi_ne _ _ (by omega)]
      exact c4 0 (by omega)
    · have := congrArg List.length e
      rw [List.length_append] at this
      have h1 : ([s] : List Nat).length = 1 := rfl
      have h2 : ([] : List Nat).length = 0 := rfl
      omega
    · rw [wi_ne _ _ (by omega), wi_ne _ _ (by omega), f4.i _ _ (by omega), f3.i _ _ (by omega), f2.i _ _ (by omega), c1 _ (by omega), nd_no]
      intro w
      have := congrArg List.length (List.mem_singleton.mp w)
      exact absurd this (by show ¬ 1 = 0; omega)
  · rw [wi_ne _ _ (by omega), wi_ne _ _ (by omega), f4.i _ _ (by omega)]
    exact c3 u h2
  · rw [wi_ne _ _ (by omega), wi_ne _ _ (by omega)]
    exact c4 u h2
  · rw [wi_ne _ _ (by omega), wi_ne _ _ (by omega), f4.i _ _ (by omega), f3.i _ _ (by omega), f2.i _ _ (by omega), c1 _ (by omega)]
  · rw [List.mem_singleton]
    constructor
    · exact Or.inl
    · rintro (w | ⟨k', l, a, _⟩ | ⟨k', a, _⟩)
      · exact w
      · exact absurd a (by omega)
      · exact absurd a (by omega)
  · rw [wi_ne _ _ (by omega), wi_ne _ _ (by omega), f4.i _ _ (by omega), f3.i _ _ (by omega), c2 _ j2]
  · rw [wi_ne _ _ (by omega), wi_ne _ _ (by omega), f4.i _ _ (by omega), f3.i _ _ (by omega), f2.i _ _ (by omega), f1.i _ _ (by omega), e10]
theorem mk_at {h : PH} {L pre post : List MkI} {f i : Nat} {q q0 : Nat × Nat} {n0 : Nat} (hL : L = pre ++ (f, .inl q) :: post) (hn : nA pre = i) (hf : f ∉ post.map (·.1)) : h_r (mkO (h_new h q0 n0) (h_ct h) L) (h_ct h) f = some (h_ct h + (i + 1)) ∧ h_sh (mkO (h_new h q0 n0) (h_ct h) L) (h_ct h + (i + 1)) = some q ∧ ∀ k, h_i (mkO (h_new h q0 n0) (h_ct h) L) (h_ct h + (i + 1)) k = 0 := by
  subst hL
  subst hn
  have a := mkO_arr pre f q post (h_new h q0 n0) (o := h_ct h) (Nat.lt_succ_self _) hf
  have e : h_ct (h_new h q0 n0) + nA pre = h_ct h + (nA pre + 1) := by
    show h_ct h + 1 + nA pre = _
    omega
  rw [e] at a
  exact ⟨a.1, a.2.1, a.2.2.1⟩
theorem tr_made {h : PH} (hc : 63 ≤ h_ct h) : TrS (mkO (h_new h (0, 8) (fN 8)) (h_ct h) L_Tr_init) (h_ct h) ∧ (∀ k, h_i (mkO (h_new h (0, 8) (fN 8)) (h_ct h) L_Tr_init) (h_ct h + 3) k = 0) ∧ h_i (mkO (h_new h (0, 8) (fN 8)) (h_ct h) L_Tr_init) (h_ct h) 10 = -1 := by
  have a0 := mk_at (h := h) (L := L_Tr_init) (q0 := (0, 8)) (n0 := fN 8) (pre := []) (i := 0) (f := 0) (q := (1, 2772)) (post := [(1, .inl (1, 792)), (2, .inl (1, 99)), (3, .inl (3, 99)), (4, .inl (3, 99)), (5, .inl (1, 99)), (6, .inl (1, 99)), (7, .inl (1, 99)), (8, .inl (1, 29)), (10, .inr (-1))]) rfl rfl (by decide)
  have a1 := mk_at (h := h) (L := L_Tr_init) (q0 := (0, 8)) (n0 := fN 8) (pre := [(0, .inl (1, 2772))]) (i := 1) (f := 1) (q := (1, 792)) (post := [(2, .inl (1, 99)), (3, .inl (3, 99)), (4, .inl (3, 99)), (5, .inl (1, 99)), (6, .inl (1, 99)), (7, .inl (1, 99)), (8, .inl (1, 29)), (10, .inr (-1))]) rfl rfl (by decide)
  have a2 := mk_at (h := h) (L := L_Tr_init) (q0 := (0, 8)) (n0 := fN 8) (pre := [(0, .inl (1, 2772)), (1, .inl (1, 792))]) (i := 2) (f := 2) (q := (1, 99)) (post := [(3, .inl (3, 99)), (4, .inl (3, 99)), (5, .inl (1, 99)), (6, .inl (1, 99)), (7, .inl (1, 99)), (8, .inl (1, 29)), (10, .inr (-1))]) rfl rfl (by decide)
  have a3 := mk_at (h := h) (L := L_Tr_init) (q0 := (0, 8)) (n0 := fN 8) (pre := [(0, .inl (1, 2772)), (1, .inl (1, 792)), (2, .inl (1, 99))]) (i := 3) (f := 3) (q := (3, 99)) (post := [(4, .inl (3, 99)), (5, .inl (1, 99)), (6, .inl (1, 99)), (7, .inl (1, 99)), (8, .inl (1, 29)), (10, .inr (-1))]) rfl rfl (by decide)
  have a4 := mk_at (h := h) (L := L_Tr_init) (q0 := (0, 8)) (n0 := fN 8) (pre := [(0, .inl (1, 2772)), (1, .inl (1, 792)), (2, .inl (1, 99)), (3, .inl (3, 99))]) (i := 4) (f := 4) (q := (3, 99)) (post := [(5, .inl (1, 99)), (6, .inl (1, 99)), (7, .inl (1, 99)), (8, .inl (1, 29)), (10, .inr (-1))]) rfl rfl (by decide)
  have a5 := mk_at (h := h) (L := L_Tr_init) (q0 := (0, 8)) (n0 := fN 8) (pre := [(0, .inl (1, 2772)), (1, .inl (1, 792)), (2, .inl (1, 99)), (3, .inl (3, 99)), (4, .inl (3, 99))]) (i := 5) (f := 5) (q := (1, 99)) (post := [(6, .inl (1, 99)), (7, .inl (1, 99)), (8, .inl (1, 29)), (10, .inr (-1))]) rfl rfl (by decide)
  have a6 := mk_at (h := h) (L := L_Tr_init) (q0 := (0, 8)) (n0 := fN 8) (pre := [(0, .inl (1, 2772)), (1, .inl (1, 792)), (2, .inl (1, 99)), (3, .inl (3, 99)), (4, .inl (3, 99)), (5, .inl (1, 99))]) (i := 6) (f := 6) (q := (1, 99)) (post := [(7, .inl (1, 99)), (8, .inl (1, 29)), (10, .inr (-1))]) rfl rfl (by decide)
  have a7 := mk_at (h := h) (L := L_Tr_init) (q0 := (0, 8)) (n0 := fN 8) (pre := [(0, .inl (1, 2772)), (1, .inl (1, 792)), (2, .inl (1, 99)), (3, .inl (3, 99)), (4, .inl (3, 99)), (5, .inl (1, 99)), (6, .inl (1, 99))]) (i := 7) (f := 7) (q := (1, 99)) (post := [(8, .inl (1, 29)), (10, .inr (-1))]) rfl rfl (by decide)
  have a8 := mk_at (h := h) (L := L_Tr_init) (q0 := (0, 8)) (n0 := fN 8) (pre := [(0, .inl (1, 2772)), (1, .inl (1, 792)), (2, .inl (1, 99)), (3, .inl (3, 99)), (4, .inl (3, 99)), (5, .inl (1, 99)), (6, .inl (1, 99)), (7, .inl (1, 99))]) (i := 8) (f := 8) (q := (1, 29)) (post := [(10, .inr (-1))]) rfl rfl (by decide)
  have a10 := mkO_num [(0, .inl (1, 2772)), (1, .inl (1, 792)), (2, .inl (1, 99)), (3, .inl (3, 99)), (4, .inl (3, 99)), (5, .inl (1, 99)), (6, .inl (1, 99)), (7, .inl (1, 99)), (8, .inl (1, 29))] 10 (-1) [] (h_new h (0, 8) (fN 8)) (o := h_ct h) (Nat.lt_succ_self _) (by decide)
  have eL : ([(0, .inl (1, 2772)), (1, .inl (1, 792)), (2, .inl (1, 99)), (3, .inl (3, 99)), (4, .inl (3, 99)), (5, .inl (1, 99)), (6, .inl (1, 99)), (7, .inl (1, 99)), (8, .inl (1, 29))] : List MkI) ++ (10, .inr (-1)) :: [] = L_Tr_init := rfl
  rw [eL] at a10
  have hs : h_sh (mkO (h_new h (0, 8) (fN 8)) (h_ct h) L_Tr_init) (h_ct h) = some (0, 8) := (sh_mkO (Nat.lt_succ_self _)).trans (sh_new_eq _ _ _)
  have hct : h_ct (mkO (h_new h (0, 8) (fN 8)) (h_ct h) L_Tr_init) = h_ct h + 1 + 9 := mkO_ct _ _ _
  generalize mkO (h_new h (0, 8) (fN 8)) (h_ct h) L_Tr_init = G at *
  exact ⟨⟨hs, ⟨a0.1, a0.2.1⟩, ⟨a1.1, a1.2.1⟩, ⟨a2.1, a2.2.1⟩, ⟨a3.1, a3.2.1⟩, ⟨a4.1, a4.2.1⟩, ⟨a5.1, a5.2.1⟩, ⟨a6.1, a6.2.1⟩, ⟨a7.1, a7.2.1⟩, ⟨a8.1, a8.2.1⟩, hc, by omega⟩, a2.2.2, a10⟩
theorem i_wr (g : PH) (a b : Nat) (v : Option Nat) (x k : Nat) : h_i (w_r g a b v) x k = h_i g x k := rfl
theorem TrS.wr {g : PH} {c f : Nat} {v : Option Nat} (h : TrS g c) : TrS (w_r g 0 f v) c := by
  have c63 := h.2.2.2.2.2.2.2.2.2.2.1
  have e : ∀ k, h_r (w_r g 0 f v) c k = h_r g c k := fun k => by rw [h_r_wr, if_neg (fun z => by omega)]
  unfold TrS
  rw [e, e, e, e, e, e, e, e, e]
  exact h
theorem ow_freshTree {d : Nat} {h : PH} {Q : PQ} {gs : List (List Nat)} {m t : Nat} (hO : OwS h) (hc : 63 ≤ h_ct h) (hz : CTrz h gs m) (hg : CGr h 2 gs m) (ht : t < 2 ^ 31) (hst : h_i h 2 6 = nI t) (k : ∀ c h' N, Gw (Wlz 5 9 h) h h' → h_r h' 0 5 = some c → TrS h' c → CTr h' c N gs m → CTrz h' gs m → (h_r h 0 5 = none → h_ct h ≤ c) → Q (some (.ref c)) h') : wpm (d + 4) 152 [.ref 0] h Q := by
  refine wpm_in P_Ow_freshTree rfl (by decide) (by show ¬ 1 < 1; decide) ?_
  have at18 : ∀ c g, Gw (fun _ _ => False) h g → h_r g 0 5 = some c → TrS g c → h_i g (c + 3) 0 = 0 → (h_i g c 10 = h_i g 2 6 → ∃ N, CTr g c N gs m) → (∀ c', h_r h 0 5 = some c' → c' = c) → (h_r h 0 5 = none → c = h_ct h) → wpx (d + 3) P_Ow_freshTree 18 [.ref 0] [] g Q := fun c g hG hr hT h00 hs e1 e2 => by
    have hO1 := hG.ow hc hO
    have hg1 : CGr g 2 gs m := hg.gw hG (by omega) (fun _ _ z => z.elim)
    have hc63 : 63 ≤ c := hT.2.2.2.2.2.2.2.2.2.2.1
    have fin : ∀ {W : Nat → Nat → Prop} {h' : PH}, Fr W g h' → (∀ x k, W x k → c ≤ x ∧ x ≤ c + 9) → Gw (Wlz 5 9 h) h h' := fun {W h'} hf hw =>
      (hG.lz (f := 5) (n := 9) (c := c) (W := fun _ _ => False) (hf.gw.up (fun x k z => Or.inl (hw x k z))) e1 e2).up (fun x k z => z.elim id False.elim)
    have d00 : ∀ {h' : PH} {N : List (List Nat)}, CTr h' c N gs m → h_i h' (c + 3) 0 = 0 := fun hN => (hN.1.2.2.2.1 0 [] hN.1.1.2.1).1
    have zz : ∀ {h' : PH} {N : List (List Nat)}, h_r h' 0 5 = some c → TrS h' c → CTr h' c N gs m → h_i h' c 10 = h_i h' 2 6 → CTrz h' gs m := fun {h' N} hr' hT' hN h10 c' e => by
      rw [hr'] at e
      cases e
      exact ⟨hT', d00 hN, fun _ => ⟨N, hN⟩, fun t' ht' => Or.inr ⟨t', Nat.le_refl _, h10.trans ht'⟩⟩
    refine B_Ow_freshTree_18 hO1.1 hr hT.1 (or_groups hO1) (os_groups hO1) (fun z => ?_) (fun _ => B_Ow_freshTree_35 hO1.1 hr (or_groups hO1) hT.1 ?_)
    · obtain ⟨N, hN⟩ := hs z
      exact B_Ow_freshTree_46 hO1.1 hr (k c g N (fin (Fr.rf (fun _ _ => False) g) (fun _ _ y => y.elim)) hr hT hN (zz hr hT hN z) (fun e => Nat.le_of_eq (e2 e).symm))
    · refine tr_build hT h00 (GrS_2 hO1) hg1 (fun g2 N hN h10 f2 => ?_)
      have hr2 : h_r g2 0 5 = some c := by rw [f2.2.1]; exact hr
      have h10' : h_i g2 c 10 = h_i g2 2 6 := by rw [h10, f2.i 2 6 (by omega)]
      exact B_Ow_freshTree_46 (f2.ow hO1).1 hr2 (k c g2 N (fin f2 (fun x k z => z)) hr2 (hT.fr f2) hN (zz hr2 (hT.fr f2) hN h10') (fun e => Nat.le_of_eq (e2 e).symm))
  refine B_Ow_freshTree_0 hO.1 (fun a ha => at18 a h (Fr.rf _ _).gw ha (hz a ha).1 (hz a ha).2.1 (hz a ha).2.2.1 (fun c' e => Option.some.inj (e.symm.trans ha)) (fun e => by rw [e] at ha; cases ha)) (fun hn => B_Ow_freshTree_7 (i_Tr_init (Nat.lt_succ_self _) (sh_new_eq _ _ _) ?_))
  have hG := gw_list (f := 5) (ci := 8) (L := L_Tr_init) (by decide) (by decide) hn (by omega) rfl
  obtain ⟨m1, m2, m3⟩ := tr_made hc
  have hs0 : h_sh (mkO (h_new h (0, 8) (fN 8)) (h_ct h) L_Tr_init) 0 = some (0, 11) := (lz_sh (by omega)).trans hO.1
  generalize mkO (h_new h (0, 8) (fN 8)) (h_ct h) L_Tr_init = G at hG m1 m2 m3 hs0 ⊢
  refine B_Ow_freshTree_15 hs0 (at18 _ _ hG (by rw [h_r_wr, if_pos ⟨rfl, rfl⟩]) m1.wr ((i_wr ..).trans (m2 0)) (fun z => ?_) (fun c' e => by rw [hn] at e; cases e) (fun _ => rfl))
  have e2 : h_i (w_r G 0 5 (some (h_ct h))) 2 6 = nI t := (hG.i (by omega) (fun y => y)).trans hst
  have e8 : h_i (w_r G 0 5 (some (h_ct h))) (h_ct h) 10 = -1 := (i_wr ..).trans m3
  exact absurd (e2.symm.trans (z.symm.trans e8)) (nI_neg1 ht)
