/-! words, nth, place: how often each end of a word stands open (0, 1, 2 for more) -/
def lsD (v : List Nat) (d : Nat) : List Nat := v.drop (v.length - d)
def dgO (gs : List (List Nat)) (m : Nat) (v : List Nat) (d : Nat) : Prop := d ≤ v.length ∧ (d = 0 ∨ isI gs m (lsD v d))
noncomputable def iteP (P : Prop) (a b : Nat) : Nat := @ite Nat P (Classical.propDecidable P) a b
theorem iteP_t {P : Prop} {a b : Nat} (h : P) : iteP P a b = a := if_pos h
theorem iteP_f {P : Prop} {a b : Nat} (h : ¬ P) : iteP P a b = b := if_neg h
noncomputable def iteL (P : Prop) (a b : List Nat) : List Nat := @ite (List Nat) P (Classical.propDecidable P) a b
theorem iteL_t {P : Prop} {a b : List Nat} (h : P) : iteL P a b = a := if_pos h
theorem iteL_f {P : Prop} {a b : List Nat} (h : ¬ P) : iteL P a b = b := if_neg h
noncomputable def dg (gs : List (List Nat)) (m : Nat) (v : List Nat) (d : Nat) : Nat := iteP (dgO gs m v d) (min 2 (rdc gs m (v.take (v.length - d)))) 0
theorem dg_le {gs : List (List Nat)} {m : Nat} (v : List Nat) (d : Nat) : dg gs m v d ≤ 2 := by
  unfold dg
  by_cases y : dgO gs m v d
  · rw [iteP_t y]
    exact Nat.min_le_left _ _
  · rw [iteP_f y]
    exact Nat.zero_le _
theorem lsD_len {v : List Nat} {d : Nat} (h : d ≤ v.length) : (lsD v d).length = d := by
  unfold lsD
  rw [List.length_drop]
  omega
theorem lsD_0 (v : List Nat) : lsD v 0 = [] := by
  unfold lsD
  exact List.drop_eq_nil_of_le (by omega)
theorem lsD_snoc {v : List Nat} {d c : Nat} (h : d ≤ v.length) : lsD (v ++ [c]) (d + 1) = lsD v d ++ [c] := by
  unfold lsD
  have e : (v ++ [c]).length - (d + 1) = v.length - d := by
    rw [List.length_append]
    show v.length + 1 - (d + 1) = _
    omega
  rw [e, List.drop_append_of_le_length (by omega)]
theorem tkS {v : List Nat} {d c : Nat} : (v ++ [c]).take ((v ++ [c]).length - (d + 1)) = v.take (v.length - d) := by
  have e : (v ++ [c]).length - (d + 1) = v.length - d := by
    rw [List.length_append]
    show v.length + 1 - (d + 1) = _
    omega
  rw [e, List.take_append_of_le_length (by omega)]
theorem dg_6 {gs : List (List Nat)} {m d : Nat} {v : List Nat} (ho : okg gs m) (h : dg gs m v d ≠ 0) : dgO gs m v d ∧ d ≤ 6 := by
  by_cases y : dgO gs m v d
  · refine ⟨y, ?_⟩
    rcases y.2 with z | z
    · omega
    · have := (isI_ok ho z).2
      rw [lsD_len y.1] at this
      omega
  · exact absurd (iteP_f y) h
theorem isI_pre {gs : List (List Nat)} {m c : Nat} {y : List Nat} (h : isI gs m (y ++ [c])) : isI gs m y := by
  obtain ⟨l, hl, j, hj, e⟩ := h
  have e2 := congrArg List.length e
  rw [List.length_append, List.length_take] at e2
  have h1 : ([c] : List Nat).length = 1 := rfl
  refine ⟨l, hl, y.length, by omega, ?_⟩
  have e3 := congrArg (List.take y.length) e
  rw [List.take_left, List.take_take] at e3
  rw [Nat.min_eq_left (by omega)] at e3
  exact e3
theorem dg_in {gs : List (List Nat)} {m d c : Nat} {v : List Nat} (hd : d ≤ v.length) (h : isI gs m (lsD v d ++ [c])) : dg gs m (v ++ [c]) (d + 1) = dg gs m v d := by
  have o1 : dgO gs m (v ++ [c]) (d + 1) := ⟨by rw [List.length_append]; exact Nat.succ_le_succ hd, Or.inr (by rw [lsD_snoc hd]; exact h)⟩
  have o2 : dgO gs m v d := ⟨hd, Or.inr (isI_pre h)⟩
  unfold dg
  rw [iteP_t o1, iteP_t o2, tkS]
theorem dg_no {gs : List (List Nat)} {m d c : Nat} {v : List Nat} (h : ¬ (d ≤ v.length ∧ isI gs m (lsD v d ++ [c]))) : dg gs m (v ++ [c]) (d + 1) = 0 := by
  refine iteP_f (fun ⟨a, b⟩ => ?_)
  rw [List.length_append] at a
  have h1 : ([c] : List Nat).length = 1 := rfl
  have hd : d ≤ v.length := by omega
  rcases b with b | b
  · omega
  · rw [lsD_snoc hd] at b
    exact h ⟨hd, b⟩
theorem dg_of {gs : List (List Nat)} {m d : Nat} {v : List Nat} (h : d ≤ v.length) (hi : d = 0 ∨ isI gs m (lsD v d)) : dg gs m v d = min 2 (rdc gs m (v.take (v.length - d))) := iteP_t ⟨h, hi⟩
theorem dg_0 {gs : List (List Nat)} {m : Nat} (v : List Nat) : dg gs m v 0 = min 2 (rdc gs m v) := by
  rw [dg_of (Nat.zero_le _) (Or.inl rfl), Nat.sub_zero, List.take_length]
/-- readings of a word by the length of their last group -/
noncomputable def rlS (gs : List (List Nat)) (m : Nat) (v : List Nat) (c d : Nat) : Nat := iteP (d ≤ v.length ∧ isG gs m (lsD v d ++ [c])) (rdc gs m (v.take (v.length - d))) 0
theorem sm_at {f : Nat → Nat} {n l v : Nat} (hl : l < n) (h1 : f l = v) (h2 : ∀ k, k < n → k ≠ l → f k = 0) : sm f n = v := by
  rw [sm_congr (g := fun i => if i = l then v else 0) n (fun k hk => ?_), sm_pick n hl]
  by_cases y : k = l
  · rw [if_pos y, y, h1]
  · rw [if_neg y, h2 k hk y]
theorem rdc_snoc {gs : List (List Nat)} {m c : Nat} {v : List Nat} (ho : okg gs m) (hu : unlk gs) : rdc gs m (v ++ [c]) = sm (rlS gs m v c) 7 := by
  have hl : (v ++ [c]).length = v.length + 1 := List.length_append
  rw [rdc_last ho (v ++ [c]).length (v ++ [c]) (Nat.le_refl _) (by omega)]
  have e1 : ∀ j, j < gs.length → (if sufB gs m (v ++ [c]) j = true then rdc gs m ((v ++ [c]).take ((v ++ [c]).length - (gs.getD j []).length)) else 0) = sm (fun d => if (gs.getD j []).length = d + 1 ∧ sufB gs m (v ++ [c]) j = true then rdc gs m (v.take (v.length - d)) else 0) 7 := fun j hj => by
    obtain ⟨a1, a2, a3⟩ := ho.at (gS hj)
    have a7 := a1.2
    generalize gs.getD j [] = g at a1 a2 a7 ⊢
    by_cases y : sufB gs m (v ++ [c]) j = true
    · rw [if_pos y]
      refine (sm_at (l := g.length - 1) (by omega) ?_ (fun k hk hne => ?_)).symm
      · rw [if_pos ⟨by omega, y⟩]
        have := tkS (v := v) (d := g.length - 1) (c := c)
        rw [show g.length - 1 + 1 = g.length by omega] at this
        rw [this]
      · exact if_neg (fun z => hne (by omega))
    · rw [if_neg y]
      refine ((sm_congr 7 (fun k hk => ?_)).trans (sm_zero 7)).symm
      exact if_neg (fun z => y z.2)
  rw [sm_congr gs.length e1, sm_swap]
  refine sm_congr 7 (fun d hd => ?_)
  by_cases y : d ≤ v.length ∧ isG gs m (lsD v d ++ [c])
  · have er : rlS gs m v c d = rdc gs m (v.take (v.length - d)) := iteP_t y
    rw [er]
    obtain ⟨y1, k, gk, mk⟩ := y
    have hs : gs.getD k [] = lsD v d ++ [c] := gD gk
    have hk := gL gk
    have ln : (lsD v d ++ [c]).length = d + 1 := by rw [List.length_append, lsD_len y1]; rfl
    refine sm_at (l := k) hk ?_ (fun j hj hne => ?_)
    · refine if_pos ⟨by rw [hs, ln], sufB_i.mpr ⟨mk, by rw [hs, ln, hl]; omega, ?_⟩⟩
      rw [hs, ← lsD_snoc y1, lsD_len (by omega)]
      rfl
    · refine if_neg (fun ⟨z1, z2⟩ => hne (hu j k hj hk ?_))
      obtain ⟨_, _, z3⟩ := sufB_i.mp z2
      rw [z3, z1, hs, ← lsD_snoc y1]
      rfl
  · have er : rlS gs m v c d = 0 := iteP_f y
    rw [er]
    refine (sm_congr gs.length (fun j hj => ?_)).trans (sm_zero _)
    refine if_neg (fun ⟨z1, z2⟩ => y ?_)
    obtain ⟨z3, z4, z5⟩ := sufB_i.mp z2
    rw [z1, hl] at z4
    refine ⟨by omega, j, ?_, z3⟩
    rw [z1] at z5
    have := lsD_snoc (v := v) (d := d) (c := c) (by omega)
    unfold lsD at this
    rw [this] at z5
    show gs[j]? = some (v.drop (v.length - d) ++ [c])
    rw [gS hj, z5]
noncomputable def clS (gs : List (List Nat)) (m : Nat) (v : List Nat) (c : Nat) : Nat → Nat
  | 0 => 0
  | d + 1 => iteP (isG gs m (lsD v d ++ [c])) (min 2 (clS gs m v c d + dg gs m v d)) (clS gs m v c d)
theorem clS_sm {gs : List (List Nat)} {m c : Nat} {v : List Nat} : ∀ d, clS gs m v c d = min 2 (sm (rlS gs m v c) d)
  | 0 => rfl
  | d + 1 => by
    show iteP _ _ _ = min 2 (sm (rlS gs m v c) d + rlS gs m v c d)
    have ih := clS_sm (gs := gs) (m := m) (c := c) (v := v) d
    by_cases y : isG gs m (lsD v d ++ [c])
    · rw [iteP_t y, ih]
      by_cases z : d ≤ v.length
      · have e1 : rlS gs m v c d = rdc gs m (v.take (v.length - d)) := iteP_t ⟨z, y⟩
        rw [e1, dg_of z (Or.inr (isI_of y (fun q => by cases q)))]
        omega
      · have e1 : rlS gs m v c d = 0 := iteP_f (fun q => z q.1)
        have e2 : dg gs m v d = 0 := iteP_f (fun q => z q.1)
        rw [e1, e2]
        omega
    · have e1 : rlS gs m v c d = 0 := iteP_f (fun q => y q.2)
      rw [iteP_f y, e1, ih, Nat.add_zero]
theorem clS_7 {gs : List (List Nat)} {m c : Nat} {v : List Nat} (ho : okg gs m) (hu : unlk gs) : clS gs m v c 7 = dg gs m (v ++ [c]) 0 := by
  rw [clS_sm, dg_0, rdc_snoc ho hu]
theorem clS_le {gs : List (List Nat)} {m c : Nat} {v : List Nat} (d : Nat) : clS gs m v c d ≤ 2 := by
  rw [clS_sm]
  exact Nat.min_le_left _ _
/-- the longest end that stands open, among the shorter ones -/
noncomputable def dpX (gs : List (List Nat)) (m : Nat) (v : List Nat) : Nat → List Nat
  | 0 => []
  | d + 1 => iteL (dg gs m v (d + 1) ≠ 0) (lsD v (d + 1)) (dpX gs m v d)
theorem dpX_suf {gs : List (List Nat)} {m d : Nat} {v : List Nat} (ho : okg gs m) (h : dg gs m v d ≠ 0) : ∀ n, d ≤ n → d ≤ (dpX gs m v n).length ∧ (dpX gs m v n).drop ((dpX gs m v n).length - d) = lsD v d
  | 0, hd => by
    have e0 : d = 0 := by omega
    rw [e0, lsD_0]
    exact ⟨Nat.zero_le _, rfl⟩
  | n + 1, hd => by
    show d ≤ (iteL _ _ _).length ∧ (iteL _ _ _).drop ((iteL _ _ _).length - d) = _
    by_cases y : dg gs m v (n + 1) ≠ 0
    · rw [iteL_t y]
      have o := (dg_6 ho y).1.1
      rw [lsD_len o]
      refine ⟨hd, ?_⟩
      unfold lsD
      rw [List.drop_drop, show v.length - (n + 1) + (n + 1 - d) = v.length - d by omega]
    · rw [iteL_f y]
      by_cases z : d = n + 1
      · rw [z] at h
        exact absurd h y
      · exact dpX_suf ho h n (by omega)
theorem dpX_in {gs : List (List Nat)} {m : Nat} {v : List Nat} (ho : okg gs m) : ∀ n, dpX gs m v n = [] ∨ isI gs m (dpX gs m v n)
  | 0 => Or.inl rfl
  | n + 1 => by
    show iteL _ _ _ = [] ∨ isI gs m (iteL _ _ _)
    by_cases y : dg gs m v (n + 1) ≠ 0
    · rw [iteL_t y]
      exact Or.inr ((dg_6 ho y).1.2.elim (fun z => by omega) id)
    · rw [iteL_f y]
      exact dpX_in ho n
noncomputable def deS (gs : List (List Nat)) (m : Nat) (v : List Nat) (c : Nat) : Nat → List Nat
  | 0 => []
  | d + 1 => iteL (isI gs m (lsD v d ++ [c]) ∧ dg gs m v d ≠ 0) (lsD v d ++ [c]) (deS gs m v c d)
theorem dg_pos_le {gs : List (List Nat)} {m d : Nat} {v : List Nat} (h : dg gs m v d ≠ 0) : d ≤ v.length := Classical.byContradiction (fun y => h (iteP_f (fun z => y z.1)))
theorem deS_dp {gs : List (List Nat)} {m c : Nat} {v : List Nat} : ∀ d, deS gs m v c d = dpX gs m (v ++ [c]) d
  | 0 => rfl
  | d + 1 => by
    show iteL _ _ _ = iteL _ _ _
    have ih := deS_dp (gs := gs) (m := m) (c := c) (v := v) d
    by_cases y : isI gs m (lsD v d ++ [c]) ∧ dg gs m v d ≠ 0
    · have hd := dg_pos_le y.2
      rw [iteL_t y, iteL_t (by rw [dg_in hd y.1]; exact y.2), lsD_snoc hd]
    · rw [iteL_f y, ih]
      refine (iteL_f (fun z => y ?_)).symm
      by_cases q : d ≤ v.length ∧ isI gs m (lsD v d ++ [c])
      · rw [dg_in q.1 q.2] at z
        exact ⟨q.2, z⟩
      · exact absurd (dg_no q) z
noncomputable def dgs (gs : List (List Nat)) (m : Nat) (v : List Nat) : Nat := sm (fun d => dg gs m v d * 4 ^ d) 7
theorem sm7 (f : Nat → Nat) : sm f 7 = f 0 + f 1 + f 2 + f 3 + f 4 + f 5 + f 6 := by
  show 0 + f 0 + f 1 + f 2 + f 3 + f 4 + f 5 + f 6 = _
  omega
theorem dgs_7 {gs : List (List Nat)} {m : Nat} (v : List Nat) : dgs gs m v = dg gs m v 0 + dg gs m v 1 * 4 + dg gs m v 2 * 16 + dg gs m v 3 * 64 + dg gs m v 4 * 256 + dg gs m v 5 * 1024 + dg gs m v 6 * 4096 := by
  unfold dgs
  rw [sm7]
  omega
theorem dgs_lt {gs : List (List Nat)} {m : Nat} (v : List Nat) : dgs gs m v < 16384 := by
  rw [dgs_7]
  have h0 := dg_le (gs := gs) (m := m) v 0
  have h1 := dg_le (gs := gs) (m := m) v 1
  have h2 := dg_le (gs := gs) (m := m) v 2
  have h3 := dg_le (gs := gs) (m := m) v 3
  have h4 := dg_le (gs := gs) (m := m) v 4
  have h5 := dg_le (gs := gs) (m := m) v 5
  have h6 := dg_le (gs := gs) (m := m) v 6
  omega
noncomputable def kyW (N gs : List (List Nat)) (m : Nat) (v : List Nat) : Nat := nix N (dpX gs m v 6) * 16384 + dgs gs m v
theorem kyW_u {N gs : List (List Nat)} {m : Nat} (v : List Nat) : kyW N gs m v / 16384 = nix N (dpX gs m v 6) := by
  have := dgs_lt (gs := gs) (m := m) v
  unfold kyW
  omega
theorem dig7 {u a0 a1 a2 a3 a4 a5 a6 : Nat} (h0 : a0 ≤ 2) (h1 : a1 ≤ 2) (h2 : a2 ≤ 2) (h3 : a3 ≤ 2) (h4 : a4 ≤ 2) (h5 : a5 ≤ 2) (h6 : a6 ≤ 2) : (u * 16384 + (a0 + a1 * 4 + a2 * 16 + a3 * 64 + a4 * 256 + a5 * 1024 + a6 * 4096)) / 1 % 4 = a0 ∧ (u * 16384 + (a0 + a1 * 4 + a2 * 16 + a3 * 64 + a4 * 256 + a5 * 1024 + a6 * 4096)) / 4 % 4 = a1 ∧ (u * 16384 + (a0 + a1 * 4 + a2 * 16 + a3 * 64 + a4 * 256 + a5 * 1024 + a6 * 4096)) / 16 % 4 = a2 ∧ (u * 16384 + (a0 + a1 * 4 + a2 * 16 + a3 * 64 + a4 * 256 + a5 * 1024 + a6 * 4096)) / 64 % 4 = a3 ∧ (u * 16384 + (a0 + a1 * 4 + a2 * 16 + a3 * 64 + a4 * 256 + a5 * 1024 + a6 * 4096)) / 256 % 4 = a4 ∧ (u * 16384 + (a0 + a1 * 4 + a2 * 16 + a3 * 64 + a4 * 256 + a5 * 1024 + a6 * 4096)) / 1024 % 4 = a5 ∧ (u * 16384 + (a0 + a1 * 4 + a2 * 16 + a3 * 64 + a4 * 256 + a5 * 1024 + a6 * 4096)) / 4096 % 4 = a6 := by
  refine ⟨?_, ?_, ?_, ?_, ?_, ?_, ?_⟩ <;> omega
theorem kyW_d {N gs : List (List Nat)} {m d : Nat} (v : List Nat) (hd : d < 7) : kyW N gs m v / 4 ^ d % 4 = dg gs m v d := by
  unfold kyW
  rw [dgs_7]
  obtain ⟨e0, e1, e2, e3, e4, e5, e6⟩ := dig7 (u := nix N (dpX gs m v 6)) (dg_le (gs := gs) (m := m) v 0) (dg_le (gs := gs) (m := m) v 1) (dg_le (gs := gs) (m := m) v 2) (dg_le (gs := gs) (m := m) v 3) (dg_le (gs := gs) (m := m) v 4) (dg_le (gs := gs) (m := m) v 5) (dg_le (gs := gs) (m := m) v 6)
  rcases (show d = 0 ∨ d = 1 ∨ d = 2 ∨ d = 3 ∨ d = 4 ∨ d = 5 ∨ d = 6 by omega) with e | e | e | e | e | e | e <;> subst e
  · exact e0
  · exact e1
  · exact e2
  · exact e3
  · exact e4
  · exact e5
  · exact e6
/-- words with one key go on alike -/
theorem kyW_inj {N gs : List (List Nat)} {m : Nat} {v v' : List Nat} (ho : okg gs m) (hN : okN N) (hi : ∀ x, isI gs m x → x ∈ N) (h : kyW N gs m v = kyW N gs m v') : (∀ d, d < 7 → dg gs m v d = dg gs m v' d) ∧ dpX gs m v 6 = dpX gs m v' 6 := by
  refine ⟨fun d hd => by rw [← kyW_d (N := N) v hd, ← kyW_d (N := N) v' hd, h], ?_⟩
  have inN : ∀ v, dpX gs m v 6 ∈ N := fun v => (dpX_in ho 6).elim (fun z => by rw [z]; exact List.mem_of_getElem? hN.2.1) (hi _)
  have e := kyW_u (N := N) (gs := gs) (m := m) v
  rw [h, kyW_u] at e
  have a := nix_get (inN v)
  rw [← e, nix_get (inN v')] at a
  exact (Option.some.inj a).symm
theorem lsD_eq {gs : List (List Nat)} {m d : Nat} {v v' : List Nat} (ho : okg gs m) (hx : dpX gs m v 6 = dpX gs m v' 6) (h : dg gs m v d ≠ 0) (h' : dg gs m v' d ≠ 0) : lsD v d = lsD v' d := by
  have h6 := (dg_6 ho h).2
  rw [← (dpX_suf ho h 6 h6).2, ← (dpX_suf ho h' 6 h6).2, hx]
theorem dg_step {gs : List (List Nat)} {m : Nat} {v v' : List Nat} (ho : okg gs m) (hu : unlk gs) (h : ∀ d, d < 7 → dg gs m v d = dg gs m v' d) (hx : dpX gs m v 6 = dpX gs m v' 6) (c : Nat) : (∀ d, d < 7 → dg gs m (v ++ [c]) d = dg gs m (v' ++ [c]) d) ∧ dpX gs m (v ++ [c]) 6 = dpX gs m (v' ++ [c]) 6 := by
  have nz : ∀ d, dg gs m v d ≠ 0 → d < 7 := fun d z => by have := (dg_6 ho z).2; omega
  have sn : ∀ d, d < 6 → dg gs m (v ++ [c]) (d + 1) = dg gs m (v' ++ [c]) (d + 1) := fun d hd => by
    have hdd := h d (by omega)
    by_cases y : d ≤ v.length ∧ isI gs m (lsD v d ++ [c])
    · rw [dg_in y.1 y.2]
      by_cases z : dg gs m v d = 0
      · rw [z]
        rw [z] at hdd
        by_cases y' : d ≤ v'.length ∧ isI gs m (lsD v' d ++ [c])
        · rw [dg_in y'.1 y'.2, ← hdd]
        · rw [dg_no y']
      · have z' : dg gs m v' d ≠ 0 := by rw [← hdd]; exact z
        have el := lsD_eq ho hx z z'
        rw [dg_in (dg_pos_le z') (by rw [← el]; exact y.2), hdd]
    · rw [dg_no y]
      by_cases y' : d ≤ v'.length ∧ isI gs m (lsD v' d ++ [c])
      · rw [dg_in y'.1 y'.2]
        by_cases z : dg gs m v d = 0
        · rw [← hdd, z]
        · have z' : dg gs m v' d ≠ 0 := by rw [← hdd]; exact z
          have el := lsD_eq ho hx z z'
          exact absurd ⟨dg_pos_le z, by rw [el]; exact y'.2⟩ y
      · rw [dg_no y']
  have cl : ∀ d, d ≤ 7 → clS gs m v c d = clS gs m v' c d := by
    intro d
    induction d with
    | zero => exact fun _ => rfl
    | succ d ih =>
      intro hd
      show iteP _ _ _ = iteP _ _ _
      have hdd := h d (by omega)
      rw [ih (by omega), ← hdd]
      by_cases z : dg gs m v d = 0
      · rw [z, Nat.add_zero]
        have hm : min 2 (clS gs m v' c d) = clS gs m v' c d := Nat.min_eq_right (clS_le d)
        rw [hm]
        have t : ∀ (P : Prop) (a : Nat), iteP P a a = a := fun P a => by
          by_cases p : P
          · exact iteP_t p
          · exact iteP_f p
        rw [t, t]
      · have z' : dg gs m v' d ≠ 0 := by rw [← hdd]; exact z
        rw [lsD_eq ho hx z z']
  have de : ∀ d, d ≤ 6 → deS gs m v c d = deS gs m v' c d := by
    intro d
    induction d with
    | zero => exact fun _ => rfl
    | succ d ih =>
      intro hd
      show iteL _ _ _ = iteL _ _ _
      have hdd := h d (by omega)
      rw [ih (by omega)]
      by_cases z : dg gs m v d = 0
      · rw [iteL_f (fun q => q.2 z), iteL_f (fun q => q.2 (by rw [← hdd]; exact z))]
      · have z' : dg gs m v' d ≠ 0 := by rw [← hdd]; exact z
        rw [lsD_eq ho hx z z', ← hdd]
  refine ⟨fun d hd => ?_, by rw [← deS_dp, ← deS_dp]; exact de 6 (Nat.le_refl _)⟩
  cases d with
  | zero => rw [← clS_7 ho hu, ← clS_7 ho hu, cl 7 (Nat.le_refl _)]
  | succ d => exact sn d (by omega)
theorem dg_ext {gs : List (List Nat)} {m : Nat} (ho : okg gs m) (hu : unlk gs) : ∀ (z v v' : List Nat), (∀ d, d < 7 → dg gs m v d = dg gs m v' d) → dpX gs m v 6 = dpX gs m v' 6 → min 2 (rdc gs m (v ++ z)) = min 2 (rdc gs m (v' ++ z))
  | [], v, v', h, _ => by
    rw [List.append_nil, List.append_nil, ← dg_0, ← dg_0]
    exact h 0 (by omega)
  | c :: z, v, v', h, hx => by
    obtain ⟨a, b⟩ := dg_step ho hu h hx c
    have := dg_ext ho hu z (v ++ [c]) (v' ++ [c]) a b
    rw [List.append_assoc, List.append_assoc] at this
    exact this
/-- nothing stands open: nothing comes of it -/
theorem dg_dead {gs : List (List Nat)} {m : Nat} (ho : okg gs m) (hu : unlk gs) : ∀ (z v : List Nat), (∀ d, d < 7 → dg gs m v d = 0) → rdc gs m (v ++ z) = 0
  | [], v, h => by
    have := h 0 (by omega)
    rw [dg_0] at this
    rw [List.append_nil]
    omega
  | c :: z, v, h => by
    have a0 : ∀ d, dg gs m v d = 0 := fun d => by
      by_cases y : d < 7
      · exact h d y
      · exact Classical.byContradiction (fun q => by have := (dg_6 ho q).2; omega)
    have := dg_dead ho hu z (v ++ [c]) (fun d hd => by
      cases d with
      | zero =>
        rw [← clS_7 ho hu]
        have cl : ∀ d, clS gs m v c d = 0 := by
          intro d
          induction d with
          | zero => rfl
          | succ d ih =>
            show iteP _ _ _ = 0
            rw [ih, a0]
            by_cases p : isG gs m (lsD v d ++ [c])
            · exact iteP_t p
            · exact iteP_f p
        exact cl 7
      | succ d =>
        by_cases y : d ≤ v.length ∧ isI gs m (lsD v d ++ [c])
        · rw [dg_in y.1 y.2, a0]
        · exact dg_no y)
    rw [List.append_assoc] at this
    exact this
theorem kyW_0 {N gs : List (List Nat)} {m : Nat} {v : List Nat} : kyW N gs m v = 0 → ∀ d, d < 7 → dg gs m v d = 0 := fun h d hd => by
  rw [← kyW_d (N := N) v hd, h, Nat.zero_div]
theorem kyW_n0 {N gs : List (List Nat)} {m : Nat} {v : List Nat} (hN : okN N) : (∀ d, d < 7 → dg gs m v d = 0) → kyW N gs m v = 0 := fun h => by
  have e : ∀ n, n ≤ 6 → dpX gs m v n = [] := by
    intro n
    induction n with
    | zero => exact fun _ => rfl
    | succ n ih =>
      intro hn
      show iteL _ _ _ = []
      rw [iteL_f (fun q => q (h (n + 1) (by omega)))]
      exact ih (by omega)
  unfold kyW
  rw [e 6 (Nat.le_refl _), nix_at hN.1 hN.2.1, dgs_7, h 0 (by omega), h 1 (by omega), h 2 (by omega), h 3 (by omega), h 4 (by omega), h 5 (by omega), h 6 (by omega)]
