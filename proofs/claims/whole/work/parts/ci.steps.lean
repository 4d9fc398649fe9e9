/-! words on the reference's side: a state by a letter on -/
noncomputable def dR (gs : List (List Nat)) (m : Nat) (v u : List Nat) : Nat := iteP (u.length ≤ v.length ∧ lsD v u.length = u) (min 2 (rdc gs m (v.take (v.length - u.length)))) 0
theorem dR_le {gs : List (List Nat)} {m : Nat} (v u : List Nat) : dR gs m v u ≤ 2 := by
  unfold dR
  by_cases y : u.length ≤ v.length ∧ lsD v u.length = u
  · rw [iteP_t y]
    exact Nat.min_le_left _ _
  · rw [iteP_f y]
    exact Nat.zero_le _
theorem dR_nil {gs : List (List Nat)} {m : Nat} (v : List Nat) : dR gs m v [] = min 2 (rdc gs m v) := by
  unfold dR
  rw [iteP_t ⟨Nat.zero_le _, lsD_0 v⟩]
  show min 2 (rdc gs m (v.take (v.length - 0))) = _
  rw [Nat.sub_zero, List.take_length]
theorem dR_at {gs : List (List Nat)} {m d : Nat} {v : List Nat} (h : d ≤ v.length) : dR gs m v (lsD v d) = min 2 (rdc gs m (v.take (v.length - d))) := by
  unfold dR
  rw [iteP_t ⟨by rw [lsD_len h]; exact h, by rw [lsD_len h]⟩, lsD_len h]
theorem dR_snoc {gs : List (List Nat)} {m s : Nat} {v y : List Nat} : dR gs m (v ++ [s]) (y ++ [s]) = dR gs m v y := by
  have l1 : (y ++ [s]).length = y.length + 1 := List.length_append
  have l2 : (v ++ [s]).length = v.length + 1 := List.length_append
  unfold dR
  by_cases z : y.length ≤ v.length ∧ lsD v y.length = y
  · rw [iteP_t z, iteP_t ⟨by omega, by rw [l1, lsD_snoc z.1, z.2]⟩, l1, tkS]
  · rw [iteP_f z, iteP_f (fun w => z ⟨by omega, ?_⟩)]
    have := w.2
    rw [l1, lsD_snoc (by omega)] at this
    exact (List.append_inj' this rfl).1
theorem dR_other {gs : List (List Nat)} {m s t : Nat} {v y : List Nat} (h : t ≠ s) : dR gs m (v ++ [s]) (y ++ [t]) = 0 := by
  have l1 : (y ++ [t]).length = y.length + 1 := List.length_append
  have l2 : (v ++ [s]).length = v.length + 1 := List.length_append
  refine iteP_f (fun w => ?_)
  have := w.2
  have w1 := w.1
  rw [l1, lsD_snoc (by omega)] at this
  have e := (List.append_inj' this rfl).2
  injection e with e
  exact h e.symm
theorem sm_min2 {f : Nat → Nat} : ∀ n, min 2 (sm (fun k => min 2 (f k)) n) = min 2 (sm f n)
  | 0 => rfl
  | n + 1 => by
    have ih := sm_min2 (f := f) n
    show min 2 (sm (fun k => min 2 (f k)) n + min 2 (f n)) = min 2 (sm f n + f n)
    omega
noncomputable def EnS (N gs : List (List Nat)) (m : Nat) (v : List Nat) (s p : Nat) : Nat := iteP (isG gs m (N.getD p [] ++ [s])) (dR gs m v (N.getD p [])) 0
noncomputable def GnS (N gs : List (List Nat)) (m : Nat) (v : List Nat) (s p d : Nat) : Nat := iteP (d ≤ v.length ∧ N.getD p [] = lsD v d ∧ isG gs m (lsD v d ++ [s])) (min 2 (rdc gs m (v.take (v.length - d)))) 0
theorem En_sum {N gs : List (List Nat)} {m s : Nat} {v : List Nat} (ho : okg gs m) (hu : unlk gs) (hN : okN N) (hm : ∀ x, x ∈ N ↔ x = [] ∨ isI gs m x ∨ isG gs m x) : min 2 (sm (EnS N gs m v s) N.length) = min 2 (rdc gs m (v ++ [s])) := by
  have e1 : ∀ p, p < N.length → EnS N gs m v s p = sm (GnS N gs m v s p) 7 := fun p hp => by
    by_cases y : (N.getD p []).length ≤ v.length ∧ lsD v (N.getD p []).length = N.getD p [] ∧ isG gs m (N.getD p [] ++ [s])
    · obtain ⟨y1, y2, y3⟩ := y
      have e : EnS N gs m v s p = dR gs m v (N.getD p []) := iteP_t y3
      rw [e]
      have h7 : (N.getD p []).length < 7 := by
        obtain ⟨k, gk, _⟩ := y3
        have := (ho.at gk).1.2
        rw [List.length_append] at this
        have h1 : ([s] : List Nat).length = 1 := rfl
        omega
      have e2 : dR gs m v (N.getD p []) = min 2 (rdc gs m (v.take (v.length - (N.getD p []).length))) := iteP_t ⟨y1, y2⟩
      rw [e2]
      have a1 : GnS N gs m v s p (N.getD p []).length = min 2 (rdc gs m (v.take (v.length - (N.getD p []).length))) := iteP_t ⟨y1, y2.symm, by rw [y2]; exact y3⟩
      have a2 : ∀ d, d < 7 → d ≠ (N.getD p []).length → GnS N gs m v s p d = 0 := fun d hd hne => iteP_f (fun z => hne (by rw [z.2.1, lsD_len z.1]))
      exact (sm_at h7 a1 a2).symm
    · have e : EnS N gs m v s p = 0 := by
        by_cases z : isG gs m (N.getD p [] ++ [s])
        · exact (iteP_t z).trans (iteP_f (fun w => y ⟨w.1, w.2, z⟩))
        · exact iteP_f z
      rw [e]
      refine ((sm_congr 7 (fun d hd => ?_)).trans (sm_zero 7)).symm
      refine iteP_f (fun z => y ?_)
      rw [z.2.1, lsD_len z.1]
      exact ⟨z.1, rfl, z.2.2⟩
  rw [sm_congr N.length e1, sm_swap, rdc_snoc ho hu, ← sm_min2 (f := rlS gs m v s)]
  congr 1
  refine sm_congr 7 (fun d hd => ?_)
  by_cases y : d ≤ v.length ∧ isG gs m (lsD v d ++ [s])
  · have er : rlS gs m v s d = rdc gs m (v.take (v.length - d)) := iteP_t y
    rw [er]
    have hin : lsD v d ∈ N := (hm _).mpr (Or.inr (Or.inl ⟨_, y.2, d, by rw [List.length_append, lsD_len y.1]; exact Nat.lt_succ_self d, by
      have := List.take_left' (l₁ := lsD v d) (l₂ := [s]) (lsD_len y.1)
      exact this.symm⟩))
    have hg := nix_get hin
    have hlt := nix_lt hin
    have hgd : N.getD (nix N (lsD v d)) [] = lsD v d := gD hg
    have a1 : GnS N gs m v s (nix N (lsD v d)) d = min 2 (rdc gs m (v.take (v.length - d))) := iteP_t ⟨y.1, hgd, y.2⟩
    have a2 : ∀ p, p < N.length → p ≠ nix N (lsD v d) → GnS N gs m v s p d = 0 := fun p hp hne => iteP_f (fun z => hne (by
      have hp' := gS (gs := N) hp
      rw [z.2.1] at hp'
      exact (nix_at hN.1 hp').symm))
    exact sm_at hlt a1 a2
  · have er : rlS gs m v s d = 0 := iteP_f y
    rw [er]
    refine (sm_congr N.length (fun p hp => ?_)).trans (sm_zero _)
    exact iteP_f (fun z => y ⟨z.1, z.2.2⟩)
/-- the digits of the state of a word -/
noncomputable def stD (N gs : List (List Nat)) (m : Nat) (v : List Nat) : Nat → Nat := fun a => if a < N.length then dR gs m v (N.getD a []) else 0
/-- half way: what the nodes before a made -/
noncomputable def stT (N gs : List (List Nat)) (m : Nat) (v : List Nat) (s a : Nat) : Nat → Nat := fun j => if j = 0 then min 2 (sm (EnS N gs m v s) a) else iteP (∃ p, p < a ∧ p < N.length ∧ N[j]? = some (N.getD p [] ++ [s])) (dR gs m v (N.getD j []).dropLast) 0
theorem stT_le {N gs : List (List Nat)} {m s a : Nat} {v : List Nat} (j : Nat) : stT N gs m v s a j ≤ 2 := by
  unfold stT
  by_cases y : j = 0
  · rw [if_pos y]
    exact Nat.min_le_left _ _
  · rw [if_neg y]
    by_cases z : ∃ p, p < a ∧ p < N.length ∧ N[j]? = some (N.getD p [] ++ [s])
    · rw [iteP_t z]
      exact dR_le _ _
    · rw [iteP_f z]
      exact Nat.zero_le _
theorem stT_0 {N gs : List (List Nat)} {m s : Nat} {v : List Nat} : stT N gs m v s 0 = fun _ => 0 := funext (fun j => by
  unfold stT
  by_cases y : j = 0
  · rw [if_pos y]
    rfl
  · rw [if_neg y]
    exact iteP_f (fun ⟨p, hp, _⟩ => absurd hp (by omega)))
theorem stT_end {N gs : List (List Nat)} {m s : Nat} {v : List Nat} (ho : okg gs m) (hu : unlk gs) (hN : okN N) (hm : ∀ x, x ∈ N ↔ x = [] ∨ isI gs m x ∨ isG gs m x) : stT N gs m v s N.length = stD N gs m (v ++ [s]) := funext (fun j => by
  have n0 : 0 < N.length := (List.getElem?_eq_some_iff.mp hN.2.1).1
  unfold stT stD
  by_cases y : j = 0
  · have e : N.getD 0 [] = [] := gD hN.2.1
    rw [if_pos y, y, if_pos n0, e, dR_nil, En_sum ho hu hN hm]
  · rw [if_neg y]
    by_cases l : j < N.length
    · rw [if_pos l]
      have hj := gS (gs := N) l
      generalize N.getD j [] = x at hj
      have hx : x ≠ [] := hN.ne (by omega) hj
      obtain ⟨x', t, rfl⟩ : ∃ x' t, x = x' ++ [t] := ⟨x.dropLast, x.getLast hx, (List.dropLast_concat_getLast hx).symm⟩
      rw [List.dropLast_concat]
      by_cases z : t = s
      · subst z
        rw [dR_snoc]
        have hin : x' ∈ N := hN.up (List.mem_of_getElem? hj)
        refine iteP_t ⟨nix N x', nix_lt hin, nix_lt hin, ?_⟩
        rw [hj, show N.getD (nix N x') [] = x' from gD (nix_get hin)]
      · rw [dR_other z]
        refine iteP_f (fun ⟨p, _, _, hp⟩ => z ?_)
        rw [hj] at hp
        have := (List.append_inj' (Option.some.inj hp) rfl).2
        injection this
    · rw [if_neg l]
      refine iteP_f (fun ⟨p, _, _, hp⟩ => l (List.getElem?_eq_some_iff.mp hp).1))
