/-! words on the reference's side: the digit of the empty node is told by the others -/
noncomputable def HnS (N gs : List (List Nat)) (m : Nat) (v : List Nat) (s p a : Nat) : Nat := iteP (N[a]? = some (N.getD p [] ++ [s]) ∧ isG gs m (N.getD p [] ++ [s])) (dR gs m v (N.getD p [])) 0
theorem stD_0 {N gs : List (List Nat)} {m s : Nat} {v : List Nat} (ho : okg gs m) (hu : unlk gs) (hN : okN N) (hm : ∀ x, x ∈ N ↔ x = [] ∨ isI gs m x ∨ isG gs m x) : stD N gs m (v ++ [s]) 0 = min 2 (sm (fun a => iteP (isG gs m (N.getD a [])) (stD N gs m (v ++ [s]) a) 0) N.length) := by
  have e1 : ∀ p, p < N.length → EnS N gs m v s p = sm (HnS N gs m v s p) N.length := fun p hp => by
    by_cases y : isG gs m (N.getD p [] ++ [s])
    · have e : EnS N gs m v s p = dR gs m v (N.getD p []) := iteP_t y
      rw [e]
      have hin : N.getD p [] ++ [s] ∈ N := (hm _).mpr (Or.inr (Or.inr y))
      have a1 : HnS N gs m v s p (nix N (N.getD p [] ++ [s])) = dR gs m v (N.getD p []) := iteP_t ⟨nix_get hin, y⟩
      have a2 : ∀ a, a < N.length → a ≠ nix N (N.getD p [] ++ [s]) → HnS N gs m v s p a = 0 := fun a ha hne => iteP_f (fun z => hne (nix_at hN.1 z.1).symm)
      exact (sm_at (nix_lt hin) a1 a2).symm
    · have e : EnS N gs m v s p = 0 := iteP_f y
      have a2 : ∀ a, a < N.length → HnS N gs m v s p a = 0 := fun a ha => iteP_f (fun z => y z.2)
      rw [e, sm_congr N.length a2, sm_zero]
  have e2 : ∀ a, a < N.length → sm (fun p => HnS N gs m v s p a) N.length = iteP (isG gs m (N.getD a [])) (stD N gs m (v ++ [s]) a) 0 := fun a ha => by
    have ga := gS (gs := N) ha
    by_cases y : isG gs m (N.getD a [])
    · rw [iteP_t y, ← stD_dR ha]
      generalize N.getD a [] = x at ga y
      have hx : x ≠ [] := fun q => by
        obtain ⟨k, gk, _⟩ := y
        have := (ho.at gk).2.1
        rw [q] at this
        exact absurd this (by decide)
      obtain ⟨x', t, rfl⟩ : ∃ x' t, x = x' ++ [t] := ⟨x.dropLast, x.getLast hx, (List.dropLast_concat_getLast hx).symm⟩
      by_cases z : t = s
      · subst z
        rw [dR_snoc]
        have hin : x' ∈ N := hN.up (List.mem_of_getElem? ga)
        have hgd : N.getD (nix N x') [] = x' := gD (nix_get hin)
        have a1 : (fun p => HnS N gs m v t p a) (nix N x') = dR gs m v x' := by
          show HnS N gs m v t (nix N x') a = _
          unfold HnS
          rw [hgd]
          exact iteP_t ⟨ga, y⟩
        have a2 : ∀ p, p < N.length → p ≠ nix N x' → (fun p => HnS N gs m v t p a) p = 0 := fun p hp hne => iteP_f (fun w => hne (by
          have w1 := w.1
          rw [ga] at w1
          have e := (List.append_inj' (Option.some.inj w1) rfl).1
          have gp := gS (gs := N) hp
          rw [← e] at gp
          exact (nix_at hN.1 gp).symm))
        exact sm_at (nix_lt hin) a1 a2
      · rw [dR_other z]
        have a2 : ∀ p, p < N.length → HnS N gs m v s p a = 0 := fun p hp => iteP_f (fun w => z (by
          have w1 := w.1
          rw [ga] at w1
          have e := (List.append_inj' (Option.some.inj w1) rfl).2
          injection e))
        rw [sm_congr N.length a2, sm_zero]
    · rw [iteP_f y]
      have a2 : ∀ p, p < N.length → HnS N gs m v s p a = 0 := fun p hp => iteP_f (fun w => y (by
        have w1 := w.1
        rw [ga] at w1
        rw [Option.some.inj w1]
        exact w.2))
      rw [sm_congr N.length a2, sm_zero]
  have e0 : stD N gs m (v ++ [s]) 0 = min 2 (sm (EnS N gs m v s) N.length) := by
    rw [← stT_end ho hu hN hm]
    rfl
  rw [e0, sm_congr N.length e1, sm_swap, sm_congr N.length e2]
