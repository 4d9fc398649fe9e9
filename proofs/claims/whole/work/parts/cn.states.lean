/-! words on the reference's side: a state tells how many words there are behind it -/
theorem stD_dR {N gs : List (List Nat)} {m p : Nat} {v : List Nat} (hp : p < N.length) : dR gs m v (N.getD p []) = stD N gs m v p := by
  unfold stD
  rw [if_pos hp]
theorem stT_val {N gs : List (List Nat)} {m s : Nat} {v : List Nat} (j : Nat) : (j = 0 ∧ stT N gs m v s N.length j = min 2 (sm (fun p => iteP (isG gs m (N.getD p [] ++ [s])) (stD N gs m v p) 0) N.length)) ∨ (j ≠ 0 ∧ (∃ p, p < N.length ∧ N[j]? = some (N.getD p [] ++ [s]) ∧ stT N gs m v s N.length j = stD N gs m v p)) ∨ (j ≠ 0 ∧ (¬ ∃ p, p < N.length ∧ N[j]? = some (N.getD p [] ++ [s])) ∧ stT N gs m v s N.length j = 0) := by
  by_cases y : j = 0
  · refine Or.inl ⟨y, ?_⟩
    unfold stT
    rw [if_pos y]
    congr 1
    refine sm_congr _ (fun p hp => ?_)
    unfold EnS
    rw [stD_dR hp]
  · by_cases c : ∃ p, p < N.length ∧ N[j]? = some (N.getD p [] ++ [s])
    · obtain ⟨p, p1, p2⟩ := c
      refine Or.inr (Or.inl ⟨y, p, p1, p2, ?_⟩)
      unfold stT
      rw [if_neg y, iteP_t ⟨p, p1, p1, p2⟩, gD p2, List.dropLast_concat, stD_dR p1]
    · refine Or.inr (Or.inr ⟨y, c, ?_⟩)
      unfold stT
      rw [if_neg y]
      exact iteP_f (fun ⟨p, p1, p2, p3⟩ => c ⟨p, p1, p3⟩)
theorem stD_step {N gs : List (List Nat)} {m s : Nat} {v v' : List Nat} (ho : okg gs m) (hu : unlk gs) (hN : okN N) (hm : ∀ x, x ∈ N ↔ x = [] ∨ isI gs m x ∨ isG gs m x) (h : stD N gs m v = stD N gs m v') : stD N gs m (v ++ [s]) = stD N gs m (v' ++ [s]) := by
  rw [← stT_end ho hu hN hm, ← stT_end ho hu hN hm]
  refine funext (fun j => ?_)
  rcases stT_val (gs := gs) (m := m) (s := s) (v := v) (N := N) j with ⟨a1, a2⟩ | ⟨a1, p, a2, a3, a4⟩ | ⟨a1, a2, a3⟩ <;> rcases stT_val (gs := gs) (m := m) (s := s) (v := v') (N := N) j with ⟨b1, b2⟩ | ⟨b1, q, b2, b3, b4⟩ | ⟨b1, b2, b3⟩
  · rw [a2, b2, h]
  · exact absurd a1 b1
  · exact absurd a1 b1
  · exact absurd b1 a1
  · rw [a4, b4, h]
    have e : p = q := by
      rw [a3] at b3
      have e2 := (List.append_inj' (Option.some.inj b3) rfl).1
      have h1 := gS (gs := N) a2
      have h2 := gS (gs := N) b2
      rw [e2] at h1
      exact (nix_at hN.1 h1).symm.trans (nix_at hN.1 h2)
    rw [e]
  · exact absurd ⟨p, a2, a3⟩ b2
  · exact absurd b1 a1
  · exact absurd ⟨q, b2, b3⟩ a2
  · rw [a3, b3]
theorem stD_rd {N gs : List (List Nat)} {m : Nat} {v : List Nat} (hN : okN N) : stD N gs m v 0 = min 2 (rdc gs m v) := by
  have n0 : 0 < N.length := (List.getElem?_eq_some_iff.mp hN.2.1).1
  have e : N.getD 0 [] = [] := gD hN.2.1
  rw [← stD_dR n0, e, dR_nil]
theorem cnF_st {f : Nat → Nat} {N gs : List (List Nat)} {m : Nat} (hf : f2 f) (ho : okg gs m) (hu : unlk gs) (hN : okN N) (hm : ∀ x, x ∈ N ↔ x = [] ∨ isI gs m x ∨ isG gs m x) : ∀ n v v', stD N gs m v = stD N gs m v' → cnF f gs m n v = cnF f gs m n v'
  | 0, v, v', h => hf.2.1 _ _ (by rw [← stD_rd hN, ← stD_rd hN, h])
  | n + 1, v, v', h => sm_congr 27 (fun i _ => cnF_st hf ho hu hN hm n _ _ (stD_step ho hu hN hm h))
theorem stD_dead {N gs : List (List Nat)} {m s : Nat} {v : List Nat} (ho : okg gs m) (hu : unlk gs) (hN : okN N) (hm : ∀ x, x ∈ N ↔ x = [] ∨ isI gs m x ∨ isG gs m x) (h : ∀ i, stD N gs m v i = 0) (i : Nat) : stD N gs m (v ++ [s]) i = 0 := by
  rw [← stT_end ho hu hN hm]
  rcases stT_val (gs := gs) (m := m) (s := s) (v := v) (N := N) i with ⟨a1, a2⟩ | ⟨a1, p, a2, a3, a4⟩ | ⟨a1, a2, a3⟩
  · rw [a2]
    have e : ∀ p, p < N.length → iteP (isG gs m (N.getD p [] ++ [s])) (stD N gs m v p) 0 = 0 := fun p hp => by
      rw [h p]
      by_cases y : isG gs m (N.getD p [] ++ [s])
      · exact iteP_t y
      · exact iteP_f y
    rw [sm_congr N.length e, sm_zero]
    rfl
  · rw [a4]
    exact h p
  · exact a3
theorem cnF_dead {f : Nat → Nat} {N gs : List (List Nat)} {m : Nat} (hf : f2 f) (ho : okg gs m) (hu : unlk gs) (hN : okN N) (hm : ∀ x, x ∈ N ↔ x = [] ∨ isI gs m x ∨ isG gs m x) : ∀ n v, (∀ i, stD N gs m v i = 0) → cnF f gs m n v = 0
  | 0, v, h => by
    have e := h 0
    rw [stD_rd hN] at e
    have : rdc gs m v = 0 := by omega
    show f (rdc gs m v) = 0
    rw [this]
    exact hf.1
  | n + 1, v, h => (sm_congr 27 (fun i _ => cnF_dead hf ho hu hN hm n _ (fun i' => stD_dead ho hu hN hm h i'))).trans (sm_zero 27)
