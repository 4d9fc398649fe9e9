/-! the bound, first step: marks away. Readings by marked groups are told by their rows of groups: no more than readings by the cores -/
def fulm (C : List (List Nat)) : Nat := 2 ^ C.length - 1
theorem fulm_in {C : List (List Nat)} {k : Nat} (h : k < C.length) : inm (fulm C) k := by
  unfold inm fulm
  have := Nat.testBit_two_pow_sub_one C.length k
  rw [Nat.testBit_eq_decide_div_mod_eq, decide_eq_decide] at this
  exact this.mpr h
theorem cor_app (a b : List Nat) : cor (a ++ b) = cor a ++ cor b := List.filter_append ..
theorem okg_cor {gs : List (List Nat)} {m : Nat} (ho : okg gs m) (hc : ∀ l ∈ gs, 0 < (cor l).length) : okg (gs.map cor) (fulm (gs.map cor)) := by
  refine ⟨by rw [List.length_map]; exact ho.1, Nat.sub_lt (Nat.pow_pos (by decide)) (by decide), fun l hl => ?_⟩
  obtain ⟨a, ha, e⟩ := List.mem_map.mp hl
  subst e
  have h := ho.2.2 a ha
  exact ⟨⟨fun x hx => h.1.1 x (List.mem_filter.mp hx).1, Nat.le_trans (List.length_filter_le ..) h.1.2⟩, hc a ha⟩
theorem rdc_cor {gs : List (List Nat)} {m : Nat} (ho : okg gs m) (hc : ∀ l ∈ gs, 0 < (cor l).length) : ∀ (n : Nat) (w : List Nat), w.length ≤ n → rdc gs m w ≤ rdc (gs.map cor) (fulm (gs.map cor)) (cor w)
  | n, [], _ => by
    rw [rdc_nil]
    exact Nat.le_of_eq (rdc_nil _ _).symm
  | 0, x :: w, h => by
    have : (x :: w).length = w.length + 1 := rfl
    omega
  | n + 1, x :: w0, h => by
    have hlen : (x :: w0).length = w0.length + 1 := rfl
    generalize x :: w0 = w at h hlen ⊢
    have hoC := okg_cor ho hc
    have step : ∀ k, k < gs.length → preB gs m w k = true → preB (gs.map cor) (fulm (gs.map cor)) (cor w) k = true ∧ (cor w).drop ((gs.map cor).getD k []).length = cor (w.drop (gs.getD k []).length) ∧ 0 < (cor w).length := fun k hk q => by
      obtain ⟨q1, q2, q3⟩ := preB_i.mp q
      have gk : gs[k]? = some gs[k] := List.getElem?_eq_getElem hk
      have el : gs.getD k [] = gs[k] := by rw [List.getD_eq_getElem?_getD, gk]; rfl
      have ec : (gs.map cor).getD k [] = cor (gs.getD k []) := cor_at
      have ew : cor w = cor (gs.getD k []) ++ cor (w.drop (gs.getD k []).length) := by
        rw [← cor_app]
        congr 1
        conv => rhs; lhs; rw [q3]
        exact (List.take_append_drop _ _).symm
      have h0 : 0 < (cor (gs.getD k [])).length := by rw [el]; exact hc _ (List.getElem_mem hk)
      refine ⟨preB_i.mpr ⟨fulm_in (by rw [List.length_map]; exact hk), ?_, ?_⟩, ?_, ?_⟩
      · rw [ec, ew, List.length_append]; omega
      · rw [ec, ew, List.take_left' rfl]
      · rw [ec, ew, List.drop_left' rfl]
      · rw [ew, List.length_append]; omega
    rw [rdc_first ho (by omega)]
    by_cases z : 0 < (cor w).length
    · rw [rdc_first hoC z, List.length_map]
      refine sm_mono _ (fun k hk => ?_)
      by_cases q : preB gs m w k = true
      · obtain ⟨s1, s2, s3⟩ := step k hk q
        rw [if_pos q, if_pos s1, s2]
        have hl := gl0 ho k hk
        exact rdc_cor ho hc n _ (by rw [List.length_drop]; omega)
      · rw [if_neg q]
        exact Nat.zero_le _
    · rw [sm_congr (g := fun _ => 0) _ (fun k hk => if_neg (fun q => z (step k hk q).2.2)), sm_zero]
      exact Nat.zero_le _
/-- THE BOUND over words without marks -/
def HBnc : Prop := ∀ gs m w, okg gs m → unlD gs → lst (Twn gs m) (some w) → ∀ p, p ≤ w.length → rdc (gs.map cor) (fulm (gs.map cor)) (cor (w.drop p)) < 2 ^ 63
theorem hbnd_of (h : HBnc) : HBnd := fun gs m w ho hu hl gs' m' ho' e p hp => by
  have hc : ∀ l ∈ gs', 0 < (cor l).length := fun l hl' => by
    have : cor l ∈ gs'.map cor := List.mem_map_of_mem hl'
    rw [e] at this
    obtain ⟨a, ha, ea⟩ := List.mem_map.mp this
    rw [← ea]
    exact (hu.2 a ha).1
  rw [wy_drop ho' _ w p (Nat.le_refl _) hp]
  refine Nat.lt_of_le_of_lt (rdc_cor ho' hc _ _ (Nat.le_refl _)) ?_
  rw [e]
  exact h gs m w ho hu hl p hp
