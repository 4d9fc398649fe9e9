/-! words on the reference's side: the deepest node with a digit; what tells a state -/
def dpO (N gs : List (List Nat)) (m : Nat) (v : List Nat) (d : Nat) : Prop := d ≤ v.length ∧ lsD v d ∈ N ∧ dR gs m v (lsD v d) ≠ 0
noncomputable def dpM (N gs : List (List Nat)) (m : Nat) (v : List Nat) : Nat → Nat
  | 0 => 0
  | d + 1 => iteP (dpO N gs m v (d + 1)) (d + 1) (dpM N gs m v d)
theorem dpM_is {N gs : List (List Nat)} {m : Nat} {v : List Nat} : ∀ n, dpM N gs m v n ≤ n ∧ (dpM N gs m v n ≠ 0 → dpO N gs m v (dpM N gs m v n)) ∧ ∀ e, dpM N gs m v n < e → e ≤ n → ¬ dpO N gs m v e
  | 0 => ⟨Nat.le_refl _, fun h => absurd rfl h, fun e h1 h2 => absurd h1 (by omega)⟩
  | n + 1 => by
    obtain ⟨a, b, c⟩ := dpM_is (N := N) (gs := gs) (m := m) (v := v) n
    by_cases y : dpO N gs m v (n + 1)
    · have e : dpM N gs m v (n + 1) = n + 1 := iteP_t y
      rw [e]
      exact ⟨Nat.le_refl _, fun _ => y, fun e h1 h2 => absurd h1 (by omega)⟩
    · have e : dpM N gs m v (n + 1) = dpM N gs m v n := iteP_f y
      rw [e]
      refine ⟨by omega, b, fun e h1 h2 => ?_⟩
      by_cases z : e = n + 1
      · rw [z]
        exact y
      · exact c e h1 (by omega)
theorem lsD_lsD {v : List Nat} {d e : Nat} (hd : d ≤ v.length) (he : e ≤ d) : lsD (lsD v d) e = lsD v e := by
  unfold lsD
  rw [List.drop_drop, List.length_drop]
  congr 1
  omega
/-- equal below: the same deepest node, the same digits above it -/
theorem stD_same {N gs : List (List Nat)} {m d : Nat} {v v' : List Nat} (ho : okg gs m) (hu : unlk gs) (hN : okN N) (hm : ∀ x, x ∈ N ↔ x = [] ∨ isI gs m x ∨ isG gs m x) (d0 : 0 < d) (h1 : dpM N gs m v 7 = d) (h2 : dpM N gs m v' 7 = d) (hs : lsD v d = lsD v' d) (hd : ∀ e, e < d → dR gs m v (lsD v (e + 1)) = dR gs m v' (lsD v' (e + 1))) : stD N gs m v = stD N gs m v' := by
  obtain ⟨a1, a2, a3⟩ := dpM_is (N := N) (gs := gs) (m := m) (v := v) 7
  obtain ⟨b1, b2, b3⟩ := dpM_is (N := N) (gs := gs) (m := m) (v := v') 7
  rw [h1] at a1 a2 a3
  rw [h2] at b1 b2 b3
  have a4 := a2 (by omega)
  have b4 := b2 (by omega)
  have a5 := a4.1
  have b5 := b4.1
  have below : ∀ a, a ≠ 0 → a < N.length → stD N gs m v a = stD N gs m v' a := fun a a0 ha => by
    rw [← stD_dR ha, ← stD_dR ha]
    have ga := gS (gs := N) ha
    generalize N.getD a [] = x at ga
    have hx : x ≠ [] := hN.ne (by omega) ga
    have x0 : 0 < x.length := List.length_pos_iff.mpr hx
    have x7 := (hN.2.2.1 x (List.mem_of_getElem? ga)).2
    have out : ∀ w, (∀ e, d < e → e ≤ 7 → ¬ dpO N gs m w e) → d < x.length → dR gs m w x = 0 := fun w hw hl => by
      by_cases q : x.length ≤ w.length ∧ lsD w x.length = x
      · by_cases r : dR gs m w x = 0
        · exact r
        · refine absurd ⟨q.1, ?_, ?_⟩ (hw x.length hl x7)
          · rw [q.2]
            exact List.mem_of_getElem? ga
          · rw [q.2]
            exact r
      · exact iteP_f q
    by_cases l : d < x.length
    · rw [out v a3 l, out v' b3 l]
    · have e1 : lsD v x.length = lsD v' x.length := by rw [← lsD_lsD a5 (by omega), ← lsD_lsD b5 (by omega), hs]
      by_cases q : lsD v x.length = x
      · have := hd (x.length - 1) (by omega)
        rw [show x.length - 1 + 1 = x.length by omega, ← e1, q] at this
        exact this
      · have r1 : dR gs m v x = 0 := iteP_f (fun w => q w.2)
        have r2 : dR gs m v' x = 0 := iteP_f (fun w => q (e1.trans w.2))
        rw [r1, r2]
  have snoc : ∀ w : List Nat, 0 < w.length → ∃ w' t, w = w' ++ [t] := fun w hw => ⟨w.dropLast, w.getLast (List.length_pos_iff.mp hw), (List.dropLast_concat_getLast _).symm⟩
  obtain ⟨w, t, rfl⟩ := snoc v (by omega)
  obtain ⟨w', t', rfl⟩ := snoc v' (by omega)
  refine funext (fun a => ?_)
  by_cases y : a = 0
  · rw [y, stD_0 ho hu hN hm, stD_0 ho hu hN hm]
    congr 1
    refine sm_congr _ (fun p hp => ?_)
    by_cases z : isG gs m (N.getD p [])
    · rw [iteP_t z, iteP_t z]
      refine below p (fun q => ?_) hp
      rw [q, show N.getD 0 [] = [] from gD hN.2.1] at z
      obtain ⟨k, gk, _⟩ := z
      exact absurd (ho.at gk).2.1 (by decide)
    · rw [iteP_f z, iteP_f z]
  · by_cases l : a < N.length
    · exact below a y l
    · unfold stD
      rw [if_neg l, if_neg l]
