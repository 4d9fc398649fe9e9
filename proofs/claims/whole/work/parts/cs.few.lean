/-! words on the reference's side: at most 14192 states of words of one length -/
theorem split2 {α : Type} (p : α → Bool) : ∀ l : List α, (l.filter p).length + (l.filter (fun x => !p x)).length = l.length
  | [] => rfl
  | x :: r => by
    have ih := split2 p r
    by_cases y : p x = true
    · rw [List.filter_cons_of_pos y, List.filter_cons_of_neg (by simp [y]), List.length_cons, List.length_cons]
      omega
    · rw [List.filter_cons_of_neg y, List.filter_cons_of_pos (by simp [y]), List.length_cons, List.length_cons]
      omega
theorem dp_pos {N gs : List (List Nat)} {m i : Nat} {v : List Nat} (hN : okN N) (i0 : i ≠ 0) (h : stD N gs m v i ≠ 0) : dpM N gs m v 7 ≠ 0 := fun q => by
  by_cases l : i < N.length
  · rw [← stD_dR l] at h
    have ga := gS (gs := N) l
    generalize N.getD i [] = x at ga h
    have hx : x ≠ [] := hN.ne (by omega) ga
    have x0 : 0 < x.length := List.length_pos_iff.mpr hx
    have x7 := (hN.2.2.1 x (List.mem_of_getElem? ga)).2
    obtain ⟨_, _, a3⟩ := dpM_is (N := N) (gs := gs) (m := m) (v := v) 7
    rw [q] at a3
    by_cases w : x.length ≤ v.length ∧ lsD v x.length = x
    · refine a3 x.length x0 x7 ⟨w.1, ?_, ?_⟩
      · rw [w.2]
        exact List.mem_of_getElem? ga
      · rw [w.2]
        exact h
    · exact h (iteP_f w)
  · exact h (if_neg l)
theorem few {N gs : List (List Nat)} {m L : Nat} {V : List (List Nat)} (ho : okg gs m) (hu : unlk gs) (hN : okN N) (hm : ∀ x, x ∈ N ↔ x = [] ∨ isI gs m x ∨ isG gs m x) (hn : (V.map (stD N gs m)).Nodup) (hL : L ≤ 10) (h0 : ∀ v ∈ V, v.length = L ∧ dpM N gs m v 7 ≠ 0) : V.length ≤ 14192 := by
  have e := split2 (fun v => decide (dpM N gs m v 7 ≤ 6)) V
  have sub : ∀ p : List Nat → Bool, ((V.filter p).map (stD N gs m)).Nodup := fun p => List.Pairwise.sublist (List.Sublist.map _ List.filter_sublist) hn
  have k1 := few6 (V := V.filter (fun v => decide (dpM N gs m v 7 ≤ 6))) ho hu hN hm (sub _) (fun v hv => by
    obtain ⟨a, b⟩ := List.mem_filter.mp hv
    exact ⟨(h0 v a).2, of_decide_eq_true b⟩)
  have k2 := few7 (V := V.filter (fun v => !decide (dpM N gs m v 7 ≤ 6))) (N := N) (L := L) ho hm (List.Pairwise.imp (fun {a b} hne e => hne (by rw [e])) (List.pairwise_map.mp (sub _))) hL (fun v hv => by
    obtain ⟨a, b⟩ := List.mem_filter.mp hv
    refine ⟨(h0 v a).1, ?_⟩
    have a1 := (dpM_is (N := N) (gs := gs) (m := m) (v := v) 7).1
    have : ¬ dpM N gs m v 7 ≤ 6 := fun q => by simp [q] at b
    omega)
  omega
