/-! all calls on the fresh object; the claim's run -/
theorem Start_eq {L : Nat} {xs : Nat → Int32} {h : PH} (s : Start L xs h) : h = sets H0 (L, xs) := by
  obtain ⟨h1, h2, h3, h4, h5, h6, h7, h8, h9⟩ := s
  obtain ⟨x1, x2, x3, x4, x5, x6, x7⟩ := h
  have e1 : x1 = slk S_md := funext h9
  have e2 : x2 = E_md := funext fun c => funext fun k => h6 c k
  have e3 : x3 = fun _ _ => 0 := funext fun c => funext fun k => h7 c k
  have e4 : x4 = rl R_md := funext fun c => funext fun k => h5 c k
  have e5 : x5 = 63 := h1
  have e6 : x6 = 387407 := h2
  have e7 : x7 = (L, xs) := h3
  subst e1 e2 e3 e4 e5 e6 e7
  rfl
theorem ops1 (L : Nat) (xs : Nat → Int32) : Ops (Inv1 L xs) 20 := by
  intro n hn
  obtain rfl : n = 0 := by omega
  exact ⟨fun a1 a2 a3 a4 a5 => p_0 a1 a2 a3 a4 a5 L xs, fun a1 => p_1 a1 L xs, op_i q_2 L xs, fun a1 => p_3 a1 L xs, fun a1 a2 => p_4 a1 a2 L xs, fun a1 => p_5 a1 L xs, fun a1 a2 => p_6 a1 a2 L xs, op_i q_7 L xs, fun a1 => p_8 a1 L xs, fun a1 a2 a3 => p_9 a1 a2 a3 L xs, op_i q_10 L xs, op_i q_11 L xs, op_i q_12 L xs, fun a1 => p_13 a1 L xs, op_i q_14 L xs, fun a1 => p_15 a1 L xs, op_l q_16 L xs, fun a1 a2 => p_17 a1 a2 L xs, op_i q_18 L xs, fun a1 => p_19 a1 L xs, fun a1 a2 => p_20 a1 a2 L xs, fun a1 => p_21 a1 L xs, op_i q_22 L xs, fun a1 a2 a3 a4 => p_23 a1 a2 a3 a4 L xs, fun a1 a2 => p_24 a1 a2 L xs, fun a1 a2 => p_25 a1 a2 L xs, fun a1 a2 => p_26 a1 a2 L xs, op_l q_27 L xs, fun a1 => p_28 a1 L xs, fun a1 a2 a3 => p_29 a1 a2 a3 L xs, fun a1 => p_30 a1 L xs, fun a1 => p_31 a1 L xs, fun a1 a2 _ => p_32 a1 a2 L xs, op_i q_33 L xs⟩
theorem okh_of {h : PH} (o : okh h = true) : h_sh h 0 = some (0, 11) ∧ h_sh h 17 = some (0, 12) ∧ h_ct h ≤ 600000 ∧ h_sl h ≤ 7302250 := by
  unfold okh at o
  simp only [Bool.and_eq_true, decide_eq_true_eq] at o
  exact ⟨o.1.1.1, o.1.1.2, o.1.2, o.2⟩
theorem law1 : LawRuns := by
  refine law_runs Inv1 18 (by decide) ?_ ?_ ?_ ?_ (fun L xs _ => ops1 L xs)
  · intro L xs h _ s
    exact ⟨fun _ => Start_eq s, H0, Start_eq s, ok_H0⟩
  · rintro L xs n h ⟨_, g, rfl, o⟩
    exact ⟨rfl, (okh_of o).1, (okh_of o).2.1⟩
  · rintro L xs n h _ ⟨_, g, rfl, o⟩
    exact ⟨(okh_of o).2.2.1, (okh_of o).2.2.2⟩
  · intro L xs n h hI
    exact ⟨fun z => absurd z (Nat.succ_ne_zero n), hI.2⟩
