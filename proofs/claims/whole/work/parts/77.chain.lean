/-! acts on both sides: what was done, and what it was done to (the newest first) -/
abbrev Act := Int32 × Nat × List (List Nat) × Nat
def Did (x : Int32) (s : Nat) (g0 : List (List Nat)) (m0 : Nat) (gs : List (List Nat)) (m : Nat) : Prop := (x = 2 ∧ gs = g0 ∧ m = m0 ^^^ s) ∨ (¬ x = 2 ∧ gs = mkg x s g0 ∧ m = m0 ∧ ∀ t l, g0[t]? = some l → inm s t → l.length < 7)
def Chn : List (List Nat) → Nat → List Act → Prop
  | _, _, [] => True
  | gs, m, (x, s, g0, m0) :: r => okg g0 m0 ∧ s < 2 ^ g0.length ∧ Did x s g0 m0 gs m ∧ Chn g0 m0 r
/-- the class's acts, the model's snapshots: the oldest first -/
def acL (L : List Act) : List (Int32 × Int32) := (L.map (fun a => (a.1, nI a.2.1))).reverse
def snL (L : List Act) : List (List (List Nat) × Nat) := (L.map (fun a => (a.2.2.1, a.2.2.2))).reverse
theorem acL_cons (a : Act) (r : List Act) : acL (a :: r) = acL r ++ [(a.1, nI a.2.1)] := by
  unfold acL
  rw [List.map_cons, List.reverse_cons]
theorem snL_cons (a : Act) (r : List Act) : snL (a :: r) = snL r ++ [(a.2.2.1, a.2.2.2)] := by
  unfold snL
  rw [List.map_cons, List.reverse_cons]
theorem snoc_inj {α : Type} {l l' : List α} {a a' : α} (h : l ++ [a] = l' ++ [a']) : l = l' ∧ a = a' := by
  have h1 := congrArg List.reverse h
  rw [List.reverse_append, List.reverse_append] at h1
  have h2 : a :: l.reverse = a' :: l'.reverse := h1
  injection h2 with h3 h4
  exact ⟨List.reverse_inj.mp h4, h3⟩
theorem Did.len {x : Int32} {s m0 m : Nat} {g0 gs : List (List Nat)} (h : Did x s g0 m0 gs m) : gs.length = g0.length := by
  rcases h with h | h
  · rw [h.2.1]
  · rw [h.2.1, mkg_len]
theorem Chn.len : ∀ {L : List Act} {gs : List (List Nat)} {m : Nat}, Chn gs m L → ∀ s ∈ snL L, s.1.length = gs.length
  | [], _, _, _, s, hs => by cases hs
  | (x, s0, g0, m0) :: r, gs, m, h, s, hs => by
    rw [snL_cons] at hs
    have e := h.2.2.1.len
    rcases List.mem_append.mp hs with q | q
    · rw [Chn.len h.2.2.2 s q, e]
    · rw [List.mem_singleton.mp q, e]
theorem kp_len {L : List Act} : (acL L).length = L.length ∧ (snL L).length = L.length := by
  unfold acL snL
  rw [List.length_reverse, List.length_map, List.length_reverse, List.length_map]
  exact ⟨rfl, rfl⟩
def Wcu (c k : Nat) : Prop := (c = 2 ∧ (k = 5 ∨ k = 6 ∨ k = 9)) ∨ c = 3 ∨ c = 4
theorem ow_undo {d : Nat} {h : PH} {Q : PQ} {gs : List (List Nat)} {m : Nat} {L : List Act} (hO : OwS h) (hg : CGr h 2 gs m) (hc : CAc h 2 (acL L)) (hL : Chn gs m L) (kf : L = [] → Q (some (.int 0)) h) (kt : ∀ x s g0 m0 r, L = (x, s, g0, m0) :: r → ∀ h', CAc h' 2 (acL r) → CGr h' 2 g0 m0 → h_i h' 2 6 = h_i h 2 6 + 1 → Fr Wcu h h' → Q (some (.int 1)) h') : wpm (d + 4) 151 [.ref 0] h Q := by
  refine wpm_in P_Ow_undo rfl (by decide) (by show ¬ 1 < 1; decide) ?_
  have hs := GrS_2 hO
  refine B_Ow_undo_0 hO.1 (or_groups hO) (os_groups hO) (gr_takeBackAct hs hc (fun e => ?_) (fun ac' x y e h1 hc1 f1 => ?_))
  · refine B_Ow_undo_7 (by decide) (kf ?_)
    cases L with
    | nil => rfl
    | cons a r =>
      rw [acL_cons] at e
      exact absurd (congrArg List.length e) (by rw [List.length_append]; show ¬ (acL r).length + 1 = 0; omega)
  · cases L with
    | nil =>
      exfalso
      have := congrArg List.length e
      rw [List.length_append] at this
      have h0 : (acL []).length = 0 := rfl
      have h9 : [(x, y)].length = 1 := rfl
      omega
    | cons a r =>
      obtain ⟨x0, s, g0, m0⟩ := a
      rw [acL_cons] at e
      obtain ⟨e1, e2⟩ := snoc_inj e
      obtain ⟨o0, hsb, hd, hr⟩ := hL
      have ex : x0 = x := congrArg Prod.fst e2
      have ey : nI s = y := congrArg Prod.snd e2
      subst ex
      subst ey
      subst e1
      have h14 := o0.1
      have hs31 : s < 2 ^ 31 := Nat.lt_of_lt_of_le hsb (Nat.pow_le_pow_right (by decide) (by omega))
      have hs1 := f1.gr hs
      have hg1 : CGr h1 2 gs m := hg.fr f1 (fun c k q z => by omega)
      have st1 : h_i h1 2 6 = h_i h 2 6 := f1.i 2 6 (fun q => by omega)
      refine ⟨fun hx => ?_, fun hx => ?_⟩
      · rcases hd with hd | hd
        · obtain ⟨_, e3, e4⟩ := hd
          subst hx
          subst e3
          refine gr_change2 hs1 hg1 hsb (fun h2 hg2 st f2 => ⟨rfl, B_Ow_undo_7 (by decide) ?_⟩)
          rw [e4, Nat.xor_assoc, Nat.xor_self, Nat.xor_zero] at hg2
          refine kt _ s gs m0 r rfl h2 (hc1.fr f2 (fun c k q z => by unfold Wac at z; omega)) hg2 (by rw [st, st1]) ?_
          exact (f1.up (fun c k q => Or.inl ⟨q.1, by omega⟩)).tr (f2.up (fun c k q => Or.inl ⟨q.1, by omega⟩))
        · exact absurd hx hd.1
      · rcases hd with hd | hd
        · exact absurd hd.1 hx
        · obtain ⟨_, e3, e4, h7⟩ := hd
          subst e3
          subst e4
          refine gr_unmark hs1 o0 hg1 hs31 h7 (fun h2 hg2 st f2 => ⟨rfl, B_Ow_undo_7 (by decide) ?_⟩)
          refine kt _ s g0 m r rfl h2 (hc1.fr f2 (fun c k q z => by unfold Wac at z; unfold Wcm at q; omega)) hg2 (by rw [st, st1]) ?_
          exact (f1.up (fun c k q => Or.inl ⟨q.1, by omega⟩)).tr (f2.up (fun c k q => by unfold Wcm at q; omega))
