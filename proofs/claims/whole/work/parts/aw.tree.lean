/-! the tree of the groups' beginnings: its nodes as rows of letters; a group planted -/
def nix : List (List Nat) → List Nat → Nat
  | [], _ => 0
  | y :: r, x => if y = x then 0 else nix r x + 1
theorem nix_get : ∀ {N : List (List Nat)} {x : List Nat}, x ∈ N → N[nix N x]? = some x
  | [], x, h => by cases h
  | y :: r, x, h => by
    unfold nix
    by_cases z : y = x
    · rw [if_pos z, z]
      rfl
    · rw [if_neg z]
      rcases List.mem_cons.mp h with w | w
      · exact absurd w.symm z
      · exact nix_get (N := r) w
theorem nix_at : ∀ {N : List (List Nat)} {x : List Nat} {u : Nat}, N.Nodup → N[u]? = some x → nix N x = u
  | [], x, u, _, h => by cases h
  | y :: r, x, 0, _, h => by
    have e : y = x := Option.some.inj h
    unfold nix
    rw [if_pos e]
  | y :: r, x, u + 1, hn, h => by
    have h' : r[u]? = some x := h
    have hx := List.mem_of_getElem? h'
    rw [List.nodup_cons] at hn
    unfold nix
    rw [if_neg (fun e => hn.1 (by rw [e]; exact hx)), nix_at hn.2 h']
theorem nix_app : ∀ {N : List (List Nat)} {x y : List Nat}, x ∈ N → nix (N ++ [y]) x = nix N x
  | [], x, y, h => by cases h
  | z :: r, x, y, h => by
    show nix (z :: (r ++ [y])) x = nix (z :: r) x
    unfold nix
    by_cases w : z = x
    · rw [if_pos w, if_pos w]
    · rw [if_neg w, if_neg w]
      rcases List.mem_cons.mp h with v | v
      · exact absurd v.symm w
      · rw [nix_app v]
theorem nix_new : ∀ {N : List (List Nat)} {x : List Nat}, ¬ x ∈ N → nix (N ++ [x]) x = N.length
  | [], x, _ => by
    show nix [x] x = 0
    unfold nix
    rw [if_pos rfl]
  | z :: r, x, h => by
    rw [List.mem_cons, not_or] at h
    show nix (z :: (r ++ [x])) x = r.length + 1
    unfold nix
    rw [if_neg (fun e => h.1 e.symm), nix_new h.2]
/-- a node's number, -1 if there is none -/
def nd (N : List (List Nat)) (x : List Nat) : Int32 := if x ∈ N then nI (nix N x) else -1
theorem nd_at {N : List (List Nat)} {x : List Nat} {u : Nat} (hn : N.Nodup) (h : N[u]? = some x) : nd N x = nI u := by
  unfold nd
  rw [if_pos (List.mem_of_getElem? h), nix_at hn h]
theorem nd_no {N : List (List Nat)} {x : List Nat} (h : ¬ x ∈ N) : nd N x = -1 := by
  unfold nd
  rw [if_neg h]
theorem nd_new {N : List (List Nat)} {x : List Nat} (h : ¬ x ∈ N) : nd (N ++ [x]) x = nI N.length := by
  unfold nd
  rw [if_pos (List.mem_append_right _ (List.mem_singleton.mpr rfl)), nix_new h]
theorem nd_app {N : List (List Nat)} {x y : List Nat} (h : x ≠ y) : nd (N ++ [y]) x = nd N x := by
  unfold nd
  by_cases z : x ∈ N
  · rw [if_pos z, if_pos (List.mem_append_left _ z), nix_app z]
  · rw [if_neg z, if_neg (fun w => by
      rcases List.mem_append.mp w with v | v
      · exact z v
      · exact h (List.mem_singleton.mp v))]
def okN (N : List (List Nat)) : Prop := N.Nodup ∧ N[0]? = some [] ∧ (∀ x ∈ N, okr x) ∧ N.length ≤ 99 ∧ ∀ (u : Nat) (x : List Nat) (s : Nat), N[u]? = some (x ++ [s]) → ∃ p, p < u ∧ N[p]? = some x
theorem okN.up {N : List (List Nat)} (h : okN N) {x : List Nat} {s : Nat} (hx : x ++ [s] ∈ N) : x ∈ N := by
  obtain ⟨u, hu⟩ := List.mem_iff_getElem?.mp hx
  obtain ⟨p, _, hp⟩ := h.2.2.2.2 u x s hu
  exact List.mem_of_getElem? hp
theorem okN.tk {N : List (List Nat)} (h : okN N) : ∀ {y x : List Nat}, x ++ y ∈ N → x ∈ N
  | [], x, hx => by rw [List.append_nil] at hx; exact hx
  | s :: y, x, hx => by
    rw [List.append_cons] at hx
    exact h.up (okN.tk h hx)
theorem okN.add {N : List (List Nat)} (h : okN N) {x : List Nat} {s : Nat} (hx : x ∈ N) (hy : ¬ x ++ [s] ∈ N) (ho : okr (x ++ [s])) (hl : N.length < 99) : okN (N ++ [x ++ [s]]) := by
  obtain ⟨h1, h2, h3, h4, h5⟩ := h
  refine ⟨?_, ?_, fun z hz => ?_, ?_, fun u z t hu => ?_⟩
  · rw [List.nodup_append]
    refine ⟨h1, List.nodup_cons.mpr ⟨fun w => (by cases w), List.nodup_nil⟩, fun a ha b hb e => ?_⟩
    rw [List.mem_singleton] at hb
    exact hy (by rw [← hb, ← e]; exact ha)
  · have := (List.getElem?_eq_some_iff.mp h2).1
    rw [List.getElem?_append_left this]
    exact h2
  · rcases List.mem_append.mp hz with w | w
    · exact h3 z w
    · rw [List.mem_singleton.mp w]
      exact ho
  · rw [List.length_append]
    show N.length + 1 ≤ 99
    omega
  · by_cases w : u < N.length
    · rw [List.getElem?_append_left w] at hu
      obtain ⟨p, p1, p2⟩ := h5 u z t hu
      exact ⟨p, p1, by rw [List.getElem?_append_left (by omega)]; exact p2⟩
    · rw [List.getElem?_append_right (by omega)] at hu
      have hi := (List.getElem?_eq_some_iff.mp hu).1
      have hi' : u - N.length < 1 := hi
      have eu : u = N.length := by omega
      rw [eu, Nat.sub_self] at hu
      have e : x ++ [s] = z ++ [t] := Option.some.inj hu
      have ez : x = z := (List.append_inj' e rfl).1
      rw [← ez]
      obtain ⟨p, hp⟩ := List.mem_iff_getElem?.mp hx
      have pl := (List.getElem?_eq_some_iff.mp hp).1
      exact ⟨p, by omega, by rw [List.getElem?_append_left pl]; exact hp⟩
def TrS (h : PH) (b : Nat) : Prop := h_sh h b = some (0, 8) ∧ (h_r h b 0 = some (b + 1) ∧ h_sh h (b + 1) = some (1, 2772)) ∧ (h_r h b 1 = some (b + 2) ∧ h_sh h (b + 2) = some (1, 792)) ∧ (h_r h b 2 = some (b + 3) ∧ h_sh h (b + 3) = some (1, 99)) ∧ (h_r h b 3 = some (b + 4) ∧ h_sh h (b + 4) = some (3, 99)) ∧ (h_r h b 4 = some (b + 5) ∧ h_sh h (b + 5) = some (3, 99)) ∧ (h_r h b 5 = some (b + 6) ∧ h_sh h (b + 6) = some (1, 99)) ∧ (h_r h b 6 = some (b + 7) ∧ h_sh h (b + 7) = some (1, 99)) ∧ (h_r h b 7 = some (b + 8) ∧ h_sh h (b + 8) = some (1, 99)) ∧ (h_r h b 8 = some (b + 9) ∧ h_sh h (b + 9) = some (1, 29)) ∧ 63 ≤ b ∧ b + 9 < h_ct h
theorem TrS.gw {W : Nat → Nat → Prop} {h h' : PH} {b : Nat} (hf : Gw W h h') (hr : TrS h b) : TrS h' b := by
  obtain ⟨a0, a1, a2, a3, a4, a5, a6, a7, a8, a9, a10, a11⟩ := hr
  have hs : ∀ c, c < h_ct h → h_sh h' c = h_sh h c := hf.2.2.2.2.1
  have ct := hf.2.1
  exact ⟨(hs _ (by omega)).trans a0, ⟨hf.rs (by omega) a1.1, (hs _ (by omega)).trans a1.2⟩, ⟨hf.rs (by omega) a2.1, (hs _ (by omega)).trans a2.2⟩, ⟨hf.rs (by omega) a3.1, (hs _ (by omega)).trans a3.2⟩, ⟨hf.rs (by omega) a4.1, (hs _ (by omega)).trans a4.2⟩, ⟨hf.rs (by omega) a5.1, (hs _ (by omega)).trans a5.2⟩, ⟨hf.rs (by omega) a6.1, (hs _ (by omega)).trans a6.2⟩, ⟨hf.rs (by omega) a7.1, (hs _ (by omega)).trans a7.2⟩, ⟨hf.rs (by omega) a8.1, (hs _ (by omega)).trans a8.2⟩, ⟨hf.rs (by omega) a9.1, (hs _ (by omega)).trans a9.2⟩, a10, by omega⟩
theorem TrS.fr {W : Nat → Nat → Prop} {h h' : PH} {b : Nat} (hf : Fr W h h') (hr : TrS h b) : TrS h' b := hr.gw hf.gw
def bt (v : Int32) (P : Prop) : Prop := (P → v = 1) ∧ (¬ P → v = 0)
theorem bt.cg {v : Int32} {P P' : Prop} (e : P ↔ P') (h : bt v P) : bt v P' := ⟨fun z => h.1 (e.mpr z), fun z => h.2 (fun w => z (e.mp w))⟩
/-- the tree while groups are planted -/
def TrN (h : PH) (b : Nat) (N : List (List Nat)) (I W : List Nat → Prop) : Prop := okN N ∧ h_i h b 9 = nI N.length ∧ (∀ x, I x ∨ W x → x ∈ N) ∧ (∀ u x, N[u]? = some x → h_i h (b + 3) u = nI x.length ∧ bt (h_i h (b + 4) u) (W x) ∧ bt (h_i h (b + 5) u) (I x) ∧ (∀ y s, x = y ++ [s] → h_i h (b + 6) u = nd N y ∧ h_i h (b + 7) u = nI s) ∧ ∀ s, s < 28 → h_i h (b + 1) (u * 28 + s) = nd N (x ++ [s])) ∧ ∀ u, N.length ≤ u → u < 99 → h_i h (b + 4) u = 0 ∧ h_i h (b + 5) u = 0 ∧ ∀ s, s < 28 → h_i h (b + 1) (u * 28 + s) = -1
theorem TrN.cg {h : PH} {b : Nat} {N : List (List Nat)} {I W I' W' : List Nat → Prop} (e1 : ∀ x, I x ↔ I' x) (e2 : ∀ x, W x ↔ W' x) (hc : TrN h b N I W) : TrN h b N I' W' := by
  obtain ⟨c1, c2, c3, c4, c5⟩ := hc
  exact ⟨c1, c2, fun x hx => c3 x (hx.imp (e1 x).mpr (e2 x).mpr), fun u x hu => ⟨(c4 u x hu).1, (c4 u x hu).2.1.cg (e2 x), (c4 u x hu).2.2.1.cg (e1 x), (c4 u x hu).2.2.2⟩, c5⟩
def Wtre (b x : Nat) : Prop := x = b + 1 ∨ (b + 3 ≤ x ∧ x ≤ b + 7)
def Wpl (b x k : Nat) : Prop := Wtre b x ∨ (x = b ∧ k = 9)
theorem TrN.inner {h : PH} {b u : Nat} {N : List (List Nat)} {I W : List Nat → Prop} {x : List Nat} {v : Int32} (hv : v = 1) (hc : TrN h b N I W) (hu : N[u]? = some x) : TrN (w_i h (b + 5) u v) b N (fun z => I z ∨ z = x) W := by
  subst hv
  obtain ⟨c1, c2, c3, c4, c5⟩ := hc
  refine ⟨c1, by rw [wi_ne _ _ (by omega)]; exact c2, fun z hz => ?_, fun u' z hz => ?_, fun u' h1 h2 => ?_⟩
  · rcases hz with (w | w) | w
    · exact c3 z (Or.inl w)
    · rw [w]
      exact List.mem_of_getElem? hu
    · exact c3 z (Or.inr w)
  · obtain ⟨d1, d2, d3, d4, d5⟩ := c4 u' z hz
    refine ⟨by rw [wi_ne _ _ (by omega)]; exact d1, by rw [wi_ne _ _ (by omega)]; exact d2, ?_, fun y s e => by rw [wi_ne _ _ (by omega), wi_ne _ _ (by omega)]; exact d4 y s e, fun s hs => by rw [wi_ne _ _ (by omega)]; exact d5 s hs⟩
    by_cases y : u' = u
    · subst y
      rw [wi_eq]
      have e : z = x := Option.some.inj (hz.symm.trans hu)
      exact ⟨fun _ => rfl, fun w => absurd (Or.inr e) w⟩
    · rw [wi_ne _ _ (by omega)]
      refine d3.cg ⟨Or.inl, fun w => w.elim id (fun e => ?_)⟩
      rw [e] at hz
      exact absurd ((nix_at c1.1 hz).symm.trans (nix_at c1.1 hu)) y
  · obtain ⟨d1, d2, d3⟩ := c5 u' h1 h2
    have ul := (List.getElem?_eq_some_iff.mp hu).1
    refine ⟨by rw [wi_ne _ _ (by omega)]; exact d1, by rw [wi_ne _ _ (by omega)]; exact d2, fun s hs => by rw [wi_ne _ _ (by omega)]; exact d3 s hs⟩
theorem TrN.whole {h : PH} {b u : Nat} {N : List (List Nat)} {I W : List Nat → Prop} {x : List Nat} {v : Int32} (hv : v = 1) (hc : TrN h b N I W) (hu : N[u]? = some x) : TrN (w_i h (b + 4) u v) b N I (fun z => W z ∨ z = x) := by
  subst hv
  obtain ⟨c1, c2, c3, c4, c5⟩ := hc
  refine ⟨c1, by rw [wi_ne _ _ (by omega)]; exact c2, fun z hz => ?_, fun u' z hz => ?_, fun u' h1 h2 => ?_⟩
  · rcases hz with w | w | w
    · exact c3 z (Or.inl w)
    · exact c3 z (Or.inr w)
    · rw [w]
      exact List.mem_of_getElem? hu
  · obtain ⟨d1, d2, d3, d4, d5⟩ := c4 u' z hz
    refine ⟨by rw [wi_ne _ _ (by omega)]; exact d1, ?_, by rw [wi_ne _ _ (by omega)]; exact d3, fun y s e => by rw [wi_ne _ _ (by omega), wi_ne _ _ (by omega)]; exact d4 y s e, fun s hs => by rw [wi_ne _ _ (by omega)]; exact d5 s hs⟩
    by_cases y : u' = u
    · subst y
      rw [wi_eq]
      have e : z = x := Option.some.inj (hz.symm.trans hu)
      exact ⟨fun _ => rfl, fun w => absurd (Or.inr e) w⟩
    · rw [wi_ne _ _ (by omega)]
      refine d2.cg ⟨Or.inl, fun w => w.elim id (fun e => ?_)⟩
      rw [e] at hz
      exact absurd ((nix_at c1.1 hz).symm.trans (nix_at c1.1 hu)) y
  · obtain ⟨d1, d2, d3⟩ := c5 u' h1 h2
    have ul := (List.getElem?_eq_some_iff.mp hu).1
    refine ⟨by rw [wi_ne _ _ (by omega)]; exact d1, by rw [wi_ne _ _ (by omega)]; exact d2, fun s hs => by rw [wi_ne _ _ (by omega)]; exact d3 s hs⟩
/-- a node more -/
theorem TrN.node {h h' : PH} {b u s : Nat} {N : List (List Nat)} {I W : List Nat → Prop} {x : List Nat} (hs : s < 28) (hc : TrN h b N I W) (hu : N[u]? = some x) (hy : ¬ x ++ [s] ∈ N) (ho : okr (x ++ [s])) (hl : N.length < 99) (e9 : h_i h' b 9 = nI (N.length + 1)) (e4 : ∀ j, h_i h' (b + 4) j = h_i h (b + 4) j) (e5 : ∀ j, h_i h' (b + 5) j = h_i h (b + 5) j) (e3 : ∀ j, h_i h' (b + 3) j = if j = N.length then nI (x.length + 1) else h_i h (b + 3) j) (e6 : ∀ j, h_i h' (b + 6) j = if j = N.length then nI u else h_i h (b + 6) j) (e7 : ∀ j, h_i h' (b + 7) j = if j = N.length then nI s else h_i h (b + 7) j) (e1 : ∀ j, h_i h' (b + 1) j = if j = u * 28 + s then nI N.length else h_i h (b + 1) j) : TrN h' b (N ++ [x ++ [s]]) I W := by
  obtain ⟨c1, c2, c3, c4, c5⟩ := hc
  have ul := (List.getElem?_eq_some_iff.mp hu).1
  refine ⟨c1.add (List.mem_of_getElem? hu) hy ho hl, by rw [e9, List.length_append]; rfl, fun z hz => List.mem_append_left _ (c3 z hz), fun u' z hz => ?_, fun u' h1 h2 => ?_⟩
  · by_cases w : u' < N.length
    · rw [List.getElem?_append_left w] at hz
      obtain ⟨d1, d2, d3, d4, d5⟩ := c4 u' z hz
      refine ⟨?_, by rw [e4]; exact d2, by rw [e5]; exact d3, fun y t e => ?_, fun t ht => ?_⟩
      · rw [e3, if_neg (by omega)]
        exact d1
      · rw [e6, e7, if_neg (by omega), if_neg (by omega), nd_app]
        · exact d4 y t e
        · intro w'
          have : z ∈ N := List.mem_of_getElem? hz
          rw [e, w'] at this
          exact hy (c1.up this)
      · rw [e1]
        by_cases v : z ++ [t] = x ++ [s]
        · have e' := List.append_inj' v rfl
          have eu : u' = u := by
            rw [e'.1] at hz
            exact (nix_at c1.1 hz).symm.trans (nix_at c1.1 hu)
          have et : t = s := by
            have := e'.2
            injection this
          rw [if_pos (by rw [eu, et]), v, nd_new hy]
        · have hj : ¬ u' * 28 + t = u * 28 + s := fun w' => by
            have a1 : u' = u := by omega
            have a2 : t = s := by omega
            subst a1
            rw [hz] at hu
            cases hu
            exact v (by rw [a2])
          rw [if_neg hj, nd_app v]
          exact d5 t ht
    · rw [List.getElem?_append_right (by omega)] at hz
      have hi := (List.getElem?_eq_some_iff.mp hz).1
      have hi' : u' - N.length < 1 := hi
      have eu : u' = N.length := by omega
      rw [eu, Nat.sub_self] at hz
      have ez : x ++ [s] = z := Option.some.inj hz
      subst ez
      subst eu
      obtain ⟨d1, d2, d3⟩ := c5 N.length (Nat.le_refl _) hl
      refine ⟨by rw [e3, if_pos rfl, List.length_append]; rfl, ?_, ?_, fun y t e => ?_, fun t ht => ?_⟩
      · rw [e4, d1]
        exact ⟨fun w => absurd (c3 _ (Or.inr w)) hy, fun _ => rfl⟩
      · rw [e5, d2]
        exact ⟨fun w => absurd (c3 _ (Or.inl w)) hy, fun _ => rfl⟩
      · have e' := List.append_inj' e rfl
        have et : s = t := by
          have := e'.2
          injection this
        rw [e6, e7, if_pos rfl, if_pos rfl, ← e'.1, ← et, nd_app (fun w' => hy (by rw [← w']; exact List.mem_of_getElem? hu)), nd_at c1.1 hu]
        exact ⟨rfl, rfl⟩
      · rw [e1, if_neg (by omega), d3 t ht, nd_no]
        intro w'
        rcases List.mem_append.mp w' with v | v
        · exact hy (c1.up v)
        · have e' := congrArg List.length (List.mem_singleton.mp v)
          rw [List.length_append] at e'
          have : ([t] : List Nat).length = 1 := rfl
          omega
  · rw [List.length_append] at h1
    have h1' : N.length + 1 ≤ u' := h1
    obtain ⟨d1, d2, d3⟩ := c5 u' (by omega) h2
    refine ⟨by rw [e4]; exact d1, by rw [e5]; exact d2, fun t ht => ?_⟩
    rw [e1, if_neg (by omega)]
    exact d3 t ht
theorem tr_plant {d : Nat} {h : PH} {Q : PQ} {b : Nat} {N : List (List Nat)} {I W : List Nat → Prop} {l : List Nat} (hT : TrS h b) (hc : TrN h b N I W) (hl : okr l) (h0 : 0 < l.length) (hn : N.length + l.length ≤ 99) (k : ∀ h' N', TrN h' b N' (fun x => I x ∨ ∃ j, j < l.length ∧ x = l.take j) (fun x => W x ∨ x = l) → (∀ x, x ∈ N' ↔ x ∈ N ∨ ∃ j, j ≤ l.length ∧ x = l.take j) → N'.length ≤ N.length + l.length → Fr (Wpl b) h h' → Q none h') : wpm (d + 2) 93 [.ref b, .long (pk l), .int (nI l.length)] h Q := by
  refine wpm_in P_Tr_plant rfl (by decide) (by show ¬ 8 < 4; decide) (B_Tr_plant_0 ?_)
  have h7 := hl.2
  have b63 : 63 ≤ b := hT.2.2.2.2.2.2.2.2.2.2.1
  have loop : ∀ (e i u : Nat) (g : PH) (N' : List (List Nat)) (v6 v7 : Value), l.length - i = e → i ≤ l.length → N'[u]? = some (l.take i) → TrN g b N' (fun x => I x ∨ ∃ j, j < i ∧ x = l.take j) W → (∀ x, x ∈ N' ↔ x ∈ N ∨ ∃ j, j ≤ i ∧ x = l.take j) → N'.length ≤ N.length + i → Fr (Wpl b) h g → wpx (d + 1) P_Tr_plant 6 [.ref b, .long (pk l), .retAddr 2, .int (nI l.length), .int (nI u), .int (nI i), v6, v7] [] g Q := by
    intro e
    induction e with
    | zero =>
      intro i u g N' v6 v7 he hi hu hN hm hln hf
      have hTg := hT.fr hf
      have ei : i = l.length := by omega
      subst ei
      have ul := (List.getElem?_eq_some_iff.mp hu).1
      rw [List.take_of_length_le (Nat.le_refl _)] at hu
      refine B_Tr_plant_6 (fun _ => B_Tr_plant_141 hTg.1 hTg.2.2.2.2.1.1 hTg.2.2.2.2.1.2 (vp_in_nI (by omega) (by omega)) ?_) (fun q => absurd (nI_le (by omega) (by omega)) q)
      rw [nI_clamp (by omega)]
      exact k _ N' (hN.whole (by decide) hu) hm hln (hf.tr (Fr.wi _ _ (Or.inl (Or.inr ⟨by omega, by omega⟩))))
    | succ e ih =>
      intro i u g N' v6 v7 he hi hu hN hm hln hf
      have hTg := hT.fr hf
      have ul := (List.getElem?_eq_some_iff.mp hu).1
      have gx : l[i]? = some l[i] := List.getElem?_eq_getElem (by omega)
      generalize l[i] = s at gx
      have hs := hl.1 s (List.mem_of_getElem? gx)
      have tk : l.take (i + 1) = l.take i ++ [s] := by
        rw [List.take_succ, gx]
        rfl
      have eix : nI u * (28 : Int32) + nI s = nI (u * 28 + s) := by rw [show (28 : Int32) = nI 28 from rfl, nI_mulN, nI_add]
      have vix : vp_in (nI u * (28 : Int32) + nI s) 2772 := by
        rw [eix]
        exact vp_in_nI (by omega) (by omega)
      refine B_Tr_plant_6 (fun q => ?_) (fun _ => B_Tr_plant_12 (ow_signOf hl ?_))
      · rw [nI_leI (by omega) (by omega)] at q
        omega
      rw [sgn_le hl gx]
      have hN2 : TrN (w_i g (b + 5) u ((1 : Int32) &&& 1)) b N' (fun x => I x ∨ ∃ j, j < i + 1 ∧ x = l.take j) W := (hN.inner (by decide) hu).cg (fun x => by
        constructor
        · rintro ((w | ⟨j, w1, w2⟩) | w)
          · exact Or.inl w
          · exact Or.inr ⟨j, by omega, w2⟩
          · exact Or.inr ⟨i, by omega, w⟩
        · rintro (w | ⟨j, w1, w2⟩)
          · exact Or.inl (Or.inl w)
          · by_cases y : j = i
            · rw [y] at w2
              exact Or.inr w2
            · exact Or.inl (Or.inr ⟨j, by omega, w2⟩)) (fun _ => Iff.rfl)
      have f2 : Fr (Wpl b) h (w_i g (b + 5) u ((1 : Int32) &&& 1)) := hf.tr (Fr.wi _ _ (Or.inl (Or.inr ⟨by omega, by omega⟩)))
      have go : ∀ (g' : PH) (N2 : List (List Nat)) (w : Nat) (v6' : Int32), N2[w]? = some (l.take (i + 1)) → TrN g' b N2 (fun x => I x ∨ ∃ j, j < i + 1 ∧ x = l.take j) W → (∀ x, x ∈ N2 ↔ x ∈ N ∨ ∃ j, j ≤ i + 1 ∧ x = l.take j) → N2.length ≤ N.length + (i + 1) → Fr (Wpl b) h g' → wpx (d + 1) P_Tr_plant 124 [.ref b, .long (pk l), .retAddr 2, .int (nI l.length), .int (nI u), .int (nI i), .int v6', .int (nI w)] [] g' Q := by
        intro g' N2 w v6' hw hN' hm' hln' hf'
        have wl := (List.getElem?_eq_some_iff.mp hw).1
        have n99 := hN'.1.2.2.2.1
        refine B_Tr_plant_124 (fun _ => B_Tr_plant_131 ?_) (fun z => absurd z (nI_neg1 (by omega)))
        rw [nI_1]
        exact ih (i + 1) w g' N2 _ _ (by omega) (by omega) hw hN' hm' hln' hf'
      have here := hN2.2.2.2.1 u _ hu
      have ch : h_i (w_i g (b + 5) u ((1 : Int32) &&& 1)) (b + 1) (u * 28 + s) = nd N' (l.take (i + 1)) := by
        rw [here.2.2.2.2 s hs.2, tk]
      have hmm : l.take (i + 1) ∈ N' → ∀ x, x ∈ N' ↔ x ∈ N ∨ ∃ j, j ≤ i + 1 ∧ x = l.take j := fun hin x => by
        constructor
        · intro w
          rcases (hm x).mp w with v | ⟨j, v1, v2⟩
          · exact Or.inl v
          · exact Or.inr ⟨j, by omega, v2⟩
        · rintro (w | ⟨j, w1, w2⟩)
          · exact (hm x).mpr (Or.inl w)
          · by_cases y : j = i + 1
            · rw [w2, y]
              exact hin
            · exact (hm x).mpr (Or.inr ⟨j, by omega, w2⟩)
      refine B_Tr_plant_19 hTg.1 hTg.2.2.2.2.2.1.1 hTg.2.2.2.2.2.1.2 (vp_in_nI (by omega) (by omega)) hTg.2.1.1 hTg.2.1.2 vix (fun z => ?_) (fun z => ?_) <;> rw [nI_clamp (show u < 2 ^ 31 by omega)] at z ⊢ <;> rw [eix, nI_clamp (show u * 28 + s < 2 ^ 31 by omega), ch] at z ⊢ <;> generalize w_i g (b + 5) u ((1 : Int32) &&& 1) = g2 at hN2 f2 here ⊢
      · by_cases hin : l.take (i + 1) ∈ N'
        · obtain ⟨w, hw⟩ := List.mem_iff_getElem?.mp hin
          rw [nd_at hN2.1.1 hw]
          exact go g2 N' w _ hw hN2 (hmm hin) (by omega) f2
        · exact absurd (nd_no hin) z
      · have hin : ¬ l.take (i + 1) ∈ N' := fun hin => by
          obtain ⟨w, hw⟩ := List.mem_iff_getElem?.mp hin
          have wl := (List.getElem?_eq_some_iff.mp hw).1
          have n99 := hN2.1.2.2.2.1
          rw [nd_at hN2.1.1 hw] at z
          exact nI_neg1 (by omega) z
        have hT2 := hT.fr f2
        have e9 := hN2.2.1
        have hin' : ¬ l.take i ++ [s] ∈ N' := by rw [← tk]; exact hin
        refine B_Tr_plant_50 hT2.1 (fun q => ?_) (fun _ => ?_)
        · rw [e9, show (99 : Int32) = nI 99 from rfl, nI_leI (by omega) (by omega)] at q
          omega
        have rd : h_i (w_i (w_i g2 b 9 (h_i g2 b 9 + 1)) (b + 1) (u * 28 + s) (h_i g2 b 9)) (b + 3) u = nI (l.take i).length := by
          rw [wi_ne _ _ (by omega), wi_ne _ _ (by omega)]
          exact here.1
        refine B_Tr_plant_59 hT2.1 hT2.2.1.1 hT2.2.1.2 vix hT2.2.2.2.1.1 hT2.2.2.2.1.2 (vp_in_nI (by omega) (by omega)) (by rw [e9]; exact vp_in_nI (by omega) (by omega)) ?_
        rw [eix, nI_clamp (show u * 28 + s < 2 ^ 31 by omega), nI_clamp (show u < 2 ^ 31 by omega), rd, e9, nI_clamp (show N'.length < 2 ^ 31 by omega), nI_1, nI_1]
        have f3 : Fr (Wpl b) h (w_i (w_i (w_i g2 b 9 (nI (N'.length + 1))) (b + 1) (u * 28 + s) (nI N'.length)) (b + 3) N'.length (nI ((l.take i).length + 1))) := f2.tr (((Fr.wi _ _ (Or.inr ⟨rfl, rfl⟩)).tr (Fr.wi _ _ (Or.inl (Or.inl rfl)))).tr (Fr.wi _ _ (Or.inl (Or.inr ⟨by omega, by omega⟩))))
        have hT3 := hT.fr f3
        refine B_Tr_plant_106 hT3.1 hT3.2.2.2.2.2.2.1.1 hT3.2.2.2.2.2.2.1.2 (vp_in_nI (by omega) (by omega)) hT3.2.2.2.2.2.2.2.1.1 hT3.2.2.2.2.2.2.2.1.2 (vp_in_nI (by omega) (by omega)) ?_
        rw [nI_clamp (show N'.length < 2 ^ 31 by omega)]
        have f4 : Fr (Wpl b) h (w_i (w_i (w_i (w_i (w_i g2 b 9 (nI (N'.length + 1))) (b + 1) (u * 28 + s) (nI N'.length)) (b + 3) N'.length (nI ((l.take i).length + 1))) (b + 6) N'.length (nI u)) (b + 7) N'.length (nI s)) := f3.tr ((Fr.wi _ _ (Or.inl (Or.inr ⟨by omega, by omega⟩))).tr (Fr.wi _ _ (Or.inl (Or.inr ⟨by omega, by omega⟩))))
        refine go _ (N' ++ [l.take (i + 1)]) N'.length _ ?_ ?_ (fun x => ?_) ?_ f4
        · rw [List.getElem?_append_right (Nat.le_refl _), Nat.sub_self]
          rfl
        · rw [tk]
          have pick : ∀ (j a : Nat) (p q : Int32), (if j = a then p else q) = if j = a then p else q := fun _ _ _ _ => rfl
          refine hN2.node hs.2 hu hin' (by rw [← tk]; exact ⟨fun y hy => hl.1 y (List.mem_of_mem_take hy), by rw [List.length_take]; omega⟩) (by omega) ?_ (fun j => ?_) (fun j => ?_) (fun j => ?_) (fun j => ?_) (fun j => ?_) (fun j => ?_)
          · rw [wi_ne _ _ (by omega), wi_ne _ _ (by omega), wi_ne _ _ (by omega), wi_ne _ _ (by omega), wi_eq]
          · rw [wi_ne _ _ (by omega), wi_ne _ _ (by omega), wi_ne _ _ (by omega), wi_ne _ _ (by omega), wi_ne _ _ (by omega)]
          · rw [wi_ne _ _ (by omega), wi_ne _ _ (by omega), wi_ne _ _ (by omega), wi_ne _ _ (by omega), wi_ne _ _ (by omega)]
          · rw [wi_ne _ _ (by omega), wi_ne _ _ (by omega)]
            by_cases y : j = N'.length
            · rw [if_pos y, y, wi_eq]
            · rw [if_neg y, wi_ne _ _ (by omega), wi_ne _ _ (by omega), wi_ne _ _ (by omega)]
          · rw [wi_ne _ _ (by omega)]
            by_cases y : j = N'.length
            · rw [if_pos y, y, wi_eq]
            · rw [if_neg y, wi_ne _ _ (by omega), wi_ne _ _ (by omega), wi_ne _ _ (by omega), wi_ne _ _ (by omega)]
          · by_cases y : j = N'.length
            · rw [if_pos y, y, wi_eq]
            · rw [if_neg y, wi_ne _ _ (by omega), wi_ne _ _ (by omega), wi_ne _ _ (by omega), wi_ne _ _ (by omega), wi_ne _ _ (by omega)]
          · rw [wi_ne _ _ (by omega), wi_ne _ _ (by omega), wi_ne _ _ (by omega)]
            by_cases y : j = u * 28 + s
            · rw [if_pos y, y, wi_eq]
            · rw [if_neg y, wi_ne _ _ (by omega), wi_ne _ _ (by omega)]
        · rw [List.mem_append, List.mem_singleton, hm]
          constructor
          · rintro ((w | ⟨j, w1, w2⟩) | w)
            · exact Or.inl w
            · exact Or.inr ⟨j, by omega, w2⟩
            · exact Or.inr ⟨i + 1, Nat.le_refl _, w⟩
          · rintro (w | ⟨j, w1, w2⟩)
            · exact Or.inl (Or.inl w)
            · by_cases y : j = i + 1
              · rw [y] at w2
                exact Or.inr w2
              · exact Or.inl (Or.inr ⟨j, by omega, w2⟩)
        · rw [List.length_append]
          show N'.length + 1 ≤ _
          omega
  have root := hc.1.2.1
  refine loop _ 0 0 h N _ _ rfl (Nat.zero_le _) root (hc.cg (fun x => ⟨Or.inl, fun w => w.elim id (fun ⟨j, j1, _⟩ => absurd j1 (by omega))⟩) (fun _ => Iff.rfl)) (fun x => ⟨Or.inl, fun w => w.elim id (fun ⟨j, j1, j2⟩ => ?_)⟩) (by omega) (Fr.rf _ _)
  rw [show j = 0 by omega] at j2
  rw [j2]
  exact List.mem_of_getElem? root
