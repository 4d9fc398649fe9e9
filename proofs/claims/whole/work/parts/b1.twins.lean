/-! witness on the class's side: the queue of pairs -/
abbrev TwE := List Nat × List Nat × List Nat × Nat
def TwS (h : PH) (b : Nat) : Prop := h_sh h b = some (0, 9) ∧ (h_r h b 0 = some (b + 1) ∧ h_sh h (b + 1) = some (3, 792)) ∧ (h_r h b 1 = some (b + 2) ∧ h_sh h (b + 2) = some (1, 792)) ∧ (h_r h b 2 = some (b + 3) ∧ h_sh h (b + 3) = some (1, 792)) ∧ (h_r h b 3 = some (b + 4) ∧ h_sh h (b + 4) = some (2, 792)) ∧ (h_r h b 4 = some (b + 5) ∧ h_sh h (b + 5) = some (1, 792)) ∧ (h_r h b 9 = some (b + 6) ∧ h_sh h (b + 6) = some (2, 800)) ∧ 63 ≤ b ∧ b + 6 < h_ct h
theorem TwS.gw {W : Nat → Nat → Prop} {h h' : PH} {b : Nat} (hf : Gw W h h') (hr : TwS h b) : TwS h' b := by
  obtain ⟨a0, a1, a2, a3, a4, a5, a6, a10, a11⟩ := hr
  have hs : ∀ c, c < h_ct h → h_sh h' c = h_sh h c := hf.2.2.2.2.1
  have ct := hf.2.1
  exact ⟨(hs _ (by omega)).trans a0, ⟨hf.rs (by omega) a1.1, (hs _ (by omega)).trans a1.2⟩, ⟨hf.rs (by omega) a2.1, (hs _ (by omega)).trans a2.2⟩, ⟨hf.rs (by omega) a3.1, (hs _ (by omega)).trans a3.2⟩, ⟨hf.rs (by omega) a4.1, (hs _ (by omega)).trans a4.2⟩, ⟨hf.rs (by omega) a5.1, (hs _ (by omega)).trans a5.2⟩, ⟨hf.rs (by omega) a6.1, (hs _ (by omega)).trans a6.2⟩, a10, by omega⟩
theorem TwS.fr {W : Nat → Nat → Prop} {h h' : PH} {b : Nat} (hf : Fr W h h') (hr : TwS h b) : TwS h' b := hr.gw hf.gw
def twA (N : List (List Nat)) (q : TwE) : Nat := nix N q.2.1 * 8 + q.2.2.1.length
def Wtw (b x k : Nat) : Prop := (b + 1 ≤ x ∧ x ≤ b + 5) ∨ (x = b ∧ k = 5)
def lnk (h : PH) (b : Nat) (E : List TwE) (e : Nat) (w : List Nat) : Prop := (e = 0 ∧ w = []) ∨ ∃ p s w0 r, p < e ∧ E[p]? = some (w0, r) ∧ 0 < s ∧ s < 28 ∧ h_i h (b + 3) e = nI p ∧ h_i h (b + 4) e = nI s ∧ w = w0 ++ [s]
def okq (N : List (List Nat)) (q : TwE) : Prop := q.2.1 ∈ N ∧ (∃ r, q.2.1 = r ++ q.2.2.1) ∧ q.2.2.1 ∈ N ∧ q.2.2.1.length < 8
def QS (h : PH) (b : Nat) (N : List (List Nat)) (E : List TwE) : Prop := h_i h b 5 = nI E.length ∧ (∀ e q, E[e]? = some q → okq N q ∧ h_i h (b + 2) e = nI (twA N q) ∧ h_i h (b + 5) e = nI q.2.2.2 ∧ lnk h b E e q.1) ∧ (∀ a, a < 792 → bt (h_i h (b + 1) a) (∃ q ∈ E, twA N q = a)) ∧ (E.map (twA N)).Nodup
theorem get_snoc {α : Type} {E : List α} {q p : α} {e : Nat} (h : (E ++ [q])[e]? = some p) : (e < E.length ∧ E[e]? = some p) ∨ (e = E.length ∧ p = q) := by
  have hl := (List.getElem?_eq_some_iff.mp h).1
  rw [List.length_append] at hl
  have h1 : ([q] : List α).length = 1 := rfl
  by_cases y : e < E.length
  · rw [List.getElem?_append_left y] at h
    exact Or.inl ⟨y, h⟩
  · have e0 : e = E.length := by omega
    subst e0
    rw [List.getElem?_append_right (Nat.le_refl _), Nat.sub_self] at h
    exact Or.inr ⟨rfl, (Option.some.inj h).symm⟩
theorem nix_lt {N : List (List Nat)} {x : List Nat} (h : x ∈ N) : nix N x < N.length := (List.getElem?_eq_some_iff.mp (nix_get h)).1
theorem twA_lt {N : List (List Nat)} {q : TwE} (hN : okN N) (h : okq N q) : twA N q < 792 := by
  have h1 := nix_lt h.1
  have h2 := hN.2.2.2.1
  have h3 := h.2.2.2
  unfold twA
  omega
theorem twA_inj {N : List (List Nat)} {q p : TwE} (hq : okq N q) (hp : okq N p) (h : twA N q = twA N p) : q.2.1 = p.2.1 ∧ q.2.2.1 = p.2.2.1 := by
  have h1 := hq.2.2.2
  have h2 := hp.2.2.2
  unfold twA at h
  have e1 : nix N q.2.1 = nix N p.2.1 := by omega
  have e2 : q.2.2.1.length = p.2.2.1.length := by omega
  have e3 : q.2.1 = p.2.1 := by
    have a := nix_get hq.1
    rw [e1, nix_get hp.1] at a
    exact (Option.some.inj a).symm
  obtain ⟨r, er⟩ := hq.2.1
  obtain ⟨r', er'⟩ := hp.2.1
  exact ⟨e3, (List.append_inj' (er.symm.trans (e3.trans er')) e2).2⟩
theorem QS.at {h : PH} {b : Nat} {N : List (List Nat)} {E : List TwE} {q : TwE} (hE : QS h b N E) (hq : q ∈ E) : okq N q := by
  obtain ⟨e, he⟩ := List.getElem?_of_mem hq
  exact (hE.2.1 e q he).1
theorem QS.lt {h : PH} {b a : Nat} {N : List (List Nat)} {E : List TwE} (hN : okN N) (hE : QS h b N E) (ha : a < 792) (hno : ¬ ∃ q ∈ E, twA N q = a) : E.length < 792 := by
  have h0 : (a :: E.map (twA N)).Nodup := List.nodup_cons.mpr ⟨fun z => hno (by obtain ⟨q, hq, e⟩ := List.mem_map.mp z; exact ⟨q, hq, e⟩), hE.2.2.2⟩
  have h1 : (a :: E.map (twA N)) ⊆ List.range 792 := fun x hx => by
    rcases List.mem_cons.mp hx with y | y
    · rw [y]
      exact List.mem_range.mpr ha
    · obtain ⟨q, hq, e⟩ := List.mem_map.mp y
      rw [← e]
      exact List.mem_range.mpr (twA_lt hN (hE.at hq))
  have h2 := h0.length_le_of_subset h1
  rw [List.length_range, List.length_cons, List.length_map] at h2
  omega
theorem QS.le {h : PH} {b : Nat} {N : List (List Nat)} {E : List TwE} (hN : okN N) (hE : QS h b N E) : E.length ≤ 792 := by
  have h1 : E.map (twA N) ⊆ List.range 792 := fun x y => by
    obtain ⟨q, hq, e⟩ := List.mem_map.mp y
    rw [← e]
    exact List.mem_range.mpr (twA_lt hN (hE.at hq))
  have h2 := hE.2.2.2.length_le_of_subset h1
  rw [List.length_range, List.length_map] at h2
  omega
theorem QS.len {h : PH} {b : Nat} {N : List (List Nat)} {E : List TwE} (hE : QS h b N E) : ∀ (n e : Nat) (q : TwE), e ≤ n → E[e]? = some q → q.1.length ≤ e := by
  intro n
  induction n with
  | zero =>
    intro e q he hq
    rcases (hE.2.1 e q hq).2.2.2 with ⟨_, w⟩ | ⟨p, s, w0, r, z, _⟩
    · rw [w]
      exact Nat.zero_le _
    · omega
  | succ n ih =>
    intro e q he hq
    rcases (hE.2.1 e q hq).2.2.2 with ⟨_, w⟩ | ⟨p, s, w0, r, z, hp, _, _, _, _, w⟩
    · rw [w]
      exact Nat.zero_le _
    · have := ih p _ (by omega) hp
      rw [w, List.length_append]
      have h1 : ([s] : List Nat).length = 1 := rfl
      have h2 : ((w0, r) : TwE).1.length = w0.length := rfl
      omega
theorem QS.fr {W : Nat → Nat → Prop} {h h' : PH} {b : Nat} {N : List (List Nat)} {E : List TwE} (hf : Fr W h h') (hw : ∀ x k, W x k → ¬ Wtw b x k) (hE : QS h b N E) : QS h' b N E := by
  have e : ∀ x k, Wtw b x k → h_i h' x k = h_i h x k := fun x k z => hf.i x k (fun q => hw x k q z)
  obtain ⟨c1, c2, c3, c4⟩ := hE
  refine ⟨(e _ _ (Or.inr ⟨rfl, rfl⟩)).trans c1, fun j q hj => ?_, fun a ha => by rw [e _ _ (Or.inl ⟨by omega, by omega⟩)]; exact c3 a ha, c4⟩
  obtain ⟨d1, d2, d3, d4⟩ := c2 j q hj
  refine ⟨d1, by rw [e _ _ (Or.inl ⟨by omega, by omega⟩)]; exact d2, by rw [e _ _ (Or.inl ⟨by omega, by omega⟩)]; exact d3, ?_⟩
  unfold lnk
  rw [e _ _ (Or.inl ⟨by omega, by omega⟩), e _ _ (Or.inl ⟨by omega, by omega⟩)]
  exact d4
theorem QS.add {h h' : PH} {b s : Nat} {N : List (List Nat)} {E : List TwE} {q : TwE} {xp : Int32} (hE : QS h b N E) (hx : okq N q) (hno : ¬ ∃ p ∈ E, twA N p = twA N q) (hl : (E = [] ∧ q.1 = []) ∨ ∃ p w0 r, E[p]? = some (w0, r) ∧ 0 < s ∧ s < 28 ∧ xp = nI p ∧ q.1 = w0 ++ [s]) (g0 : h_i h' b 5 = nI (E.length + 1)) (g1 : ∀ j, h_i h' (b + 1) j = if j = twA N q then 1 else h_i h (b + 1) j) (g2 : ∀ j, h_i h' (b + 2) j = if j = E.length then nI (twA N q) else h_i h (b + 2) j) (g3 : ∀ j, h_i h' (b + 3) j = if j = E.length then xp else h_i h (b + 3) j) (g4 : ∀ j, h_i h' (b + 4) j = if j = E.length then nI s else h_i h (b + 4) j) (g5 : ∀ j, h_i h' (b + 5) j = if j = E.length then nI q.2.2.2 else h_i h (b + 5) j) : QS h' b N (E ++ [q]) := by
  obtain ⟨c1, c2, c3, c4⟩ := hE
  refine ⟨by rw [g0, List.length_append]; rfl, fun e p he => ?_, fun a ha => ?_, ?_⟩
  · rcases get_snoc he with ⟨el, he⟩ | ⟨el, he⟩
    · obtain ⟨d1, d2, d3, d4⟩ := c2 e p he
      have n0 : ¬ e = E.length := by omega
      refine ⟨d1, by rw [g2, if_neg n0]; exact d2, by rw [g5, if_neg n0]; exact d3, ?_⟩
      rcases d4 with z | ⟨p', s', w0, r, z1, z2, z3⟩
      · exact Or.inl z
      · refine Or.inr ⟨p', s', w0, r, z1, by rw [List.getElem?_append_left (by omega)]; exact z2, ?_⟩
        rw [g3, g4, if_neg n0, if_neg n0]
        exact z3
    · subst he
      subst el
      refine ⟨hx, by rw [g2, if_pos rfl], by rw [g5, if_pos rfl], ?_⟩
      rcases hl with ⟨z, z'⟩ | ⟨p', w0, r, z1, z2, z3, z4, z5⟩
      · exact Or.inl ⟨by rw [z]; rfl, z'⟩
      · have pl := (List.getElem?_eq_some_iff.mp z1).1
        exact Or.inr ⟨p', s, w0, r, pl, by rw [List.getElem?_append_left pl]; exact z1, z2, z3, by rw [g3, if_pos rfl, z4], by rw [g4, if_pos rfl], z5⟩
  · rw [g1]
    by_cases y : a = twA N q
    · rw [if_pos y]
      exact ⟨fun _ => rfl, fun z => absurd ⟨q, List.mem_append.mpr (Or.inr (List.mem_singleton.mpr rfl)), y.symm⟩ z⟩
    · rw [if_neg y]
      refine (c3 a ha).cg ⟨fun ⟨p, hp, e⟩ => ⟨p, List.mem_append.mpr (Or.inl hp), e⟩, fun ⟨p, hp, e⟩ => ?_⟩
      rcases List.mem_append.mp hp with z | z
      · exact ⟨p, z, e⟩
      · rw [List.mem_singleton.mp z] at e
        exact absurd e.symm y
  · rw [List.map_append]
    refine nd_snoc c4 (fun z => ?_)
    obtain ⟨p, hp, e⟩ := List.mem_map.mp z
    exact hno ⟨p, hp, e⟩
theorem tw_push {d : Nat} {h : PH} {Q : PQ} {b v s : Nat} {N : List (List Nat)} {E : List TwE} {wn x y : List Nat} {xp : Int32} (hN : okN N) (hS : TwS h b) (hE : QS h b N E) (hv : h_i h b 6 = nI v) (hx : okq N (wn, x, y, v)) (hs : s < 28) (hl : (E = [] ∧ wn = []) ∨ ∃ p w0 r, E[p]? = some (w0, r) ∧ 0 < s ∧ s < 28 ∧ xp = nI p ∧ wn = w0 ++ [s]) (k : ∀ h' E', QS h' b N E' → ((E' = E ∧ ∃ q ∈ E, q.2.1 = x ∧ q.2.2.1 = y) ∨ E' = E ++ [(wn, x, y, v)]) → Fr (Wtw b) h h' → Q none h') : wpm (d + 1) 103 [.ref b, .int (nI (nix N x)), .int (nI y.length), .int xp, .int (nI s)] h Q := by
  refine wpm_in P_Tw_push rfl (by decide) (by show ¬ 6 < 5; decide) ?_
  have a1 : twA N (wn, x, y, v) < 792 := twA_lt hN hx
  have ea : nI (nix N x) * (8 : Int32) + nI y.length = nI (twA N (wn, x, y, v)) := by rw [show (8 : Int32) = nI 8 from rfl, nI_mulN, nI_add]; rfl
  have hle := hE.le hN
  have b63 : 63 ≤ b := hS.2.2.2.2.2.2.2.1
  have mt := hE.2.2.1 _ a1
  refine B_Tw_push_0 (fun z => absurd z (by rw [ea]; exact nI_lt0 (by omega))) (fun _ => ?_)
  rw [ea]
  refine B_Tw_push_13 (fun z => ?_) (fun _ => ?_)
  · rw [show (792 : Int32) = nI 792 from rfl, nI_leI (by omega) (by omega)] at z
    omega
  by_cases hq : ∃ q ∈ E, twA N q = twA N (wn, x, y, v)
  · have fin : Q none h := k h E hE (Or.inl ⟨rfl, by
      obtain ⟨q, h1, h2⟩ := hq
      obtain ⟨e1, e2⟩ := twA_inj (hE.at h1) hx h2
      exact ⟨q, h1, e1, e2⟩⟩) (Fr.rf _ _)
    refine B_Tw_push_21 hS.1 (fun _ => B_Tw_push_41 fin) (fun _ => B_Tw_push_31 hS.1 hS.2.1.1 hS.2.1.2 (vp_in_nI (by omega) (by omega)) (fun z => ?_) (fun _ => B_Tw_push_41 fin))
    rw [nI_clamp (by omega), mt.1 hq] at z
    exact absurd z (by decide)
  · have hlt := hE.lt hN a1 hq
    generalize hA : twA N (wn, x, y, v) = a at a1 mt hq hlt ⊢
    have e11 : (1 : Int32) &&& 1 = 1 := by decide
    refine B_Tw_push_21 hS.1 (fun z => ?_) (fun _ => B_Tw_push_31 hS.1 hS.2.1.1 hS.2.1.2 (vp_in_nI (by omega) (by omega)) (fun _ => ?_) (fun z => ?_))
    · rw [hE.1, show (792 : Int32) = nI 792 from rfl, nI_leI (by omega) (by omega)] at z
      omega
    · have e1 : h_i (w_i h (b + 1) a 1) b 5 = nI E.length := by rw [wi_ne _ _ (by omega), hE.1]
      have e2 : h_i (w_i (w_i h (b + 1) a 1) (b + 2) E.length (nI a)) b 5 = nI E.length := by rw [wi_ne _ _ (by omega), e1]
      refine B_Tw_push_42 hS.1 hS.2.1.1 hS.2.1.2 (vp_in_nI (by omega) (by omega)) hS.2.2.1.1 hS.2.2.1.2 (by rw [nI_clamp (by omega), e11, e1]; exact vp_in_nI (by omega) (by omega)) hS.2.2.2.1.1 hS.2.2.2.1.2 (by rw [nI_clamp (by omega), e11, e1, nI_clamp (by omega), e2]; exact vp_in_nI (by omega) (by omega)) ?_
      rw [nI_clamp (by omega), e11, e1, nI_clamp (by omega), e2, nI_clamp (by omega)]
      have f3 : Fr (Wtw b) h (w_i (w_i (w_i h (b + 1) a 1) (b + 2) E.length (nI a)) (b + 3) E.length xp) := ((Fr.wi _ _ (Or.inl ⟨by omega, by omega⟩)).tr (Fr.wi _ _ (Or.inl ⟨by omega, by omega⟩))).tr (Fr.wi _ _ (Or.inl ⟨by omega, by omega⟩))
      have e3 : h_i (w_i (w_i (w_i h (b + 1) a 1) (b + 2) E.length (nI a)) (b + 3) E.length xp) b 5 = nI E.length := by rw [wi_ne _ _ (by omega), e2]
      have e3v : h_i (w_i (w_i (w_i h (b + 1) a 1) (b + 2) E.length (nI a)) (b + 3) E.length xp) b 6 = nI v := by rw [wi_ne _ _ (by omega), wi_ne _ _ (by omega), wi_ne _ _ (by omega), hv]
      have r1 : ∀ j, h_i (w_i (w_i (w_i h (b + 1) a 1) (b + 2) E.length (nI a)) (b + 3) E.length xp) (b + 1) j = if j = a then 1 else h_i h (b + 1) j := fun j => by
        rw [wi_ne _ _ (by omega), wi_ne _ _ (by omega), h_i_wi]
        by_cases y : j = a
        · rw [if_pos ⟨rfl, y⟩, if_pos y]
        · rw [if_neg (fun z => y z.2), if_neg y]
      have r2 : ∀ j, h_i (w_i (w_i (w_i h (b + 1) a 1) (b + 2) E.length (nI a)) (b + 3) E.length xp) (b + 2) j = if j = E.length then nI a else h_i h (b + 2) j := fun j => by
        rw [wi_ne _ _ (by omega), h_i_wi]
        by_cases y : j = E.length
        · rw [if_pos ⟨rfl, y⟩, if_pos y]
        · rw [if_neg (fun z => y z.2), if_neg y, wi_ne _ _ (by omega)]
      have r3 : ∀ j, h_i (w_i (w_i (w_i h (b + 1) a 1) (b + 2) E.length (nI a)) (b + 3) E.length xp) (b + 3) j = if j = E.length then xp else h_i h (b + 3) j := fun j => by
        rw [h_i_wi]
        by_cases y : j = E.length
        · rw [if_pos ⟨rfl, y⟩, if_pos y]
        · rw [if_neg (fun z => y z.2), if_neg y, wi_ne _ _ (by omega), wi_ne _ _ (by omega)]
      have r4 : ∀ j, h_i (w_i (w_i (w_i h (b + 1) a 1) (b + 2) E.length (nI a)) (b + 3) E.length xp) (b + 4) j = h_i h (b + 4) j := fun j => by rw [wi_ne _ _ (by omega), wi_ne _ _ (by omega), wi_ne _ _ (by omega)]
      have r5 : ∀ j, h_i (w_i (w_i (w_i h (b + 1) a 1) (b + 2) E.length (nI a)) (b + 3) E.length xp) (b + 5) j = h_i h (b + 5) j := fun j => by rw [wi_ne _ _ (by omega), wi_ne _ _ (by omega), wi_ne _ _ (by omega)]
      generalize w_i (w_i (w_i h (b + 1) a 1) (b + 2) E.length (nI a)) (b + 3) E.length xp = g at f3 e3 e3v r1 r2 r3 r4 r5 ⊢
      have hSg := hS.fr f3
      have u1 : h_i (w_i g (b + 4) E.length (nI s)) b 5 = nI E.length := by rw [wi_ne _ _ (by omega), e3]
      have u2 : h_i (w_i g (b + 4) E.length (nI s)) b 6 = nI v := by rw [wi_ne _ _ (by omega), e3v]
      refine B_Tw_push_71 hSg.1 hSg.2.2.2.2.1.1 hSg.2.2.2.2.1.2 (by rw [e3]; exact vp_in_nI (by omega) (by omega)) hSg.2.2.2.2.2.1.1 hSg.2.2.2.2.2.1.2 (by rw [e3, nI_clamp (by omega), t_3 s hs, u1]; exact vp_in_nI (by omega) (by omega)) ?_
      rw [e3, nI_clamp (by omega), t_3 s hs, u1, u2, nI_clamp (by omega)]
      have f5 : Fr (Wtw b) h (w_i (w_i g (b + 4) E.length (nI s)) (b + 5) E.length (nI v)) := (f3.tr (Fr.wi _ _ (Or.inl ⟨by omega, by omega⟩))).tr (Fr.wi _ _ (Or.inl ⟨by omega, by omega⟩))
      have hS5 := hS.fr f5
      refine B_Tw_push_96 hS5.1 ?_
      have u3 : h_i (w_i (w_i g (b + 4) E.length (nI s)) (b + 5) E.length (nI v)) b 5 = nI E.length := by rw [wi_ne _ _ (by omega), u1]
      rw [u3, nI_1]
      refine k _ _ (hE.add (q := (wn, x, y, v)) hx (by rw [hA]; exact hq) hl (wi_eq ..) (fun j => ?_) (fun j => ?_) (fun j => ?_) (fun j => ?_) (fun j => ?_)) (Or.inr rfl) (f5.tr (Fr.wi _ _ (Or.inr ⟨rfl, rfl⟩)))
      · rw [wi_ne _ _ (by omega), wi_ne _ _ (by omega), wi_ne _ _ (by omega), r1, hA]
      · rw [wi_ne _ _ (by omega), wi_ne _ _ (by omega), wi_ne _ _ (by omega), r2, hA]
      · rw [wi_ne _ _ (by omega), wi_ne _ _ (by omega), wi_ne _ _ (by omega), r3]
      · rw [wi_ne _ _ (by omega), wi_ne _ _ (by omega), h_i_wi]
        by_cases y : j = E.length
        · rw [if_pos ⟨rfl, y⟩, if_pos y]
        · rw [if_neg (fun z => y z.2), if_neg y, r4]
      · rw [wi_ne _ _ (by omega), h_i_wi]
        by_cases y : j = E.length
        · rw [if_pos ⟨rfl, y⟩, if_pos y]
        · rw [if_neg (fun z => y z.2), if_neg y, wi_ne _ _ (by omega), r5]
    · rw [nI_clamp (by omega)] at z
      exact absurd (mt.2 hq) z
