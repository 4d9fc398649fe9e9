/-! whether all parts now, on the reference's side: ends of groups one by one -/
def rwK (gs : List (List Nat)) (k : Nat) : List Nat := (gs.getD (k / 8) []).drop (k % 8)
def okK (gs : List (List Nat)) (m k : Nat) : Prop := k / 8 < gs.length ∧ inm m (k / 8) ∧ 0 < k % 8 ∧ k % 8 < (gs.getD (k / 8) []).length
def addK (K : List Nat) (k : Nat) : List Nat := if k ∈ K then K else K ++ [k]
def CLi (h : PH) (K : List Nat) : Prop := h_i h 17 74 = nI K.length ∧ (∀ j k, K[j]? = some k → h_i h 60 j = nI k) ∧ (∀ k, k < 112 → h_i h 61 k = (if k ∈ K then 1 else 0)) ∧ K.Nodup ∧ ∀ k ∈ K, k < 112
def Wpn (c k : Nat) : Prop := c = 60 ∨ c = 61 ∨ (c = 17 ∧ k = 74)
theorem CLi.len {h : PH} {K : List Nat} (hc : CLi h K) : K.length ≤ 112 := by
  have h1 : K ⊆ List.range 112 := fun k hk => List.mem_range.mpr (hc.2.2.2.2 k hk)
  have h2 := hc.2.2.2.1.length_le_of_subset h1
  rw [List.length_range] at h2
  exact h2
theorem nd_lt {K : List Nat} {k : Nat} (hn : K.Nodup) (hk : ∀ x ∈ K, x < 112) (h : k < 112) (hno : ¬ k ∈ K) : K.length < 112 := by
  have h0 : (k :: K).Nodup := List.nodup_cons.mpr ⟨hno, hn⟩
  have h1 : (k :: K) ⊆ List.range 112 := fun x hx => by
    rcases List.mem_cons.mp hx with y | y
    · rw [y]
      exact List.mem_range.mpr h
    · exact List.mem_range.mpr (hk x y)
  have h2 := h0.length_le_of_subset h1
  rw [List.length_range, List.length_cons] at h2
  omega
theorem addK_m {K : List Nat} {k x : Nat} : x ∈ addK K k ↔ x ∈ K ∨ x = k := by
  unfold addK
  by_cases z : k ∈ K
  · rw [if_pos z]
    exact ⟨Or.inl, fun y => y.elim id (fun w => by rw [w]; exact z)⟩
  · rw [if_neg z, List.mem_append, List.mem_singleton]
theorem addK_p (K : List Nat) (k : Nat) : ∃ N, addK K k = K ++ N := by
  unfold addK
  by_cases z : k ∈ K
  · rw [if_pos z]
    exact ⟨[], (List.append_nil _).symm⟩
  · rw [if_neg z]
    exact ⟨[k], rfl⟩
theorem md_comesIn {d : Nat} {h : PH} {Q : PQ} {K : List Nat} {g i : Nat} (hM : MdS h) (hc : CLi h K) (hb : 8 * g + i < 112) (k : ∀ h', CLi h' (addK K (8 * g + i)) → Fr Wpn h h' → Q (some (.int 1)) h') : wpm (d + 1) 270 [.ref 17, .int (nI g), .int (nI i)] h Q := by
  refine wpm_in P_Md_comesIn rfl (by decide) (by show ¬ 3 < 3; decide) ?_
  have e8 : ((8 : Int32) * nI g) + nI i = nI (8 * g + i) := by rw [show (8 : Int32) = nI 8 from rfl, nI_mulN, nI_add]
  obtain ⟨c1, c2, c3, c4, c5⟩ := hc
  have vb : vp_in (((8 : Int32) * nI g) + nI i) 112 := by
    rw [e8]
    exact vp_in_nI hb (by omega)
  refine B_Md_comesIn_0 hM.1 (mr_isIn hM) (ms_isIn hM) vb (fun z => B_Md_comesIn_51 ?_) (fun z => ?_)
  · rw [e8, nI_clamp (by omega), c3 _ hb] at z
    have hin : 8 * g + i ∈ K := by
      by_cases y : 8 * g + i ∈ K
      · exact y
      · rw [if_neg y] at z
        exact absurd rfl z
    refine k h ?_ (Fr.rf _ _)
    unfold addK
    rw [if_pos hin]
    exact ⟨c1, c2, c3, c4, c5⟩
  · rw [e8, nI_clamp (by omega), c3 _ hb] at z
    have hno : ¬ 8 * g + i ∈ K := fun y => by
      rw [if_pos y] at z
      exact absurd z (by decide)
    have kl := nd_lt c4 c5 hb hno
    have e1 : h_i (w_i h 61 (8 * g + i) ((1 : Int32) &&& 1)) 17 74 = nI K.length := (wi_ne _ _ (by omega)).trans c1
    refine B_Md_comesIn_14 hM.1 (mr_isIn hM) (ms_isIn hM) vb (mr_line hM) (ms_line hM) (by rw [e8, nI_clamp (by omega), e1]; exact vp_in_nI kl (by omega)) (B_Md_comesIn_51 ?_)
    rw [e8, nI_clamp (by omega), e1, nI_clamp (by omega), wi_ne _ _ (by omega), e1, nI_1]
    refine k _ ?_ ((Fr.wi h _ (Or.inr (Or.inl rfl))).tr ((Fr.wi _ _ (Or.inl rfl)).tr (Fr.wi _ _ (Or.inr (Or.inr ⟨rfl, rfl⟩)))))
    unfold addK
    rw [if_neg hno]
    refine ⟨?_, fun j x hj => ?_, fun x hx => ?_, List.nodup_append.mpr ⟨c4, List.nodup_cons.mpr ⟨List.not_mem_nil, List.nodup_nil⟩, fun a ha b hb' y => ?_⟩, fun x hx => ?_⟩
    · rw [wi_eq, List.length_append]
      rfl
    · rw [wi_ne _ _ (by omega)]
      by_cases y : j = K.length
      · rw [y, List.getElem?_append_right (Nat.le_refl _), Nat.sub_self] at hj
        have : 8 * g + i = x := Option.some.inj hj
        rw [y, wi_eq, this]
      · have jl := (List.getElem?_eq_some_iff.mp hj).1
        rw [List.length_append] at jl
        have jl' : j < K.length := by
          have : [8 * g + i].length = 1 := rfl
          omega
        rw [List.getElem?_append_left jl'] at hj
        rw [wi_ne _ _ (by omega), wi_ne _ _ (by omega)]
        exact c2 j x hj
    · rw [wi_ne _ _ (by omega), wi_ne _ _ (by omega)]
      by_cases y : x = 8 * g + i
      · rw [y, wi_eq, if_pos (List.mem_append_right _ (List.mem_singleton.mpr rfl))]
        rfl
      · rw [wi_ne _ _ (by omega), c3 x hx]
        by_cases w : x ∈ K
        · rw [if_pos w, if_pos (List.mem_append_left _ w)]
        · rw [if_neg w, if_neg (fun q => (List.mem_append.mp q).elim w (fun u => y (List.mem_singleton.mp u)))]
    · rw [List.mem_singleton.mp hb'] at y
      rw [y] at ha
      exact hno ha
    · rcases List.mem_append.mp hx with y | y
      · exact c5 x y
      · rw [List.mem_singleton.mp y]
        exact hb
theorem dv8 : ∀ v : Nat, v < 112 → nI v / (8 : Int32) = nI (v / 8) ∧ nI v - nI v / (8 : Int32) * (8 : Int32) = nI (v % 8) := by decide +kernel
def OKK (gs : List (List Nat)) (m : Nat) (K : List Nat) : Prop := ∀ k ∈ K, okK gs m k ∧ DvR gs m (rwK gs k)
theorem rwK_at {gs : List (List Nat)} {g i : Nat} (hi : i < 8) : rwK gs (8 * g + i) = (gs.getD g []).drop i := by
  unfold rwK
  rw [show (8 * g + i) / 8 = g by omega, show (8 * g + i) % 8 = i by omega]
/-- what one end and one group ask for -/
def stK (gs : List (List Nat)) (m k b : Nat) (K : List Nat) : Prop := inm m b → gs.getD b [] ≠ rwK gs k ∧ (gs.getD b [] = (rwK gs k).take (gs.getD b []).length → (k + (gs.getD b []).length) ∈ K) ∧ (rwK gs k = (gs.getD b []).take (rwK gs k).length → (8 * b + (rwK gs k).length) ∈ K)
theorem stK_up {gs : List (List Nat)} {m k b : Nat} {K K' : List Nat} (h : stK gs m k b K) (hs : ∀ x ∈ K, x ∈ K') : stK gs m k b K' := fun z => ⟨(h z).1, fun y => hs _ ((h z).2.1 y), fun y => hs _ ((h z).2.2 y)⟩
theorem Kcl {gs : List (List Nat)} {m : Nat} {K : List Nat} (ho : okg gs m) (hK : OKK gs m K) (h1 : ∀ a b, a < gs.length → b < gs.length → abC m a b → gs.getD a [] = (gs.getD b []).take (gs.getD a []).length → (8 * b + (gs.getD a []).length) ∈ K) (h2 : ∀ k ∈ K, ∀ b, b < gs.length → stK gs m k b K) : ∀ j r, (RSd gs m j).2 r → ∃ k ∈ K, rwK gs k = r
  | 0, r, ⟨r0, a, b, la, ab, ga, gb, ma, mb⟩ => by
    have l7 := ((ho.at gb).1).2
    rw [List.length_append] at l7
    have r1 := List.length_pos_iff.mpr r0
    have := h1 a b (gL ga) (gL gb) ⟨ab, ma, mb⟩ (by rw [gD ga, gD gb, List.take_left])
    rw [gD ga] at this
    refine ⟨_, this, ?_⟩
    rw [rwK_at (by omega), gD gb, List.drop_left]
  | j + 1, r, ⟨⟨t, t1, t2, l, ⟨b, b1, b2⟩, t3⟩, _, _⟩ => by
    obtain ⟨k, k1, k2⟩ := Kcl ho hK h1 h2 j t t1
    obtain ⟨s1, s2, s3⟩ := h2 k k1 b (gL b1) b2
    rw [gD b1, k2] at s2 s3
    have l7 := ((ho.at b1).1).2
    have r1 := List.length_pos_iff.mpr t2
    obtain ⟨⟨o1, o2, o3, o4⟩, _⟩ := hK k k1
    have kk : k = 8 * (k / 8) + k % 8 := by omega
    have t7 := ((ho.at (gS o1)).1).2
    have tl : t.length = (gs.getD (k / 8) []).length - k % 8 := by
      rw [← k2]
      unfold rwK
      rw [List.length_drop]
    rcases t3 with t3 | t3
    · have := s3 (by rw [t3, List.take_left])
      refine ⟨_, this, ?_⟩
      rw [t3, List.length_append] at l7
      rw [rwK_at (by omega), gD b1, t3, List.drop_left]
    · have := s2 (by rw [t3, List.take_left])
      refine ⟨_, this, ?_⟩
      have q := congrArg List.length t3
      rw [List.length_append] at q
      rw [kk, Nat.add_assoc, rwK_at (by omega), ← List.drop_drop]
      have e : (gs.getD (k / 8) []).drop (k % 8) = t := k2
      rw [e, t3, List.drop_left]
