/-! look on the class's side: all passes, two groups, the answer -/
def icV (gs : List (List Nat)) (f : List Nat → Nat) (a b : Nat) : Nat := cpl (gs.getD a []) (gs.getD b []) + (if gs.getD a [] = (gs.getD b []).take (gs.getD a []).length then f ((gs.getD b []).drop (gs.getD a []).length) else 0)
abbrev abC (m a b : Nat) : Prop := ¬ a = b ∧ inm m a ∧ inm m b
def lkB (gs : List (List Nat)) (m : Nat) (f : List Nat → Nat) (a : Nat) : Nat → Nat → Nat → Nat
  | 0, _, v => v
  | e + 1, b, v => lkB gs m f a e (b + 1) (if abC m a b then (if v < icV gs f a b then icV gs f a b else v) else v)
def lkA (gs : List (List Nat)) (m : Nat) (f : List Nat → Nat) : Nat → Nat → Nat → Nat
  | 0, _, v => v
  | e + 1, a, v => lkA gs m f e (a + 1) (lkB gs m f a gs.length 0 v)
def allL (gs : List (List Nat)) (m : Nat) : List (List Nat) := rowsT (allR gs m).1.flatten
def lookR (gs : List (List Nat)) (m : Nat) : Int32 := if (allR gs m).2 = none then (if (lkP gs m (allL gs m) ((allL gs m).length + 2) (fun _ => 0, true)).2 = true then -1 else nI (lkA gs m (lkP gs m (allL gs m) ((allL gs m).length + 2) (fun _ => 0, true)).1 gs.length 0 0)) else -1
theorem allL_cov {gs : List (List Nat)} {m : Nat} (ho : okg gs m) : CovL gs m (allL gs m) := fun r => by
  obtain ⟨s1, _, _⟩ := allR_S ho
  unfold allL
  constructor
  · intro h
    obtain ⟨t, t1, t2⟩ := List.mem_map.mp h
    obtain ⟨C, c1, c2⟩ := List.mem_flatten.mp t1
    obtain ⟨j, hj⟩ := List.mem_iff_getElem?.mp c1
    exact ⟨j, (s1 j r).mp ⟨C, hj, List.mem_map.mpr ⟨t, c2, t2⟩⟩⟩
  · rintro ⟨j, hj⟩
    obtain ⟨C, c1, c2⟩ := (s1 j r).mpr hj
    obtain ⟨t, t1, t2⟩ := List.mem_map.mp c2
    exact List.mem_map.mpr ⟨t, List.mem_flatten.mpr ⟨C, List.mem_of_getElem? c1, t1⟩, t2⟩
theorem flat_nd {gs : List (List Nat)} {m : Nat} : ∀ (RL : List TL) (q : Nat), (∀ j x, (∃ C, RL[j]? = some C ∧ x ∈ rowsT C) → (RSd gs m (q + j)).2 x) → (∀ C ∈ RL, (rowsT C).Pairwise (fun a b => kyl a < kyl b)) → (rowsT RL.flatten).Nodup
  | [], _, _, _ => List.nodup_nil
  | C :: RL, q, h1, h2 => by
    have e : rowsT (C :: RL).flatten = rowsT C ++ rowsT RL.flatten := by
      unfold rowsT
      rw [List.flatten_cons, List.map_append]
    rw [e]
    refine List.nodup_append.mpr ⟨(h2 C (List.mem_cons_self ..)).imp (fun {a b} z y => by rw [y] at z; omega), flat_nd (gs := gs) (m := m) RL (q + 1) (fun j x h => ?_) (fun D hD => h2 D (List.mem_cons_of_mem _ hD)), fun a ha b hb y => ?_⟩
    · have := h1 (j + 1) x h
      rw [show q + (j + 1) = q + 1 + j by omega] at this
      exact this
    · rw [← y] at hb
      obtain ⟨t, t1, t2⟩ := List.mem_map.mp hb
      obtain ⟨D, d1, d2⟩ := List.mem_flatten.mp t1
      obtain ⟨j, hj⟩ := List.mem_iff_getElem?.mp d1
      have x1 := h1 0 a ⟨C, rfl, ha⟩
      have x2 := h1 (j + 1) a ⟨D, hj, List.mem_map.mpr ⟨t, d2, t2⟩⟩
      have := RSd_dis x1 x2
      omega
theorem allL_nd {gs : List (List Nat)} {m : Nat} (ho : okg gs m) : (allL gs m).Nodup := by
  obtain ⟨s1, s2, _⟩ := allR_S ho
  exact flat_nd (gs := gs) (m := m) _ 0 (fun j x h => by rw [Nat.zero_add]; exact (s1 j x).mp h) (fun C hC => (s2 C hC).2)
theorem allL_84 {gs : List (List Nat)} {m : Nat} (ho : okg gs m) : (allL gs m).length ≤ 84 := isE_len ho (allL_nd ho) (fun r hr => DvR_E ho ((allL_cov ho r).mp hr))
theorem icV_b {gs : List (List Nat)} {m a b B : Nat} {f : List Nat → Nat} (ho : okg gs m) (ha : a < gs.length) (h : ∀ x, f x ≤ B) : icV gs f a b ≤ B + 7 := by
  unfold icV
  have c := cpl_le (gs.getD a []) (gs.getD b [])
  have l7 := ((ho.at (gS ha)).1).2
  by_cases z : gs.getD a [] = (gs.getD b []).take (gs.getD a []).length
  · rw [if_pos z]
    have := h ((gs.getD b []).drop (gs.getD a []).length)
    omega
  · rw [if_neg z]
    omega
theorem fs_Dv {gs : List (List Nat)} {m a b : Nat} (ho : okg gs m) (hu : unlk gs) (ha : a < gs.length) (hb : b < gs.length) (hc : abC m a b) (hp : gs.getD a [] = (gs.getD b []).take (gs.getD a []).length) : (gs.getD a []).length < (gs.getD b []).length ∧ DvR gs m ((gs.getD b []).drop (gs.getD a []).length) := by
  have ll : (gs.getD a []).length < (gs.getD b []).length := by
    have h1 := congrArg List.length hp
    rw [List.length_take] at h1
    by_cases w : (gs.getD a []).length = (gs.getD b []).length
    · rw [w, List.take_length] at hp
      exact absurd (hu a b ha hb hp) hc.1
    · omega
  refine ⟨ll, 0, ?_, a, b, _, hc.1, gS ha, ?_, hc.2.1, hc.2.2⟩
  · intro w
    have := congrArg List.length w
    rw [List.length_drop] at this
    have h0 : ([] : List Nat).length = 0 := rfl
    omega
  · rw [gS hb, ← tak_app hp]
theorem ta_inCommon {d : Nat} {h : PH} {Q : PQ} {b o i j : Nat} {gs : List (List Nat)} {m B : Nat} {ts : TL} {f : List Nat → Nat} (hT : TaS h b) (hG : GrS h o) (hg : CGr h o gs m) (hu : unlk gs) (hc : CTa h b ts) (hcov : CovL gs m (rowsT ts)) (hd : CDp h b (rowsT ts) f) (hi : i < gs.length) (hj : j < gs.length) (hij : abC m i j) (k : Q (some (.int (nI (icV gs f i j)))) h) : wpm (d + 3) 79 [.ref b, .ref o, .int (nI i), .int (nI j)] h Q := by
  refine wpm_in P_Ta_inCommon rfl (by decide) (by show ¬ 6 < 4; decide) ?_
  have ho := hg.1
  have gi := gS hi
  have gj := gS hj
  obtain ⟨a1, a2, a3⟩ := ho.at gi
  obtain ⟨b1, b2, b3⟩ := ho.at gj
  have a7 := a1.2
  have b7 := b1.2
  have vi : vp_in (nI i) 14 := vp_in_nI a3 (by omega)
  have vj : vp_in (nI j) 14 := vp_in_nI b3 (by omega)
  obtain ⟨x1, x2⟩ := hg.2.2.2 i _ gi
  obtain ⟨y1, y2⟩ := hg.2.2.2 j _ gj
  have c1 := cpl_len (gs.getD i []) (gs.getD j [])
  have c3 := cpl_le (gs.getD i []) (gs.getD j [])
  refine B_Ta_inCommon_0 hG.1 hG.2.1.1 hG.2.1.2 vi hG.2.2.1.1 hG.2.2.1.2 vi vj vj ?_
  rw [nI_clamp (by omega), nI_clamp (by omega), x1, x2, y1, y2]
  refine ow_commonLetters a1 b1 (B_Ta_inCommon_27 hG.1 hG.2.2.1.1 hG.2.2.1.2 vi (fun z => ?_) (fun z => B_Ta_inCommon_40 ?_))
  · rw [nI_clamp (by omega), x2, nI_leI (by omega) (by omega)] at z
    have hp := c1.mp (by omega)
    obtain ⟨ll, dv⟩ := fs_Dv ho hu hi hj hij hp
    have ev : icV gs f i j = cpl (gs.getD i []) (gs.getD j []) + f ((gs.getD j []).drop (gs.getD i []).length) := by
      unfold icV
      rw [if_pos hp]
    rw [ev] at k
    refine B_Ta_inCommon_43 hG.1 hG.2.1.1 hG.2.1.2 vj hG.2.2.1.1 hG.2.2.1.2 vj ?_
    rw [nI_clamp (by omega), y1, y2, nI_subN (by omega)]
    refine ow_lastOf b1 (by omega) ?_
    rw [show (gs.getD j []).length - ((gs.getD j []).length - cpl (gs.getD i []) (gs.getD j [])) = (gs.getD i []).length by omega]
    refine B_Ta_inCommon_62 hT.1 (ta_find hT hc (b1.drop _) (fun hno => ?_) (fun u y hy ey _ => ?_))
    · obtain ⟨v, vv, ee⟩ := List.mem_map.mp ((hcov _).mpr dv)
      exact absurd ee (hno v vv)
    · have u98 := (hc.1.at hy).2.2.2
      have gu : (rowsT ts)[u]? = some ((gs.getD j []).drop (gs.getD i []).length) := by unfold rowsT; rw [List.getElem?_map, hy]; exact congrArg some ey
      refine B_Ta_inCommon_65 (fun _ => B_Ta_inCommon_78 hT.1 hT.2.2.2.2.2.1.1 hT.2.2.2.2.2.1.2 (vp_in_nI u98 (by omega)) (B_Ta_inCommon_88 ?_)) (fun w => absurd w (nI_neg1 (by omega)))
      rw [nI_clamp (by omega), hd u _ gu, nI_add]
      exact k
  · rw [nI_clamp (by omega), x2, nI_leI (by omega) (by omega)] at z
    have ev : icV gs f i j = cpl (gs.getD i []) (gs.getD j []) := by
      unfold icV
      rw [if_neg (fun y => z (by rw [c1.mpr y]; exact Nat.le_refl _))]
      exact Nat.add_zero _
    rw [ev] at k
    exact k
theorem ta_lookAhead {d : Nat} {h : PH} {Q : PQ} {b o : Nat} {gs : List (List Nat)} {m : Nat} (hT : TaS h b) (hG : GrS h o) (hob : o + 5 < b ∨ b + 7 < o) (hg : CGr h o gs m) (hu : unlk gs) (hc : CTs h b (allR gs m)) (k : ∀ h', Fr (fun c _ => b + 5 ≤ c ∧ c ≤ b + 7) h h' → Q (some (.int (lookR gs m))) h') : wpm (d + 4) 78 [.ref b, .ref o] h Q := by
  refine wpm_in P_Ta_lookAhead rfl (by decide) (by show ¬ 6 < 2; decide) ?_
  have ho := hg.1
  have h14 := hg.1.1
  have L84 := allL_84 (gs := gs) (m := m) ho
  have Lcov := allL_cov (gs := gs) (m := m) ho
  have Lnd := allL_nd (gs := gs) (m := m) ho
  unfold lookR at k
  refine B_Ta_lookAhead_0 hT.1 (fun z => B_Ta_lookAhead_10 hT.1 ?_) (fun z => B_Ta_lookAhead_8 ?_)
  · have e0 : (allR gs m).2 = none := by
      have d1 := hc.2.2.1
      cases e : (allR gs m).2 with
      | none => rfl
      | some y =>
        rw [e] at d1
        have d2 : h_i h b 6 = nI y.1 := d1.1
        rw [d2] at z
        exact absurd z (nI_neg1 (by have := d1.2.2; omega))
    rw [if_pos e0] at k
    have cg : ∀ {g : PH}, Fr (fun c _ => b + 5 ≤ c ∧ c ≤ b + 7) h g → CGr g o gs m := fun hf => CGr.fr hf (fun c k z y => by omega) hg
    have ct : ∀ {g : PH}, Fr (fun c _ => b + 5 ≤ c ∧ c ≤ b + 7) h g → CTa g b (allR gs m).1.flatten := fun hf => CTa.fr hf (fun c k z y => by omega) hc.1
    have hlen : (allR gs m).1.flatten.length = (allL gs m).length := by
      unfold allL rowsT
      rw [List.length_map]
    refine ta_prep hT hG hob hg hc.1 (fun r hr s hs => (Lcov s).mpr (DvR_nx ((Lcov r).mp hr) hs)) (fun h1 p1 d1 f1 => B_Ta_lookAhead_15 ?_)
    have hP : ∀ t r, (allL gs m)[t]? = some r → ∀ j, j < gs.length → PLk h1 b gs m (allL gs m) t j r := p1
    have hd1 : CDp h1 b (allL gs m) (fun _ => 0) := d1
    clear p1 d1
    -- the two groups
    have pairs : ∀ (g : PH) (f : List Nat → Nat) (x3 : Int32) (v4 v5 : Value), Fr (fun c _ => b + 5 ≤ c ∧ c ≤ b + 7) h g → CDp g b (allL gs m) f → (∀ x, f x ≤ 2 ^ 28) → Q (some (.int (nI (lkA gs m f gs.length 0 0)))) g → wpx (d + 3) P_Ta_lookAhead 54 [.ref b, .ref o, .int 0, .int x3, v4, v5] [] g Q := by
      intro g f x3 v4 v5 hf hd hb kk
      have hG' := hf.gr hG
      have hT' := hT.fr hf
      have hg' := cg hf
      refine B_Ta_lookAhead_54 ?_
      have inner : ∀ (a : Nat), a < gs.length → ∀ (e j v : Nat), gs.length - j = e → j ≤ gs.length → v ≤ 2 ^ 28 + 7 → (∀ v', v' ≤ 2 ^ 28 + 7 → v' = lkB gs m f a e j v → wpx (d + 3) P_Ta_lookAhead 125 [.ref b, .ref o, .int 0, .int (nI v'), .int (nI a), .int (nI gs.length)] [] g Q) → wpx (d + 3) P_Ta_lookAhead 71 [.ref b, .ref o, .int 0, .int (nI v), .int (nI a), .int (nI j)] [] g Q := by
        intro a ha e
        induction e with
        | zero =>
          intro j v he hj hv kn
          have ej : j = gs.length := by omega
          subst ej
          refine B_Ta_lookAhead_71 hG'.1 (fun _ => kn v hv rfl) (fun q => ?_)
          rw [hg'.2.1, nI_leI (by omega) (by omega)] at q
          omega
        | succ e ih =>
          intro j v he hj hv kn
          have no : ¬ abC m a j → wpx (d + 3) P_Ta_lookAhead 119 [.ref b, .ref o, .int 0, .int (nI v), .int (nI a), .int (nI j)] [] g Q := fun hn => by
            refine B_Ta_lookAhead_119 ?_
            rw [nI_1]
            refine ih (j + 1) v (by omega) (by omega) hv (fun v' h1 h2 => kn v' h1 ?_)
            show v' = lkB gs m f a e (j + 1) (if abC m a j then _ else v)
            rw [if_neg hn]
            exact h2
          refine B_Ta_lookAhead_71 hG'.1 (fun q => ?_) (fun _ => B_Ta_lookAhead_80 (fun q => no (fun y => y.1 ((nI_eq (by omega) (by omega)).mp q))) (fun q0 => B_Ta_lookAhead_87 hG'.1 (gr_isIn hG' hg' ha (fun qa => B_Ta_lookAhead_93 (fun q => absurd q (by decide)) (fun _ => B_Ta_lookAhead_96 hG'.1 (gr_isIn hG' hg' (by omega) (fun qb => B_Ta_lookAhead_102 (fun q => absurd q (by decide)) (fun _ => B_Ta_lookAhead_105 hT'.1 ?_)) (fun qb => B_Ta_lookAhead_102 (fun _ => no (fun y => qb y.2.2)) (fun q => absurd rfl q))))) (fun qa => B_Ta_lookAhead_93 (fun _ => no (fun y => qa y.2.1)) (fun q => absurd rfl q)))))
          · rw [hg'.2.1, nI_leI (by omega) (by omega)] at q
            omega
          · have hab : abC m a j := ⟨fun y => q0 (by rw [y]), qa, qb⟩
            have ib := icV_b (b := j) ho ha hb
            refine ta_inCommon (B := 0) hT' hG' hg' hu (ct hf) Lcov hd ha (by omega) hab (B_Ta_lookAhead_115 ?_)
            have em : (if nI v < nI (icV gs f a j) then nI (icV gs f a j) else nI v) = nI (if v < icV gs f a j then icV gs f a j else v) := by
              by_cases w : v < icV gs f a j
              · rw [if_pos ((nI_ltI (by omega) (by omega)).mpr w), if_pos w]
              · rw [if_neg (fun y => w ((nI_ltI (by omega) (by omega)).mp y)), if_neg w]
            rw [em]
            refine B_Ta_lookAhead_119 ?_
            rw [nI_1]
            refine ih (j + 1) _ (by omega) (by omega) (by
              by_cases w : v < icV gs f a j
              · rw [if_pos w]
                exact ib
              · rw [if_neg w]
                exact hv) (fun v' h1 h2 => kn v' h1 ?_)
            show v' = lkB gs m f a e (j + 1) (if abC m a j then _ else v)
            rw [if_pos hab]
            exact h2
      have outer : ∀ (e a v : Nat) (v5 : Value), gs.length - a = e → a ≤ gs.length → v ≤ 2 ^ 28 + 7 → lkA gs m f e a v = lkA gs m f gs.length 0 0 → wpx (d + 3) P_Ta_lookAhead 59 [.ref b, .ref o, .int 0, .int (nI v), .int (nI a), v5] [] g Q := by
        intro e
        induction e with
        | zero =>
          intro a v v5 he ha hv hl
          refine B_Ta_lookAhead_59 hG'.1 (fun _ => B_Ta_lookAhead_131 ?_) (fun q => ?_)
          · have hl' : v = lkA gs m f gs.length 0 0 := hl
            rw [hl']
            exact kk
          · rw [hg'.2.1, nI_leI (by omega) (by omega)] at q
            omega
        | succ e ih =>
          intro a v v5 he ha hv hl
          refine B_Ta_lookAhead_59 hG'.1 (fun q => ?_) (fun _ => B_Ta_lookAhead_68 (inner a (by omega) gs.length 0 v rfl (Nat.zero_le _) hv (fun v' h1 h2 => B_Ta_lookAhead_125 ?_)))
          · rw [hg'.2.1, nI_leI (by omega) (by omega)] at q
            omega
          · rw [nI_1]
            refine ih (a + 1) v' _ (by omega) (by omega) h1 ?_
            rw [h2]
            exact hl
      exact outer gs.length 0 0 v5 rfl (Nat.zero_le _) (Nat.zero_le _) rfl
    have done : ∀ (g : PH) (s : (List Nat → Nat) × Bool) (x3 : Int32) (v4 v5 : Value), Fr (fun c _ => b + 5 ≤ c ∧ c ≤ b + 7) h g → CDp g b (allL gs m) s.1 → (∀ x, s.1 x ≤ 2 ^ 28) → s = lkP gs m (allL gs m) ((allL gs m).length + 2) (fun _ => 0, true) → wpx (d + 3) P_Ta_lookAhead 48 [.ref b, .ref o, .int (if s.2 = true then 1 else 0), .int x3, v4, v5] [] g Q := by
      intro g s x3 v4 v5 hf hd hb hs
      have kg := k g hf
      rw [← hs] at kg
      by_cases w : s.2 = true
      · rw [if_pos w] at kg ⊢
        exact B_Ta_lookAhead_48 (fun z => absurd z (by decide)) (fun _ => B_Ta_lookAhead_52 kg)
      · rw [if_neg w] at kg ⊢
        exact B_Ta_lookAhead_48 (fun _ => pairs g s.1 x3 v4 v5 hf hd hb kg) (fun z => absurd rfl z)
    have loop : ∀ (P p : Nat) (g : PH) (s : (List Nat → Nat) × Bool) (v4 v5 : Value), P + p = (allL gs m).length + 2 → Fr (fun c _ => b + 5 ≤ c ∧ c ≤ b + 7) h g → Fr (fun c _ => c = b + 5) h1 g → CDp g b (allL gs m) s.1 → (∀ x, s.1 x ≤ 9604 * p) → lkP gs m (allL gs m) P s = lkP gs m (allL gs m) ((allL gs m).length + 2) (fun _ => 0, true) → wpx (d + 3) P_Ta_lookAhead 19 [.ref b, .ref o, .int (if s.2 = true then 1 else 0), .int (nI p), v4, v5] [] g Q := by
      intro P
      induction P with
      | zero =>
        intro p g s v4 v5 hPp hf hf1 hd hb hs
        refine B_Ta_lookAhead_19 (hT.fr hf).1 (fun _ => done g s _ v4 v5 hf hd (fun x => Nat.le_trans (hb x) (by omega)) hs) (fun z => ?_)
        rw [(ct hf).2.1, hlen, show (2 : Int32) = nI 2 from rfl, nI_add, nI_leI (by omega) (by omega)] at z
        omega
      | succ P ih =>
        intro p g s v4 v5 hPp hf hf1 hd hb hs
        have hT' := hT.fr hf
        have hG' := hf.gr hG
        refine B_Ta_lookAhead_19 hT'.1 (fun z => ?_) (fun _ => ?_)
        · rw [(ct hf).2.1, hlen, show (2 : Int32) = nI 2 from rfl, nI_add, nI_leI (by omega) (by omega)] at z
          omega
        by_cases w : s.2 = true
        · rw [if_pos w]
          refine B_Ta_lookAhead_29 (fun z => absurd z (by decide)) (fun _ => B_Ta_lookAhead_33 hG'.1 hT'.1 ?_)
          rw [(cg hf).2.1]
          refine ta_deepen (B := 9604 * p) ho hT' ((ct hf).2.1.trans (by rw [hlen])) (by omega) Lnd (fun t r ht j hj => (hP t r ht j hj).fr hf1 (by omega) (by omega)) hd hb (by omega) (fun g' d' f' => B_Ta_lookAhead_41 ?_)
          rw [nI_1]
          have b1 := lkT_b (m := m) ho (allL gs m) (9604 * p) (s.1, false) hb
          refine ih (p + 1) g' _ _ _ (by omega) (hf.tr (f'.up (fun c k z => by omega))) (hf1.tr f') d' (fun x => Nat.le_trans (b1 x) (by omega)) ?_
          rw [← hs]
          show _ = (if s.2 = false then s else _)
          rw [if_neg (by rw [w]; decide)]
        · rw [if_neg w]
          have w0 : s.2 = false := by
            cases e : s.2 with
            | true => exact absurd e w
            | false => rfl
          have hs' : s = lkP gs m (allL gs m) ((allL gs m).length + 2) (fun _ => 0, true) := by
            rw [← hs]
            show _ = (if s.2 = false then s else _)
            rw [if_pos w0]
          have dn := done g s (nI p) v4 v5 hf hd (fun x => Nat.le_trans (hb x) (by omega)) hs'
          rw [if_neg w] at dn
          exact B_Ta_lookAhead_29 (fun _ => dn) (fun z => absurd rfl z)
    have h0 : ∀ x : List Nat, ((fun _ => 0 : List Nat → Nat), true).1 x ≤ 9604 * 0 := fun x => Nat.zero_le _
    exact loop ((allL gs m).length + 2) 0 h1 (fun _ => 0, true) _ _ rfl f1 (Fr.rf _ _) hd1 h0 rfl
  · have e0 : ¬ (allR gs m).2 = none := fun e => by
      have d1 := hc.2.2.1
      rw [e] at d1
      exact z d1.1
    rw [if_neg e0] at k
    exact k h (Fr.rf _ _)
theorem ow_look {d : Nat} {h : PH} {Q : PQ} {gs : List (List Nat)} {m t : Nat} (hO : OwS h) (hc : 63 ≤ h_ct h) (hz : CTz h gs m) (hg : CGr h 2 gs m) (hu : unlk gs) (ht : t < 2 ^ 31) (hst : h_i h 2 6 = nI t) (k : ∀ h', Gw (Wlz 6 7 h) h h' → CTz h' gs m → Q (some (.int (lookR gs m))) h') : wpm (d + 7) 130 [.ref 0] h Q := by
  refine wpm_in P_Ow_look rfl (by decide) (by show ¬ 1 < 1; decide) (B_Ow_look_0 hO.1 (ow_freshTails hO hc hz hg ht hst (fun c h1 hG hr hT hs h8 hn => ?_)))
  have hO1 := hG.ow hc hO
  have c63 := hT.2.2.2.2.2.2.2.2.1
  have hg1 : CGr h1 2 gs m := hg.gw hG (by omega) (fun x y z => by
    obtain ⟨c', _, z1, z2⟩ := z
    have hc' : 63 ≤ c' := by
      have q : h_r h 0 6 = some c' := by assumption
      exact ((hz c' q).1).2.2.2.2.2.2.2.2.1
    omega)
  refine B_Ow_look_4 hO1.1 (or_groups hO1) hT.1 (ta_lookAhead hT (GrS_2 hO1) (by omega) hg1 hu hs (fun h2 f2 => B_Ow_look_11 ?_))
  have f2' : Fr (fun c' _ => c ≤ c' ∧ c' ≤ c + 7) h1 h2 := f2.up (fun x k z => by omega)
  have hr2 : h_r h2 0 6 = some c := by rw [f2.2.1]; exact hr
  refine k h2 ?_ (fun c' e => ?_)
  · obtain ⟨a1, a2, a3, a4, a5, a6, a7⟩ := hG
    obtain ⟨b1, b2, b3, b4, b5, b6, b7⟩ := f2'.gw
    refine ⟨b1.trans a1, by omega, by omega, by omega, fun x hx => (b5 x (by omega)).trans (a5 x hx), fun x y hx => ?_, fun x y hx hw => ?_⟩
    · rw [f2'.2.1]
      exact a6 x y hx
    · have q1 := a7 x y hx hw
      have q2 := b7 x y (by omega) (fun z => hw (by
        cases e : h_r h 0 6 with
        | none =>
          have := hn e
          omega
        | some c0 =>
          have e1 : h_r h1 0 6 = some c0 := by
            rcases a6 0 6 (by omega) with q | q
            · rw [q, e]
            · rw [e] at q
              cases q.2
          rw [hr] at e1
          have : c = c0 := Option.some.inj e1
          exact ⟨c0, e, by omega, by omega⟩))
      exact ⟨q2.1.trans q1.1, q2.2.trans q1.2⟩
  · rw [hr2] at e
    have e' : c = c' := Option.some.inj e
    subst e'
    refine ⟨hT.fr f2, fun _ => ?_, fun t' ht' => Or.inr ⟨t', Nat.le_refl _, ?_⟩⟩
    rotate_left
    · rw [← ht', f2.i c 8 (by omega), f2.i 2 6 (by omega)]
      exact h8
    obtain ⟨s1, s2, s3, s4, s5⟩ := hs
    refine ⟨CTa.fr f2 (fun x y z => by omega) s1, (f2.i _ _ (by omega)).trans s2, ?_, fun i hi => (f2.i _ _ (by omega)).trans (s4 i hi), s5⟩
    cases w : (allR gs m).2 with
    | none =>
      rw [w] at s3
      exact ⟨(f2.i _ _ (by omega)).trans s3.1, (f2.i _ _ (by omega)).trans s3.2⟩
    | some y =>
      rw [w] at s3
      exact ⟨(f2.i _ _ (by omega)).trans s3.1, (f2.i _ _ (by omega)).trans s3.2.1, s3.2.2⟩
