/-! share on both sides -/
theorem lN_mulN (a b : Nat) : lN a * lN b = lN (a * b) := (Int64.ofNat_mul a b).symm
theorem lN_addN (a b : Nat) : lN a + lN b = lN (a + b) := (Int64.ofNat_add a b).symm
theorem lrem_mod (x y : Int64) : x - (x / y) * y = x % y := by
  apply Int64.toInt_inj.mp
  have h1 := Int64.le_toInt (x % y)
  have h2 := Int64.toInt_lt (x % y)
  rw [Int64.toInt_sub, Int64.toInt_mul, Int64.toInt_div, Int.bmod_mul_bmod, Int.sub_bmod_bmod, Int.mul_comm (x.toInt.tdiv y.toInt), ← Int.tmod_def, ← Int64.toInt_mod]
  exact Int.bmod_eq_of_le (by omega) (by omega)
theorem lN_rem {u c : Nat} (hu : u < 2 ^ 63) (hc : c < 2 ^ 63) : lN u - lN u / lN c * lN c = lN (u % c) := by
  rw [lrem_mod]
  apply Int64.toInt_inj.mp
  rw [Int64.toInt_mod, lN_toI63 hu, lN_toI63 hc, lN_toI63 (Nat.lt_of_le_of_lt (Nat.mod_le _ _) hu)]
  rfl
def shK (gs : List (List Nat)) (m : Nat) : Nat := max 2 (pop (lset gs m gs.length) 27)
theorem shK_le (gs : List (List Nat)) (m : Nat) : 2 ≤ shK gs m ∧ shK gs m ≤ 27 := by
  have := pop_le (lset gs m gs.length) 27
  unfold shK
  omega
def shU (K : Nat) (gs : List (List Nat)) (m : Nat) : Nat → Nat
  | 0 => 0
  | n + 1 => shU K gs m n + (if inm m n then K ^ (7 - (gs.getD n []).length) else 0)
theorem K7 {K n : Nat} (hK : K ≤ 27) (hn : n ≤ 7) : K ^ n ≤ 10460353203 := by
  have h1 : K ^ n ≤ 27 ^ n := Nat.pow_le_pow_left hK n
  have h2 : 27 ^ n ≤ 27 ^ 7 := Nat.pow_le_pow_right (by omega) hn
  have h3 : (27 : Nat) ^ 7 = 10460353203 := by decide
  omega
theorem shU_le {K : Nat} {gs : List (List Nat)} {m : Nat} (hK : K ≤ 27) : ∀ n, shU K gs m n ≤ n * 10460353203
  | 0 => Nat.le_refl _
  | n + 1 => by
    have := shU_le (gs := gs) (m := m) hK n
    unfold shU
    have h7 := K7 (K := K) (n := 7 - (gs.getD n []).length) hK (by omega)
    rw [Nat.succ_mul]
    split
    · exact Nat.add_le_add this h7
    · exact Nat.add_le_add this (Nat.zero_le _)
/-- the answer -/
def shR (gs : List (List Nat)) (m : Nat) (x : Int32) : Int64 := if x = 0 then lN (shU (shK gs m) gs m gs.length) / lN (Nat.gcd (shU (shK gs m) gs m gs.length) (shK gs m ^ 7)) else if x = 1 then lN (shK gs m ^ 7) / lN (Nat.gcd (shU (shK gs m) gs m gs.length) (shK gs m ^ 7)) else -1
theorem ow_power {d : Nat} {h : PH} {Q : PQ} {a n : Nat} (hn : n < 2 ^ 31) (k : Q (some (.long (lN (a ^ n)))) h) : wpm (d + 1) 159 [.long (lN a), .int (nI n)] h Q := by
  refine wpm_in P_Ow_power rfl (by decide) (by show ¬ 6 < 3; decide) (B_Ow_power_0 ?_)
  have loop : ∀ (c i : Nat), n - i = c → i ≤ n → wpx d P_Ow_power 5 [.long (lN a), .retAddr 2, .int (nI n), .long (lN (a ^ i)), .retAddr 2, .int (nI i)] [] h Q := by
    intro c
    induction c with
    | zero =>
      intro i hc hi
      have ei : i = n := by omega
      subst ei
      refine B_Ow_power_5 (fun _ => B_Ow_power_21 k) (fun q => ?_)
      rw [nI_leI (by omega) (by omega)] at q
      omega
    | succ c ih =>
      intro i hc hi
      refine B_Ow_power_5 (fun q => ?_) (fun _ => B_Ow_power_11 ?_)
      · rw [nI_leI (by omega) (by omega)] at q
        omega
      · rw [lN_mulN, nI_1, ← Nat.pow_succ]
        exact ih (i + 1) (by omega) (by omega)
  exact loop n 0 rfl (Nat.zero_le _)
theorem mod_half {b r : Nat} (hr : 0 < r) (hrb : r < b) : b % r ≤ b / 2 := by
  by_cases q : r ≤ b / 2
  · have := Nat.mod_lt b hr
    omega
  · have e : b % r = b - r := by
      rw [Nat.mod_eq_sub_mod (by omega), Nat.mod_eq_of_lt (by omega)]
    omega
theorem lN_zero {b : Nat} (hb : b < 2 ^ 63) : lN b = 0 ↔ b = 0 := lN_inj (b := 0) hb (by omega)
theorem gcd_st (a b : Nat) : Nat.gcd b (a % b) = Nat.gcd a b := by
  rw [Nat.gcd_comm b (a % b), ← Nat.gcd_rec b a, Nat.gcd_comm]
theorem ow_common {d : Nat} {h : PH} {Q : PQ} {a b : Nat} (ha : a < 2 ^ 63) (hb : b < 2 ^ 40) (k : Q (some (.long (lN (Nat.gcd a b)))) h) : wpm (d + 1) 160 [.long (lN a), .long (lN b)] h Q := by
  refine wpm_in P_Ow_commonDivisor rfl (by decide) (by show ¬ 7 < 4; decide) (B_Ow_commonDivisor_0 ?_)
  have loop : ∀ (j a b i : Nat) (v5 v6 : Value), a < 2 ^ 63 → b < 2 ^ j → j ≤ 40 → i + 2 * j ≤ 99 → Q (some (.long (lN (Nat.gcd a b)))) h → wpx d P_Ow_commonDivisor 3 [.long (lN a), .retAddr 2, .long (lN b), .retAddr 2, .int (nI i), v5, v6] [] h Q := by
    intro j
    induction j with
    | zero =>
      intro a b i v5 v6 ha hb hj hi k
      have h1 : (2 : Nat) ^ 0 = 1 := rfl
      have b0 : b = 0 := by omega
      subst b0
      rw [Nat.gcd_zero_right] at k
      exact B_Ow_commonDivisor_3 (fun _ => B_Ow_commonDivisor_32 k) (fun _ => B_Ow_commonDivisor_10 (fun _ => B_Ow_commonDivisor_32 k) (fun z => absurd ((lg_cmp0 _ _).mpr rfl) z))
    | succ j ih =>
      intro a b i v5 v6 ha hb hj hi k
      have hp : (2 : Nat) ^ (j + 1) ≤ 2 ^ 40 := Nat.pow_le_pow_right (by omega) hj
      have hp2 : (2 : Nat) ^ (j + 1) = 2 ^ j * 2 := Nat.pow_succ 2 j
      have h40 : (2 : Nat) ^ 40 = 1099511627776 := by decide
      have hb63 : b < 2 ^ 63 := by omega
      refine B_Ow_commonDivisor_3 (fun q => ?_) (fun _ => B_Ow_commonDivisor_10 (fun z => ?_) (fun z => ?_))
      · have := (nI_leI (a := 100) (by omega) (by omega)).mp q
        omega
      · have b0 := (lN_zero hb63).mp ((lg_cmp0 _ _).mp z)
        subst b0
        rw [Nat.gcd_zero_right] at k
        exact B_Ow_commonDivisor_32 k
      · have b0 : ¬ b = 0 := fun y => z ((lg_cmp0 _ _).mpr (by rw [y]; rfl))
        refine B_Ow_commonDivisor_16 (fun y => b0 ((lN_zero hb63).mp y)) ?_
        rw [lN_rem ha hb63, nI_1]
        rw [← gcd_st] at k
        have hr := Nat.mod_lt a (Nat.pos_of_ne_zero b0)
        generalize a % b = r at hr k ⊢
        have hr63 : r < 2 ^ 63 := by omega
        refine B_Ow_commonDivisor_3 (fun q => ?_) (fun _ => B_Ow_commonDivisor_10 (fun z => ?_) (fun z => ?_))
        · have := (nI_leI (a := 100) (by omega) (by omega)).mp q
          omega
        · have r0 := (lN_zero hr63).mp ((lg_cmp0 _ _).mp z)
          subst r0
          rw [Nat.gcd_zero_right] at k
          exact B_Ow_commonDivisor_32 k
        · have r0 : ¬ r = 0 := fun y => z ((lg_cmp0 _ _).mpr (by rw [y]; rfl))
          refine B_Ow_commonDivisor_16 (fun y => r0 ((lN_zero hr63).mp y)) ?_
          rw [lN_rem hb63 hr63, nI_1]
          rw [← gcd_st] at k
          have hh := mod_half (Nat.pos_of_ne_zero r0) hr
          exact ih r (b % r) (i + 1 + 1) _ _ hr63 (by omega) (by omega) (by omega) k
  exact loop 40 a b 0 _ _ ha hb (Nat.le_refl _) (by omega) k
theorem md_common {d : Nat} {h : PH} {Q : PQ} {a b : Nat} (ha : a < 2 ^ 63) (hb : b < 2 ^ 63) (k : Q (some (.long (lN (Nat.gcd a b)))) h) : wpm (d + 1) 224 [.long (lN a), .long (lN b)] h Q := by
  refine wpm_in P_Md_common rfl (by decide) (by show ¬ 10 < 4; decide) (B_Md_common_0 ?_)
  have loop : ∀ (n a' b' : Nat) (v8 v9 : Value), b' ≤ n → a' < 2 ^ 63 → b' < 2 ^ 63 → Q (some (.long (lN (Nat.gcd a' b')))) h → wpx d P_Md_common 6 [.long (lN a), .retAddr 2, .long (lN b), .retAddr 2, .long (lN a'), .retAddr 2, .long (lN b'), .retAddr 2, v8, v9] [] h Q := by
    intro n
    induction n with
    | zero =>
      intro a' b' v8 v9 hn ha' hb' k
      have b0 : b' = 0 := by omega
      subst b0
      rw [Nat.gcd_zero_right] at k
      exact B_Md_common_6 (fun _ => B_Md_common_31 k) (fun z => absurd ((lg_cmp0 _ _).mpr rfl) z)
    | succ n ih =>
      intro a' b' v8 v9 hn ha' hb' k
      refine B_Md_common_6 (fun z => ?_) (fun z => ?_)
      · have b0 := (lN_zero hb').mp ((lg_cmp0 _ _).mp z)
        subst b0
        rw [Nat.gcd_zero_right] at k
        exact B_Md_common_31 k
      · have b0 : ¬ b' = 0 := fun y => z ((lg_cmp0 _ _).mpr (by rw [y]; rfl))
        refine B_Md_common_13 (fun y => b0 ((lN_zero hb').mp y)) ?_
        rw [lN_rem ha' hb']
        rw [← gcd_st] at k
        have hr := Nat.mod_lt a' (Nat.pos_of_ne_zero b0)
        exact ih b' (a' % b') _ _ (by omega) hb' (by omega) k
  exact loop b a b _ _ (Nat.le_refl _) ha hb k
theorem shN {gs : List (List Nat)} {m : Nat} (ho : okg gs m) : shU (shK gs m) gs m gs.length < 2 ^ 40 ∧ shK gs m ^ 7 < 2 ^ 40 ∧ 0 < Nat.gcd (shU (shK gs m) gs m gs.length) (shK gs m ^ 7) ∧ Nat.gcd (shU (shK gs m) gs m gs.length) (shK gs m ^ 7) < 2 ^ 63 := by
  have hK := shK_le gs m
  have h1 := shU_le (gs := gs) (m := m) hK.2 gs.length
  have h2 := K7 (n := 7) hK.2 (Nat.le_refl _)
  have h14 := ho.1
  have h0 : 0 < shK gs m ^ 7 := Nat.pow_pos (by omega)
  have h3 := Nat.gcd_le_right (shU (shK gs m) gs m gs.length) h0
  have h40 : (2 : Nat) ^ 40 = 1099511627776 := by decide
  have h63 : (2 : Nat) ^ 63 = 9223372036854775808 := by decide
  have hm : gs.length * 10460353203 ≤ 14 * 10460353203 := Nat.mul_le_mul_right _ h14
  exact ⟨by omega, by omega, Nat.gcd_pos_of_pos_right _ h0, by omega⟩
theorem ow_share {d : Nat} {h : PH} {Q : PQ} {gs : List (List Nat)} {m : Nat} {x : Int32} (hO : OwS h) (hg : CGr h 2 gs m) (k : Q (some (.long (shR gs m x))) h) : wpm (d + 4) 131 [.ref 0, .int x] h Q := by
  refine wpm_in P_Ow_share rfl (by decide) (by show ¬ 9 < 2; decide) ?_
  have hG := GrS_2 hO
  have h14 := hg.1.1
  obtain ⟨n1, n2, n3, n4⟩ := shN hg.1
  have hK := shK_le gs m
  have main : (x = 0 ∨ x = 1) → wpx (d + 3) P_Ow_share 13 (ents 9 [.ref 0, .int x]) [] h Q := fun hx => by
    refine B_Ow_share_13 hO.1 (or_groups hO) (os_groups hO) (gr_unlikeLetters hG hg (B_Ow_share_20 ?_))
    have last : ∀ (v6 v7 v8 : Value), wpx (d + 3) P_Ow_share 77 [.ref 0, .int x, .int (nI (shK gs m)), .long (lN (shU (shK gs m) gs m gs.length)), .retAddr 2, .int (nI gs.length), v6, v7, v8] [] h Q := fun v6 v7 v8 => by
      refine B_Ow_share_77 ?_
      rw [nI_to64 (by omega)]
      refine ow_power (n := 7) (by omega) (B_Ow_share_84 (ow_common (by omega) n1 (B_Ow_share_92 (fun _ => B_Ow_share_105 (fun z => B_Ow_share_113 (B_Ow_share_115 (fun y => ?_) ?_)) (fun z => B_Ow_share_109 (B_Ow_share_115 (fun y => ?_) ?_))) (fun z => ?_))))
      · rw [Nat.gcd_comm] at y
        have := (lN_zero n4).mp y
        omega
      · have e : shR gs m x = lN (shK gs m ^ 7) / lN (Nat.gcd (shK gs m ^ 7) (shU (shK gs m) gs m gs.length)) := by
          unfold shR
          rw [if_neg z, if_pos (hx.resolve_left z), Nat.gcd_comm]
        rw [← e]
        exact k
      · rw [Nat.gcd_comm] at y
        have := (lN_zero n4).mp y
        omega
      · have e : shR gs m x = lN (shU (shK gs m) gs m gs.length) / lN (Nat.gcd (shK gs m ^ 7) (shU (shK gs m) gs m gs.length)) := by
          unfold shR
          rw [if_pos z, Nat.gcd_comm]
        rw [← e]
        exact k
      · rw [Nat.gcd_comm, show (1 : Int64) = lN 1 from rfl, lg_ge n4 (by omega)] at z
        omega
    have loop : ∀ (c j : Nat), gs.length - j = c → j ≤ gs.length → ∀ (v6 v7 v8 : Value), wpx (d + 3) P_Ow_share 26 [.ref 0, .int x, .int (nI (shK gs m)), .long (lN (shU (shK gs m) gs m j)), .retAddr 2, .int (nI j), v6, v7, v8] [] h Q := by
      intro c
      induction c with
      | zero =>
        intro j hc hj v6 v7 v8
        have ej : j = gs.length := by omega
        subst ej
        refine B_Ow_share_26 hO.1 (or_groups hO) (os_groups hO) (fun _ => last v6 v7 v8) (fun q => ?_)
        rw [hg.2.1, nI_leI (by omega) (by omega)] at q
        omega
      | succ c ih =>
        intro j hc hj v6 v7 v8
        have gj : gs[j]? = some gs[j] := List.getElem?_eq_getElem (by omega)
        generalize gs[j] = l at gj
        have el : gs.getD j [] = l := by rw [List.getD_eq_getElem?_getD, gj]; rfl
        obtain ⟨a1, a2, a3⟩ := hg.1.at gj
        have h7 := a1.2
        have nx := ih (j + 1) (by omega) (by omega) v6 v7 v8
        refine B_Ow_share_26 hO.1 (or_groups hO) (os_groups hO) (fun q => ?_) (fun _ => B_Ow_share_38 hO.1 (or_groups hO) (os_groups hO) (gr_isIn hG hg (by omega) (fun q => ?_) (fun q => ?_)))
        · rw [hg.2.1, nI_leI (by omega) (by omega)] at q
          omega
        · refine B_Ow_share_47 (fun z => absurd z (by decide)) (fun _ => B_Ow_share_50 hO.1 (or_groups hO) (os_groups hO) hG.2.2.1.1 hG.2.2.1.2 (vp_in_nI a3 (by omega)) ?_)
          rw [nI_to64 (by omega), nI_clamp (by omega), (hg.2.2.2 j l gj).2, show (7 : Int32) - nI l.length = nI (7 - l.length) from nI_subN (a := 7) (by omega)]
          refine ow_power (by omega) (B_Ow_share_69 (B_Ow_share_71 ?_))
          rw [lN_addN, nI_1]
          have e : shU (shK gs m) gs m (j + 1) = shU (shK gs m) gs m j + shK gs m ^ (7 - l.length) := by
            show _ + (if _ then _ else _) = _
            rw [if_pos q, el]
          rw [e] at nx
          exact nx
        · refine B_Ow_share_47 (fun _ => B_Ow_share_71 ?_) (fun z => absurd rfl z)
          rw [nI_1]
          have e : shU (shK gs m) gs m (j + 1) = shU (shK gs m) gs m j := by
            show _ + (if _ then _ else _) = _
            rw [if_neg q]
            rfl
          rw [e] at nx
          exact nx
    exact loop _ 0 rfl (Nat.zero_le _) _ _ _
  refine B_Ow_share_0 (fun z => main (Or.inl z)) (fun z0 => B_Ow_share_4 (fun z => main (Or.inr z)) (fun z1 => B_Ow_share_9 ?_))
  have e : shR gs m x = -1 := by
    unfold shR
    rw [if_neg z0, if_neg z1]
  rw [← e]
  exact k
