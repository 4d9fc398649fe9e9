/-! words on the class's side: the key behind one letter more; how many keys there are -/
theorem nI_and3 (n : Nat) : nI n &&& (3 : Int32) = nI (n % 4) := by
  apply Int32.toBitVec_inj.mp
  apply BitVec.eq_of_toNat_eq
  rw [Int32.toBitVec_and, BitVec.toNat_and]
  unfold nI
  rw [Int32.toBitVec_ofNat', Int32.toBitVec_ofNat', BitVec.toNat_ofNat, BitVec.toNat_ofNat]
  have h2 : (3 : Int32).toBitVec.toNat = 2 ^ 2 - 1 := rfl
  rw [h2, Nat.and_two_pow_sub_one_eq_mod]
  omega
theorem shl_d : ∀ n, n < 3 → ∀ d, d < 6 → nI n <<< (((2 : Int32) * (nI d + (1 : Int32))) &&& 31) = nI (n * 4 ^ (d + 1)) := by decide +kernel
theorem shl_14 : ∀ u, u < 99 → nI u <<< ((14 : Int32) &&& 31) = nI (u * 16384) := by decide +kernel
theorem dg_dig {k d : Nat} (hk : k < 2 ^ 31) (hd : d < 7) : (((nI k).toUInt32 >>> (((2 : Int32) * nI d).toUInt32 &&& Int32.toUInt32 31)).toInt32) &&& (3 : Int32) = nI (k / 4 ^ d % 4) := by
  rw [show (2 : Int32) = nI 2 from rfl, nI_mulN, pk_ushrN (by omega) (nI (2 * d)) (2 * d) (sh_u _ (by omega)), nI_and3, Nat.pow_mul]
noncomputable def cqS (gs : List (List Nat)) (m : Nat) (v : List Nat) : Nat → Nat
  | 0 => 0
  | d + 1 => cqS gs m v d + dg gs m v (d + 1) * 4 ^ d
theorem cqS_lt {gs : List (List Nat)} {m : Nat} {v : List Nat} : ∀ d, cqS gs m v d < 4 ^ d
  | 0 => Nat.lt_succ_self 0
  | d + 1 => by
    have ih := cqS_lt (gs := gs) (m := m) (v := v) d
    have h2 := dg_le (gs := gs) (m := m) v (d + 1)
    show cqS gs m v d + dg gs m v (d + 1) * 4 ^ d < 4 ^ (d + 1)
    have h3 : dg gs m v (d + 1) * 4 ^ d ≤ 2 * 4 ^ d := Nat.mul_le_mul_right _ h2
    have h4 : 4 ^ (d + 1) = 4 ^ d * 4 := Nat.pow_succ ..
    omega
theorem cqS_6 {gs : List (List Nat)} {m : Nat} (v : List Nat) : cqS gs m v 6 * 4 + dg gs m v 0 = dgs gs m v := by
  rw [dgs_7]
  show (0 + dg gs m v 1 * 1 + dg gs m v 2 * 4 + dg gs m v 3 * 16 + dg gs m v 4 * 64 + dg gs m v 5 * 256 + dg gs m v 6 * 1024) * 4 + _ = _
  omega
theorem dg_n1 {gs : List (List Nat)} {m d c : Nat} {v : List Nat} (h : dg gs m v d = 0 ∨ ¬ isI gs m (lsD v d ++ [c])) : dg gs m (v ++ [c]) (d + 1) = 0 := by
  by_cases y : d ≤ v.length ∧ isI gs m (lsD v d ++ [c])
  · rcases h with z | z
    · rw [dg_in y.1 y.2, z]
    · exact absurd y.2 z
  · exact dg_no y
theorem ce_keyBehind {d : Nat} {h : PH} {Q : PQ} {c m s : Nat} {N gs : List (List Nat)} {v : List Nat} (ho : okg gs m) (hu : unlk gs) (hT : TrS h c) (hc : CTr h c N gs m) (s0 : 0 < s) (s1 : s < 28) (k : Q (some (.int (nI (kyW N gs m (v ++ [s]))))) h) : wpm (d + 2) 16 [.ref c, .int (nI (kyW N gs m v)), .int (nI s)] h Q := by
  refine wpm_in P_Ce_keyBehind rfl (by decide) (by show ¬ 10 < 3; decide) (B_Ce_keyBehind_0 ?_)
  have hN : okN N := hc.1.1
  have n99 := hN.2.2.2.1
  have inN : ∀ z, isI gs m z ∨ isG gs m z → z ∈ N := fun z hz => (hc.2.1 z).mpr (Or.inr hz)
  have n0 : ([] : List Nat) ∈ N := List.mem_of_getElem? hN.2.1
  have hX : dpX gs m v 6 ∈ N := (dpX_in ho 6).elim (fun z => by rw [z]; exact n0) (fun z => inN _ (Or.inl z))
  have hu99 := nix_lt hX
  have kb : kyW N gs m v < 2 ^ 31 := by
    have := dgs_lt (gs := gs) (m := m) v
    unfold kyW
    omega
  have e9 : h_i h c 9 = nI N.length := hc.1.2.1
  have e14 : ((nI (kyW N gs m v)).toUInt32 >>> ((14 : Int32).toUInt32 &&& Int32.toUInt32 31)).toInt32 = nI (nix N (dpX gs m v 6)) := by
    rw [pk_ushrN (by omega) (14 : Int32) 14 (by decide), show (2 : Nat) ^ 14 = 16384 from rfl, kyW_u]
  rw [e14]
  have hD : ∀ j, deS gs m v s j ∈ N := fun j => by
    rw [deS_dp]
    exact (dpX_in ho j).elim (fun z => by rw [z]; exact n0) (fun z => inN _ (Or.inl z))
  have loop : ∀ (n e : Nat) (v8 v9 : Value), 7 - e = n → e ≤ 7 → wpx (d + 1) P_Ce_keyBehind 17 [.ref c, .int (nI (kyW N gs m v)), .int (nI s), .int (nI (nix N (dpX gs m v 6))), .int (nI (nix N (deS gs m v s (min e 6)))), .int (nI (cqS gs m (v ++ [s]) (min e 6) * 4)), .int (nI (clS gs m v s e)), .int (nI e), v8, v9] [] h Q := by
    intro n
    induction n with
    | zero =>
      intro e v8 v9 hn he
      have e7 : e = 7 := by omega
      subst e7
      refine B_Ce_keyBehind_17 (fun _ => B_Ce_keyBehind_131 ?_) (fun z => absurd (by decide) z)
      have l1 := nix_lt (hD 6)
      have l2 := cqS_lt (gs := gs) (m := m) (v := v ++ [s]) 6
      have l3 := clS_le (gs := gs) (m := m) (v := v) (c := s) 7
      have p6 : (4 : Nat) ^ 6 = 4096 := rfl
      rw [show min 7 6 = 6 from rfl, shl_14 _ (by omega), nI_orN (by omega) (by omega), show 16384 = 2 ^ 14 from rfl, or_add (by omega), nI_orN (by omega) (by omega), show nix N (deS gs m v s 6) * 2 ^ 14 + cqS gs m (v ++ [s]) 6 * 4 = (nix N (deS gs m v s 6) * 4096 + cqS gs m (v ++ [s]) 6) * 2 ^ 2 by omega, or_add (by omega), clS_7 ho hu, deS_dp]
      have eK : (nix N (dpX gs m (v ++ [s]) 6) * 4096 + cqS gs m (v ++ [s]) 6) * 2 ^ 2 + dg gs m (v ++ [s]) 0 = kyW N gs m (v ++ [s]) := by
        have := cqS_6 (gs := gs) (m := m) (v ++ [s])
        unfold kyW
        omega
      rw [eK]
      exact k
    | succ n ih =>
      intro e v8 v9 hn he
      have l2 := dg_le (gs := gs) (m := m) v e
      have l3 := clS_le (gs := gs) (m := m) (v := v) (c := s) e
      refine B_Ce_keyBehind_17 (fun z => ?_) (fun _ => ?_)
      · rw [show (6 : Int32) = nI 6 from rfl, nI_ltI (by omega) (by omega)] at z
        omega
      have next : ∀ (x4 x5 x6 x8 x9 : Int32), x4 = nI (nix N (deS gs m v s (min (e + 1) 6))) → x5 = nI (cqS gs m (v ++ [s]) (min (e + 1) 6) * 4) → x6 = nI (clS gs m v s (e + 1)) → wpx (d + 1) P_Ce_keyBehind 125 [.ref c, .int (nI (kyW N gs m v)), .int (nI s), .int (nI (nix N (dpX gs m v 6))), .int x4, .int x5, .int x6, .int (nI e), .int x8, .int x9] [] h Q := fun x4 x5 x6 x8 x9 a b c => by
        rw [a, b, c]
        refine B_Ce_keyBehind_125 ?_
        rw [nI_1]
        exact ih (e + 1) _ _ (by omega) (by omega)
      -- nothing comes of this end
      have stay : dg gs m v e = 0 ∨ ¬ isI gs m (lsD v e ++ [s]) → deS gs m v s (min (e + 1) 6) = deS gs m v s (min e 6) ∧ cqS gs m (v ++ [s]) (min (e + 1) 6) = cqS gs m (v ++ [s]) (min e 6) := fun hz => by
        by_cases y : e < 6
        · rw [show min (e + 1) 6 = e + 1 by omega, show min e 6 = e by omega]
          refine ⟨iteL_f (fun z => hz.elim z.2 (fun q => q z.1)), ?_⟩
          show cqS gs m (v ++ [s]) e + dg gs m (v ++ [s]) (e + 1) * 4 ^ e = _
          rw [dg_n1 hz, Nat.zero_mul, Nat.add_zero]
        · rw [show min (e + 1) 6 = 6 by omega, show min e 6 = 6 by omega]
          exact ⟨rfl, rfl⟩
      have cl0 : ¬ isG gs m (lsD v e ++ [s]) → clS gs m v s (e + 1) = clS gs m v s e := fun hz => iteP_f hz
      have hdig := dg_dig (k := kyW N gs m v) (d := e) kb (by omega)
      rw [kyW_d v (by omega)] at hdig
      by_cases hz : dg gs m v e = 0
      · refine B_Ce_keyBehind_24 (fun z => ?_) (fun _ => ?_)
        · rw [hdig, hz] at z
          exact absurd rfl z
        · rw [hdig]
          refine B_Ce_keyBehind_39 (B_Ce_keyBehind_55 (fun _ => B_Ce_keyBehind_84 (fun _ => ?_) (fun z => absurd rfl z)) (fun z => absurd rfl z))
          refine next _ _ _ _ _ (by rw [(stay (Or.inl hz)).1]) (by rw [(stay (Or.inl hz)).2]) ?_
          show _ = nI (iteP _ _ _)
          rw [hz, Nat.add_zero, Nat.min_eq_right l3]
          by_cases p : isG gs m (lsD v e ++ [s])
          · rw [iteP_t p]
          · rw [iteP_f p]
      · have o6 := dg_6 ho hz
        obtain ⟨q1, q2⟩ := dpX_suf ho hz 6 o6.2
        have hy : lsD v e ∈ N := o6.1.2.elim (fun z => by rw [z, lsD_0]; exact n0) (fun z => inN _ (Or.inl z))
        have hyl := nix_lt hy
        have ebk : h_i h (c + 2) (nix N (dpX gs m v 6) * 8 + e) = nI (nix N (lsD v e)) := by
          rw [hc.2.2.1 _ _ (nix_get hX) _ (by omega)]
          unfold bk
          rw [if_pos q1, q2, nd_at hN.1 (nix_get hy)]
        have enx : h_i h (c + 1) (nix N (lsD v e) * 28 + s) = nd N (lsD v e ++ [s]) := (hc.1.2.2.2.1 _ _ (nix_get hy)).2.2.2.2 s s1
        refine B_Ce_keyBehind_24 (fun _ => ?_) (fun z => ?_)
        · rw [hdig]
          refine B_Ce_keyBehind_43 hT.1 (tr_back_v hT e9 n99 hu99 (by omega) (B_Ce_keyBehind_51 hT.1 ?_))
          rw [ebk]
          refine tr_next_v hT e9 n99 hyl s0 s1 ?_
          rw [enx]
          by_cases hY : lsD v e ++ [s] ∈ N
          · have lY := nix_lt hY
            have vY : vp_in (nI (nix N (lsD v e ++ [s]))) 99 := vp_in_nI (by omega) (by omega)
            obtain ⟨_, bW, bI, _⟩ := hc.1.2.2.2.1 _ _ (nix_get hY)
            rw [nd_at hN.1 (nix_get hY)]
            have at84 : ∀ x6 : Int32, x6 = nI (clS gs m v s (e + 1)) → wpx (d + 1) P_Ce_keyBehind 84 [.ref c, .int (nI (kyW N gs m v)), .int (nI s), .int (nI (nix N (dpX gs m v 6))), .int (nI (nix N (deS gs m v s (min e 6)))), .int (nI (cqS gs m (v ++ [s]) (min e 6) * 4)), .int x6, .int (nI e), .int (nI (dg gs m v e)), .int (nI (nix N (lsD v e ++ [s])))] [] h Q := fun x6 h6 => by
              refine B_Ce_keyBehind_84 (fun z => absurd z (nI_neg1 (by omega))) (fun _ => B_Ce_keyBehind_90 hT.1 hT.2.2.2.2.2.1.1 hT.2.2.2.2.2.1.2 vY (fun z => ?_) (fun z => B_Ce_keyBehind_100 (fun z2 => ?_) (fun z2 => B_Ce_keyBehind_107 ?_)))
              · rw [nI_clamp (by omega)] at z
                have ni := bI.t z
                exact next _ _ _ _ _ (by rw [(stay (Or.inr ni)).1]) (by rw [(stay (Or.inr ni)).2]) h6
              · rw [show (6 : Int32) = nI 6 from rfl, nI_leI (by omega) (by omega)] at z2
                refine next _ _ _ _ _ ?_ ?_ h6
                · rw [show min (e + 1) 6 = 6 by omega, show min e 6 = 6 by omega]
                · rw [show min (e + 1) 6 = 6 by omega, show min e 6 = 6 by omega]
              · rw [nI_clamp (by omega)] at z
                rw [show (6 : Int32) = nI 6 from rfl, nI_leI (by omega) (by omega)] at z2
                have iY := bI.f z
                have hl := dg_pos_le hz
                have l4 := cqS_lt (gs := gs) (m := m) (v := v ++ [s]) e
                have p5 : (4 : Nat) ^ e ≤ 4 ^ 5 := Nat.pow_le_pow_right (by omega) (by omega)
                have p5' : (4 : Nat) ^ 5 = 1024 := rfl
                have ps : (4 : Nat) ^ (e + 1) = 4 ^ e * 4 := Nat.pow_succ ..
                have ps2 : (2 : Nat) ^ (2 * (e + 1)) = 4 ^ (e + 1) := Nat.pow_mul ..
                have l5 : dg gs m v e * 4 ^ (e + 1) ≤ 2 * 4 ^ (e + 1) := Nat.mul_le_mul_right _ l2
                refine next _ _ _ _ _ ?_ ?_ h6
                · rw [show min (e + 1) 6 = e + 1 by omega]
                  show _ = nI (nix N (iteL _ _ _))
                  rw [iteL_t ⟨iY, hz⟩]
                · rw [show min (e + 1) 6 = e + 1 by omega, show min e 6 = e by omega, shl_d _ (by omega) _ (by omega), nI_orN (by omega) (by omega), Nat.or_comm, ← ps2, or_add (by omega), ps2]
                  show _ = nI ((cqS gs m (v ++ [s]) e + dg gs m (v ++ [s]) (e + 1) * 4 ^ e) * 4)
                  rw [dg_in hl iY]
                  refine congrArg nI ?_
                  rw [ps, Nat.add_mul, Nat.mul_assoc]
                  omega
            refine B_Ce_keyBehind_55 (fun z => absurd z (nI_neg1 (by omega))) (fun _ => B_Ce_keyBehind_63 hT.1 hT.2.2.2.2.1.1 hT.2.2.2.2.1.2 vY (fun z => at84 _ ?_) (fun z => B_Ce_keyBehind_73 (at84 _ ?_)))
            · rw [nI_clamp (by omega)] at z
              rw [cl0 (bW.t z)]
            · rw [nI_clamp (by omega)] at z
              show _ = nI (iteP _ _ _)
              rw [iteP_t (bW.f z), nI_add, show (2 : Int32) = nI 2 from rfl]
              by_cases q : clS gs m v s e + dg gs m v e < 2
              · rw [if_pos ((nI_ltI (by omega) (by omega)).mpr q), Nat.min_eq_right (by omega)]
              · rw [if_neg (fun y => q ((nI_ltI (by omega) (by omega)).mp y)), Nat.min_eq_left (by omega)]
          · rw [nd_no hY]
            have ni : ¬ isI gs m (lsD v e ++ [s]) := fun z => hY (inN _ (Or.inl z))
            have ng : ¬ isG gs m (lsD v e ++ [s]) := fun z => hY (inN _ (Or.inr z))
            refine B_Ce_keyBehind_55 (fun _ => B_Ce_keyBehind_84 (fun _ => ?_) (fun z => absurd rfl z)) (fun z => absurd rfl z)
            exact next _ _ _ _ _ (by rw [(stay (Or.inr ni)).1]) (by rw [(stay (Or.inr ni)).2]) (by rw [cl0 ng])
        · rw [hdig] at z
          exact absurd z (fun q => hz (by
            have := (nI_eq (a := dg gs m v e) (b := 0) (by omega) (by omega)).mp q
            exact this))
  have l0 := loop 7 0 (.retAddr 0) (.retAddr 0) rfl (Nat.zero_le _)
  rw [show nix N (deS gs m v s (min 0 6)) = 0 from nix_at hN.1 hN.2.1] at l0
  exact l0
