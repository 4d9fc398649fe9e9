/-! borders on the class's side: where each size starts; what is asked of them -/
def BSr (h : PH) (b : Nat) (gs : List (List Nat)) (m : Nat) : Prop := ∀ n, n < 5 → h_i h (b + 4) (n + 1) = nI (catB gs m n).length
theorem cdB_len {r : List Nat} (hx : ∀ x ∈ r, 0 < x ∧ x < 28) (h4 : r.length ≤ 4) : cdB r / 2 ^ 20 = r.length ∧ cdB r % 2 ^ 20 = pkN r ∧ cdB r < 2 ^ 31 := by
  have lt := pkN_lt (l := r) (fun x h => by have := hx x h; omega)
  have p20 : 32 ^ r.length ≤ 32 ^ 4 := Nat.pow_le_pow_right (by decide) h4
  unfold cdB
  omega
theorem bo_findStarts {d b la cap : Nat} {h : PH} {Q : PQ} {gs : List (List Nat)} {m : Nat} (ho : okg gs m) (hB : BoS h b la cap) (hL : BL h b la cap ((catB gs m 4).map cdB)) (hc : cap ≤ 65536) (k : ∀ h', BSr h' b gs m → Fr (fun x _ => x = b + 4) h h' → Q none h') : wpm (d + 1) 10 [.ref b] h Q := by
  refine wpm_in P_Bo_findStarts rfl (by decide) (by show ¬ 3 < 1; decide) ?_
  have l60 := catB_len (m := m) ho
  have lb := hB.2.2.2.2.2.2.2.2
  have ll : ((catB gs m 4).map cdB).length = (catB gs m 4).length := List.length_map ..
  have cut : ∀ n, n ≤ 4 → ∃ z, catB gs m 4 = catB gs m n ++ z ∧ ∀ r ∈ z, n < r.length := fun n hn => by
    have := catB_cut (gs := gs) (m := m) (n := n) (4 - n)
    rw [show n + (4 - n) = 4 by omega] at this
    exact this
  have lle : ∀ n, n ≤ 4 → (catB gs m n).length ≤ (catB gs m 4).length := fun n hn => by
    obtain ⟨z, e, _⟩ := cut n hn
    rw [e, List.length_append]
    omega
  have lg : ∀ {g : PH}, Fr (fun x _ => x = b + 4) h g → h_i g b 3 = nI (catB gs m 4).length ∧ ∀ (i : Nat) (r : List Nat), (catB gs m 4)[i]? = some r → h_i g la i = nI (cdB r) := fun hf => ⟨(hf.i _ _ (by omega)).trans (hL.1.trans (by rw [ll])), fun i r hr => (hf.i _ _ (by omega)).trans (hL.2.1 i _ (by rw [List.getElem?_map, hr]; rfl))⟩
  have main : ∀ (e n : Nat) (g : PH), 4 - n = e → n ≤ 4 → (∀ t, t < n → h_i g (b + 4) (t + 1) = nI (catB gs m t).length) → Fr (fun x _ => x = b + 4) h g → wpx d P_Bo_findStarts 4 [.ref b, .int (nI (catB gs m n).length), .int (nI (n + 1))] [] g Q := by
    intro e
    induction e with
    | zero =>
      intro n g he hn hs hf
      have en : n = 4 := by omega
      subst en
      have Bg := hB.fr hf
      refine B_Bo_findStarts_4 (fun _ => B_Bo_findStarts_49 Bg.1 Bg.2.2.2.2.1.1 Bg.2.2.2.2.1.2 (vp_in_nI (n := 5) (by omega) (by omega)) (k _ (fun t ht => ?_) (hf.tr (Fr.wi _ _ rfl)))) (fun z => absurd (by decide) z)
      by_cases y : t = 4
      · rw [y]
        exact wi_eq ..
      · rw [wi_ne _ _ (by omega)]
        exact hs t (by omega)
    | succ e ih =>
      intro n g he hn hs hf
      have Bg := hB.fr hf
      obtain ⟨z, ez, hz⟩ := cut (n + 1) (by omega)
      have ec : catB gs m (n + 1) = catB gs m n ++ bor gs m (n + 1) := rfl
      have lc : (catB gs m (n + 1)).length = (catB gs m n).length + (bor gs m (n + 1)).length := by rw [ec, List.length_append]
      have l1 := lle (n + 1) (by omega)
      refine B_Bo_findStarts_4 (fun w => ?_) (fun _ => B_Bo_findStarts_9 Bg.1 Bg.2.2.2.2.1.1 Bg.2.2.2.2.1.2 (vp_in_nI (by omega) (by omega)) ?_)
      · rw [show (4 : Int32) = nI 4 from rfl, nI_ltI (by omega) (by omega)] at w
        omega
      · rw [nI_clamp (show n + 1 < 2 ^ 31 by omega)]
        have f1 : Fr (fun x _ => x = b + 4) h (w_i g (b + 4) (n + 1) (nI (catB gs m n).length)) := hf.tr (Fr.wi _ _ rfl)
        have hs1 : ∀ t, t < n + 1 → h_i (w_i g (b + 4) (n + 1) (nI (catB gs m n).length)) (b + 4) (t + 1) = nI (catB gs m t).length := fun t ht => by
          by_cases y : t = n
          · rw [y]
            exact wi_eq ..
          · rw [wi_ne _ _ (by omega)]
            exact hs t (by omega)
        generalize w_i g (b + 4) (n + 1) (nI (catB gs m n).length) = g1 at f1 hs1 ⊢
        have B1 := hB.fr f1
        obtain ⟨s3, sl⟩ := lg f1
        have row : ∀ (i : Nat) (r : List Nat), (catB gs m 4)[i]? = some r → vp_in (nI i) cap ∧ ((((h_i g1 la (nI i).toNatClampNeg).toUInt32 >>> ((20 : Int32).toUInt32 &&& Int32.toUInt32 31)).toInt32) = nI (n + 1) ↔ r.length = n + 1) := fun i r hr => by
          have il := (List.getElem?_eq_some_iff.mp hr).1
          have hlc := hL.2.2
          rw [ll] at hlc
          obtain ⟨r1, r2, r3⟩ := (catB_mem 4).mp (List.mem_of_getElem? hr)
          obtain ⟨c1, _, c3⟩ := cdB_len r3.1 r2
          refine ⟨vp_in_nI (by omega) (by omega), ?_⟩
          rw [nI_clamp (show i < 2 ^ 31 by omega), sl i r hr, show (20 : Int32) = nI 20 from rfl, pk_ushrN (by omega) (nI 20) 20 (sh_u 20 (by decide)), c1, nI_eq (by omega) (by omega)]
        have inner : ∀ (e2 j : Nat), (bor gs m (n + 1)).length - j = e2 → j ≤ (bor gs m (n + 1)).length → wpx d P_Bo_findStarts 16 [.ref b, .int (nI ((catB gs m n).length + j)), .int (nI (n + 1))] [] g1 Q := by
          intro e2
          induction e2 with
          | zero =>
            intro j he2 hj
            have ej : j = (bor gs m (n + 1)).length := by omega
            subst ej
            rw [← lc]
            have out : wpx d P_Bo_findStarts 43 [.ref b, .int (nI (catB gs m (n + 1)).length), .int (nI (n + 1))] [] g1 Q := by
              refine B_Bo_findStarts_43 ?_
              rw [nI_1]
              exact ih (n + 1) g1 (by omega) (by omega) hs1 f1
            refine B_Bo_findStarts_16 B1.1 (fun _ => out) (fun w => ?_)
            rw [s3, nI_leI (by omega) (by omega)] at w
            have gr : (catB gs m 4)[(catB gs m (n + 1)).length]? = some ((catB gs m 4)[(catB gs m (n + 1)).length]'(by omega)) := List.getElem?_eq_getElem (by omega)
            generalize (catB gs m 4)[(catB gs m (n + 1)).length]'(by omega) = r at gr
            obtain ⟨v1, v2⟩ := row _ r gr
            refine B_Bo_findStarts_24 B1.1 B1.2.2.2.1.1 B1.2.2.2.1.2 v1 (fun _ => out) (fun w2 => ?_)
            have := v2.mp w2
            rw [ez, List.getElem?_append_right (Nat.le_refl _), Nat.sub_self] at gr
            have := hz r (List.mem_of_getElem? gr)
            omega
          | succ e2 ih2 =>
            intro j he2 hj
            have gr : (catB gs m 4)[(catB gs m n).length + j]? = some ((bor gs m (n + 1))[j]'(by omega)) := by
              rw [ez, ec, List.append_assoc, List.getElem?_append_right (by omega), Nat.add_sub_cancel_left, List.getElem?_append_left (by omega)]
              exact List.getElem?_eq_getElem (by omega)
            have rm : (bor gs m (n + 1))[j]'(by omega) ∈ bor gs m (n + 1) := List.getElem_mem _
            generalize (bor gs m (n + 1))[j]'(by omega) = r at gr rm
            obtain ⟨v1, v2⟩ := row _ r gr
            refine B_Bo_findStarts_16 B1.1 (fun w => ?_) (fun _ => B_Bo_findStarts_24 B1.1 B1.2.2.2.1.1 B1.2.2.2.1.2 v1 (fun w => absurd (v2.mpr (bor_iff.mp rm).1) w) (fun _ => B_Bo_findStarts_37 ?_))
            · rw [s3, nI_leI (by omega) (by omega)] at w
              omega
            · rw [nI_1]
              exact ih2 (j + 1) (by omega) (by omega)
        exact inner _ 0 rfl (Nat.zero_le _)
  exact B_Bo_findStarts_0 (main _ 0 h rfl (Nat.zero_le _) (fun t ht => absurd ht (by omega)) (Fr.rf _ _))
/-- what the borders' object holds when it is fresh -/
def CBo (h : PH) (b la cap : Nat) (gs : List (List Nat)) (m : Nat) : Prop := BoS h b la cap ∧ BL h b la cap ((catB gs m 4).map cdB) ∧ BSr h b gs m ∧ cap ≤ 65536
theorem bo_sizeOf {d b la cap n : Nat} {h : PH} {Q : PQ} {gs : List (List Nat)} {m : Nat} (ho : okg gs m) (hC : CBo h b la cap gs m) (h1 : 1 ≤ n) (h4 : n ≤ 4) (k : Q (some (.int (nI (bor gs m n).length))) h) : wpm (d + 1) 11 [.ref b, .int (nI n)] h Q := by
  refine wpm_in P_Bo_sizeOf rfl (by decide) (by show ¬ 2 < 2; decide) ?_
  obtain ⟨hB, hL, hS, hc⟩ := hC
  obtain ⟨n', rfl⟩ : ∃ n', n = n' + 1 := ⟨n - 1, by omega⟩
  have e1 : nI (n' + 1) + (1 : Int32) = nI (n' + 2) := by rw [show (1 : Int32) = nI 1 from rfl, nI_add]
  have lc : (catB gs m (n' + 1)).length = (catB gs m n').length + (bor gs m (n' + 1)).length := List.length_append
  refine B_Bo_sizeOf_0 (fun z => ?_) (fun _ => B_Bo_sizeOf_5 (fun _ => B_Bo_sizeOf_14 hB.1 hB.2.2.2.2.1.1 hB.2.2.2.2.1.2 (by rw [e1]; exact vp_in_nI (by omega) (by omega)) (vp_in_nI (by omega) (by omega)) (B_Bo_sizeOf_29 ?_)) (fun z => absurd ?_ z))
  · rw [show (1 : Int32) = nI 1 from rfl, nI_ltI (by omega) (by omega)] at z
    omega
  · rw [e1, nI_clamp (by omega), nI_clamp (by omega), hS (n' + 1) (by omega), hS n' (by omega), nI_subN (by omega), lc, Nat.add_sub_cancel_left]
    exact k
  · rw [show (4 : Int32) = nI 4 from rfl, nI_leI (by omega) (by omega)]
    omega
theorem bo_sizeOf0 {d b la cap : Nat} {h : PH} {Q : PQ} {gs : List (List Nat)} {m : Nat} {x1 : Int32} (hC : CBo h b la cap gs m) (hx : x1 < 1 ∨ (4 : Int32) < x1) (k : Q (some (.int 0)) h) : wpm (d + 1) 11 [.ref b, .int x1] h Q := by
  refine wpm_in P_Bo_sizeOf rfl (by decide) (by show ¬ 2 < 2; decide) ?_
  refine B_Bo_sizeOf_0 (fun _ => B_Bo_sizeOf_10 (B_Bo_sizeOf_29 k)) (fun w => B_Bo_sizeOf_5 (fun z => ?_) (fun _ => B_Bo_sizeOf_10 (B_Bo_sizeOf_29 k)))
  rcases hx with q | q
  · exact absurd q w
  · exact absurd q (Int32.not_lt.mpr z)
theorem bo_indexOf {d b la cap : Nat} {h : PH} {Q : PQ} {gs : List (List Nat)} {m : Nat} {x1 x2 : Int32} (ho : okg gs m) (hC : CBo h b la cap gs m) (k0 : (x1 < 1 ∨ (4 : Int32) < x1 ∨ x2 < 0 ∨ ∃ n, 1 ≤ n ∧ n ≤ 4 ∧ x1 = nI n ∧ ¬ x2 < nI (bor gs m n).length) → Q (some (.int (-1))) h) (k1 : ∀ n q, 1 ≤ n → n ≤ 4 → x1 = nI n → x2 = nI q → q < (bor gs m n).length → Q (some (.int (nI ((catB gs m (n - 1)).length + q)))) h) : wpm (d + 2) 12 [.ref b, .int x1, .int x2] h Q := by
  refine wpm_in P_Bo_indexOf rfl (by decide) (by show ¬ 3 < 3; decide) ?_
  have hB := hC.1
  refine B_Bo_indexOf_0 (fun z => B_Bo_indexOf_13 (B_Bo_indexOf_25 (k0 (Or.inr (Or.inr (Or.inl z)))))) (fun z => B_Bo_indexOf_4 hB.1 ?_)
  by_cases b1 : x1 < 1 ∨ (4 : Int32) < x1
  · refine bo_sizeOf0 hC b1 (B_Bo_indexOf_10 (fun w => absurd w z) (fun _ => B_Bo_indexOf_13 (B_Bo_indexOf_25 (k0 ?_))))
    exact b1.elim Or.inl (fun q => Or.inr (Or.inl q))
  · obtain ⟨n, n1, n4, e⟩ := nI_of1 (fun q => b1 (Or.inl q)) (fun q => b1 (Or.inr q))
    subst e
    refine bo_sizeOf ho hC n1 n4 (B_Bo_indexOf_10 (fun w => ?_) (fun w => B_Bo_indexOf_13 (B_Bo_indexOf_25 (k0 (Or.inr (Or.inr (Or.inr ⟨n, n1, n4, rfl, w⟩)))))))
    obtain ⟨q, hq, eq'⟩ := nI_of z
    subst eq'
    have bl := bor_20k (gs := gs) (m := m) ho n1 n4
    have w' := w
    rw [nI_ltI hq (by omega)] at w'
    obtain ⟨n', rfl⟩ : ∃ n', n = n' + 1 := ⟨n - 1, by omega⟩
    refine B_Bo_indexOf_17 hB.1 hB.2.2.2.2.1.1 hB.2.2.2.2.1.2 (vp_in_nI (by omega) (by omega)) (B_Bo_indexOf_25 ?_)
    rw [nI_clamp (by omega), hC.2.2.1 n' (by omega), nI_add]
    exact k1 (n' + 1) q n1 n4 rfl rfl w'
theorem bo_codeAt {d b la cap i : Nat} {h : PH} {Q : PQ} {gs : List (List Nat)} {m : Nat} {r : List Nat} (ho : okg gs m) (hC : CBo h b la cap gs m) (hi : (catB gs m 4)[i]? = some r) (k : Q (some (.long (pk r))) h) : wpm (d + 1) 13 [.ref b, .int (nI i)] h Q := by
  refine wpm_in P_Bo_codeAt rfl (by decide) (by show ¬ 2 < 2; decide) ?_
  obtain ⟨hB, hL, hS, hc⟩ := hC
  have il := (List.getElem?_eq_some_iff.mp hi).1
  have l60 := catB_len (m := m) ho
  have ll : ((catB gs m 4).map cdB).length = (catB gs m 4).length := List.length_map ..
  have hlc := hL.2.2
  rw [ll] at hlc
  obtain ⟨r1, r2, r3⟩ := (catB_mem 4).mp (List.mem_of_getElem? hi)
  obtain ⟨c1, c2, c3⟩ := cdB_len r3.1 r2
  refine B_Bo_codeAt_0 (fun z => absurd z (nI_lt0 (by omega))) (fun _ => B_Bo_codeAt_4 hB.1 (fun _ => B_Bo_codeAt_16 hB.1 hB.2.2.2.1.1 hB.2.2.2.1.2 (vp_in_nI (by omega) (by omega)) (B_Bo_codeAt_26 ?_)) (fun z => absurd ?_ z))
  · have lt := pkN_lt (l := r) (fun x h => by have := r3.1 x h; omega)
    have p20 : 32 ^ r.length ≤ 32 ^ 4 := Nat.pow_le_pow_right (by decide) r2
    rw [nI_clamp (by omega), hL.2.1 i (cdB r) (by rw [List.getElem?_map, hi]; rfl), show (1048575 : Int32) = nI (2 ^ 20 - 1) from by decide, nI_andN (by omega) (by decide), Nat.and_two_pow_sub_one_eq_mod, c2, nI_l (by omega)]
    exact k
  · rw [hL.1, ll, nI_ltI (by omega) (by omega)]
    exact il
