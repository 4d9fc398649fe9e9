/-! words on the reference's side: states told from each other; the first state; copies -/
theorem lN_inj64 {a b : Nat} (ha : a < 2 ^ 64) (hb : b < 2 ^ 64) : lN a = lN b ↔ a = b := by
  constructor
  · intro h
    have h1 := congrArg (fun x : Int64 => x.toBitVec.toNat) h
    unfold lN at h1
    simp only [Int64.toBitVec_ofNat', BitVec.toNat_ofNat] at h1
    rw [Nat.mod_eq_of_lt ha, Nat.mod_eq_of_lt hb] at h1
    exact h1
  · rintro rfl
    rfl
theorem pq_eq {D E : Nat → Nat} (hD : ∀ i, D i ≤ 2) (hE : ∀ i, E i ≤ 2) : (∀ k, k < 4 → pq D (32 * k) 32 = pq E (32 * k) 32) ↔ ∀ i, i < 128 → D i = E i := by
  constructor
  · intro h i hi
    have e := h (i / 32) (by omega)
    have e1 := pq_dig (D := D) (o := 32 * (i / 32)) (j := i % 32) (n := 32) (by omega) (fun t _ => by have := hD (32 * (i / 32) + t); omega)
    have e2 := pq_dig (D := E) (o := 32 * (i / 32)) (j := i % 32) (n := 32) (by omega) (fun t _ => by have := hE (32 * (i / 32) + t); omega)
    rw [e] at e1
    rw [show 32 * (i / 32) + i % 32 = i by omega] at e1 e2
    exact e1.symm.trans e2
  · intro h k hk
    refine sm_congr 32 (fun t ht => ?_)
    show D (32 * k + t) * 4 ^ t = E (32 * k + t) * 4 ^ t
    rw [h _ (by omega)]
theorem stD_le {N gs : List (List Nat)} {m : Nat} {v : List Nat} (i : Nat) : stD N gs m v i ≤ 2 := by
  unfold stD
  by_cases y : i < N.length
  · rw [if_pos y]
    exact dR_le _ _
  · rw [if_neg y]
    exact Nat.zero_le _
theorem stD_eq {N gs : List (List Nat)} {m : Nat} {v w : List Nat} (hN : okN N) (h : ∀ i, i < 128 → stD N gs m v i = stD N gs m w i) : stD N gs m v = stD N gs m w := funext (fun i => by
  have n99 := hN.2.2.2.1
  by_cases y : i < 128
  · exact h i y
  · unfold stD
    rw [if_neg (by omega), if_neg (by omega)])
def KyA (h : PH) (sl : Nat) (D : Nat → Nat) : Prop := ∀ k, k < 4 → h_l h 46 (4 * sl + k) = lN (pq D (32 * k) 32)
theorem md_isThere {d : Nat} {h : PH} {Q : PQ} {sl : Nat} {D E : Nat → Nat} (hM : MdS h) (hD : DgA h 52 D) (hK : KyA h sl E) (hE : ∀ i, E i ≤ 2) (hs : sl < 32768) (k1 : (∀ i, i < 128 → D i = E i) → Q (some (.int 1)) h) (k0 : ¬ (∀ i, i < 128 → D i = E i) → Q (some (.int 0)) h) : wpm (d + 1) 253 [.ref 17, .int (nI sl)] h Q := by
  refine wpm_in P_Md_isThere rfl (by decide) (by show ¬ 3 < 2; decide) ?_
  have hl : ∀ q, pq E (32 * q) 32 < 2 ^ 64 := fun q => pq_lt (D := E) (o := 32 * q) 32 (fun i _ => by have := hE (32 * q + i); omega)
  have loop : ∀ (e q : Nat), 4 - q = e → q ≤ 4 → (∀ k, k < q → pq D (32 * k) 32 = pq E (32 * k) 32) → wpx d P_Md_isThere 2 [.ref 17, .int (nI sl), .int (nI q)] [] h Q := by
    intro e
    induction e with
    | zero =>
      intro q he hq hz
      have e4 : q = 4 := by omega
      subst e4
      exact B_Md_isThere_2 (fun _ => B_Md_isThere_35 (k1 ((pq_eq hD.2 hE).mp hz))) (fun w => absurd (by decide) w)
    | succ e ih =>
      intro q he hq hz
      have eix : (4 : Int32) * nI sl + nI q = nI (4 * sl + q) := by rw [show (4 : Int32) = nI 4 from rfl, nI_mulN, nI_add]
      refine B_Md_isThere_2 (fun w => ?_) (fun _ => B_Md_isThere_7 hM.1 (mr_keys hM) (ms_keys hM) (by rw [eix]; exact vp_in_nI (by omega) (by omega)) (mr_to hM) (ms_to hM) (vp_in_nI (by omega) (by omega)) (fun w => ?_) (fun w => ?_))
      · rw [show (4 : Int32) = nI 4 from rfl, nI_leI (by omega) (by omega)] at w
        omega
      · rw [eix, nI_clamp (by omega), nI_clamp (by omega), hK q (by omega), hD.1 q (by omega), lg_cmp0, lN_inj64 (hl q) (hD.lt q)] at w
        refine B_Md_isThere_29 ?_
        rw [nI_1]
        refine ih (q + 1) (by omega) (by omega) (fun k hk => ?_)
        by_cases y : k = q
        · rw [y]
          exact w.symm
        · exact hz k (by omega)
      · rw [eix, nI_clamp (by omega), nI_clamp (by omega), hK q (by omega), hD.1 q (by omega), lg_cmp0, lN_inj64 (hl q) (hD.lt q)] at w
        exact B_Md_isThere_27 (k0 (fun z => w ((pq_eq hD.2 hE).mpr z q (by omega)).symm))
  exact B_Md_isThere_0 (loop _ 0 rfl (Nat.zero_le _) (fun k hk => absurd hk (by omega)))
theorem md_goesThere {d : Nat} {h : PH} {Q : PQ} {D : Nat → Nat} (hM : MdS h) (hD : DgA h 54 D) (k : ∀ h', DgA h' 53 D → Fr (fun x _ => x = 53) h h' → Q none h') : wpm (d + 1) 259 [.ref 17] h Q := by
  refine wpm_in P_Md_goesThere rfl (by decide) (by show ¬ 2 < 1; decide) ?_
  have loop : ∀ (e q : Nat) (g : PH), 4 - q = e → q ≤ 4 → (∀ k, k < q → h_l g 53 k = lN (pq D (32 * k) 32)) → Fr (fun x _ => x = 53) h g → wpx d P_Md_goesThere 2 [.ref 17, .int (nI q)] [] g Q := by
    intro e
    induction e with
    | zero =>
      intro q g he hq hz hf
      have e4 : q = 4 := by omega
      subst e4
      exact B_Md_goesThere_2 (fun _ => B_Md_goesThere_25 (k g ⟨hz, hD.2⟩ hf)) (fun w => absurd (by decide) w)
    | succ e ih =>
      intro q g he hq hz hf
      have hMg := hf.md hM
      refine B_Md_goesThere_2 (fun w => ?_) (fun _ => B_Md_goesThere_7 hMg.1 (mr_here hMg) (mr_gone hMg) (ms_gone hMg) (vp_in_nI (by omega) (by omega)) (ms_here hMg) (vp_in_nI (by omega) (by omega)) ?_)
      · rw [show (4 : Int32) = nI 4 from rfl, nI_leI (by omega) (by omega)] at w
        omega
      · rw [nI_clamp (by omega), nI_1]
        refine ih (q + 1) _ (by omega) (by omega) (fun k hk => ?_) (hf.tr (Fr.wl _ _ rfl))
        rw [h_l_wl]
        by_cases y : k = q
        · rw [if_pos ⟨rfl, y⟩, hf.l _ _ (by omega), y]
          exact hD.1 q (by omega)
        · rw [if_neg (fun w => y w.2)]
          exact hz k (by omega)
  exact B_Md_goesThere_0 (loop _ 0 h rfl (Nat.zero_le _) (fun k hk => absurd hk (by omega)) (Fr.rf _ _))
theorem stD_nil {N gs : List (List Nat)} {m : Nat} (hN : okN N) (i : Nat) : stD N gs m [] i = if i = 0 then 1 else 0 := by
  have n0 : 0 < N.length := (List.getElem?_eq_some_iff.mp hN.2.1).1
  unfold stD
  by_cases y : i = 0
  · have e : N.getD 0 [] = [] := gD hN.2.1
    have e1 : rdc gs m [] = 1 := rdc_nil gs m
    rw [y, if_pos n0, if_pos rfl, e, dR_nil, e1]
    rfl
  · rw [if_neg y]
    by_cases l : i < N.length
    · rw [if_pos l]
      have hj := gS (gs := N) l
      have hx := hN.ne (by omega) hj
      refine iteP_f (fun w => hx ?_)
      exact List.eq_nil_of_length_eq_zero (Nat.le_zero.mp w.1)
    · exact if_neg l
theorem stD_pq0 {N gs : List (List Nat)} {m q : Nat} (hN : okN N) (hq : 0 < q) : pq (stD N gs m []) (32 * q) 32 = 0 := by
  have e : ∀ t, t < 32 → stD N gs m [] (32 * q + t) * 4 ^ t = 0 := fun t ht => by
    rw [stD_nil hN, if_neg (by omega), Nat.zero_mul]
  unfold pq
  rw [sm_congr 32 e]
  exact sm_zero 32
theorem stD_pq1 {N gs : List (List Nat)} {m : Nat} (hN : okN N) : pq (stD N gs m []) 0 32 = 1 := by
  have a1 : stD N gs m [] (0 + 0) * 4 ^ 0 = 1 := by
    rw [stD_nil hN, if_pos rfl]
  have a2 : ∀ k, k < 32 → k ≠ 0 → stD N gs m [] (0 + k) * 4 ^ k = 0 := fun k hk hne => by
    rw [stD_nil hN, if_neg (by omega), Nat.zero_mul]
  unfold pq
  exact sm_at (f := fun j => stD N gs m [] (0 + j) * 4 ^ j) (l := 0) (by omega) a1 a2
