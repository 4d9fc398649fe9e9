/-! the class's cures: what can be chosen, what is chosen next, whether it heals -/
def chN (gs : List (List Nat)) (m : Nat) : Nat → List Nat
  | 0 => []
  | k + 1 => if inm m k ∧ (gs.getD k []).length ≤ 6 then chN gs m k ++ [k] else chN gs m k
def chL (gs : List (List Nat)) (m : Nat) : List Nat := chN gs m gs.length
theorem chN_mem {gs : List (List Nat)} {m : Nat} : ∀ {n j : Nat}, j ∈ chN gs m n ↔ inm (canN gs m n) j
  | 0, j => ⟨fun h => (by cases h), fun h => absurd h inm_0⟩
  | n + 1, j => by
    have ih := chN_mem (gs := gs) (m := m) (n := n) (j := j)
    unfold chN canN
    by_cases z : inm m n ∧ (gs.getD n []).length ≤ 6
    · rw [if_pos z, if_pos z, List.mem_append, ih, inm_or, inm_pow, List.mem_singleton]
    · rw [if_neg z, if_neg z, ih]
theorem chN_len {gs : List (List Nat)} {m : Nat} : ∀ n, (chN gs m n).length ≤ n
  | 0 => Nat.le_refl _
  | n + 1 => by
    have ih := chN_len (gs := gs) (m := m) n
    unfold chN
    by_cases z : inm m n ∧ (gs.getD n []).length ≤ 6
    · rw [if_pos z, List.length_append]
      show _ + 1 ≤ n + 1
      omega
    · rw [if_neg z]
      omega
theorem getD_m {N : List Nat} {i : Nat} (h : i < N.length) : N[i]? = some (N.getD i 0) := by
  rw [List.getD_eq_getElem?_getD, List.getElem?_eq_getElem h]
  rfl
theorem getD_i {N : List Nat} {i j : Nat} (h : N[i]? = some j) : N.getD i 0 = j := by
  rw [List.getD_eq_getElem?_getD, h]
  rfl
theorem chN_asc {gs : List (List Nat)} {m : Nat} : ∀ n, ∀ a b, a < b → b < (chN gs m n).length → (chN gs m n).getD a 0 < (chN gs m n).getD b 0
  | 0, _, _, _, h => absurd h (by show ¬ _ < 0; omega)
  | n + 1, a, b, hab, h => by
    have ih := chN_asc (gs := gs) (m := m) n
    unfold chN at h ⊢
    by_cases z : inm m n ∧ (gs.getD n []).length ≤ 6
    · rw [if_pos z] at h ⊢
      rw [List.length_append] at h
      have h' : b < (chN gs m n).length + 1 := h
      have la : a < (chN gs m n).length := by omega
      have ea : (chN gs m n ++ [n]).getD a 0 = (chN gs m n).getD a 0 := getD_i (by rw [List.getElem?_append_left la]; exact getD_m la)
      rw [ea]
      by_cases y : b < (chN gs m n).length
      · have eb : (chN gs m n ++ [n]).getD b 0 = (chN gs m n).getD b 0 := getD_i (by rw [List.getElem?_append_left y]; exact getD_m y)
        rw [eb]
        exact ih a b hab y
      · have eb : (chN gs m n ++ [n]).getD b 0 = n := getD_i (by rw [List.getElem?_append_right (by omega), show b - (chN gs m n).length = 0 by omega]; rfl)
        rw [eb]
        have := inm_canN.mp (chN_mem.mp (List.mem_of_getElem? (getD_m la)))
        exact this.1
    · rw [if_neg z] at h ⊢
      exact ih a b hab h
theorem chL_asc {gs : List (List Nat)} {m : Nat} (h14 : gs.length ≤ 14) : Asc (chL gs m) := ⟨chN_asc gs.length, fun a ha => by
  have := inm_canN.mp (chN_mem.mp (List.mem_of_getElem? (getD_m ha)))
  show (chN gs m gs.length).getD a 0 < 14
  omega⟩
theorem chL_in {gs : List (List Nat)} {m j : Nat} : inm (can gs m) j ↔ ∃ i, i < (chL gs m).length ∧ (chL gs m).getD i 0 = j := by
  unfold can
  rw [← chN_mem]
  constructor
  · intro h
    obtain ⟨i, hi⟩ := List.mem_iff_getElem?.mp h
    exact ⟨i, (List.getElem?_eq_some_iff.mp hi).1, getD_i hi⟩
  · rintro ⟨i, a, b⟩
    rw [← b]
    exact List.mem_of_getElem? (getD_m a)
theorem mkc_sub {gs : List (List Nat)} {m k : Nat} {c : Nat → Nat} (h : Inc (chL gs m).length k c) : sbs (mkc (chL gs m) c k) (can gs m) := fun j hj => by
  obtain ⟨i, a, b⟩ := inm_mkc.mp hj
  exact chL_in.mpr ⟨c i, h.2 i a, b⟩
def CNm (h : PH) (c : Nat) (gs : List (List Nat)) (m : Nat) : Prop := h_i h c 5 = nI (chL gs m).length ∧ h_i h c 6 = nI (can gs m) ∧ ∀ i j, (chL gs m)[i]? = some j → h_i h (c + 17) i = nI j
def Wcf (c x k : Nat) : Prop := x = c + 17 ∨ (x = c ∧ (k = 5 ∨ k = 6))
theorem CNm.fr {W : Nat → Nat → Prop} {h h' : PH} {c : Nat} {gs : List (List Nat)} {m : Nat} (hf : Fr W h h') (hw : ∀ x k, W x k → ¬ Wcf c x k) (hn : CNm h c gs m) : CNm h' c gs m := by
  obtain ⟨a, b, e⟩ := hn
  exact ⟨(hf.i _ _ (fun q => hw _ _ q (Or.inr ⟨rfl, Or.inl rfl⟩))).trans a, (hf.i _ _ (fun q => hw _ _ q (Or.inr ⟨rfl, Or.inr rfl⟩))).trans b, fun i j hj => (hf.i _ _ (fun q => hw _ _ q (Or.inl rfl))).trans (e i j hj)⟩
theorem cu_find {d : Nat} {h : PH} {Q : PQ} {c : Nat} {gs : List (List Nat)} {m : Nat} (hS : CuS h c) (hG : GrS h 2) (hg : CGr h 2 gs m) (k : ∀ h', CNm h' c gs m → Fr (Wcf c) h h' → Q none h') : wpm (d + 3) 27 [.ref c, .ref 2] h Q := by
  refine wpm_in P_Cu_findChoosable rfl (by decide) (by show ¬ 3 < 2; decide) ?_
  have h14 := hg.1.1
  have hc63 : 63 ≤ c := hS.2.2.2.2.2.2.2.2.2.1
  have loop : ∀ (e n : Nat) (g : PH), gs.length - n = e → n ≤ gs.length → Fr (Wcf c) h g → h_i g c 5 = nI (chN gs m n).length → h_i g c 6 = nI (canN gs m n) → (∀ i j, (chN gs m n)[i]? = some j → h_i g (c + 17) i = nI j) → wpx (d + 2) P_Cu_findChoosable 12 [.ref c, .ref 2, .int (nI n)] [] g Q := by
    intro e
    induction e with
    | zero =>
      intro n g he hn hf h5 h6 h17
      have hGg := hf.gr hG
      have gg := CGr.fr hf (fun x k z y => by unfold Wcf at z; omega) hg
      refine B_Cu_findChoosable_12 hGg.1 (fun _ => B_Cu_findChoosable_77 ?_) (fun q => ?_)
      · have e1 : n = gs.length := by omega
        rw [e1] at h5 h6 h17
        exact k g ⟨h5, h6, h17⟩ hf
      · rw [gg.2.1, nI_leI (by omega) (by omega)] at q
        omega
    | succ e ih =>
      intro n g he hn hf h5 h6 h17
      have hGg := hf.gr hG
      have hSg := hS.fr hf
      have gg := CGr.fr hf (fun x k z y => by unfold Wcf at z; omega) hg
      refine B_Cu_findChoosable_12 hGg.1 (fun q => ?_) (fun _ => B_Cu_findChoosable_20 hGg.1 ?_)
      · rw [gg.2.1, nI_leI (by omega) (by omega)] at q
        omega
      have gn := gS (gs := gs) (k := n) (by omega)
      have l7 := (hg.1.at gn).1.2
      have e0 : canN gs m (n + 1) = if inm m n ∧ (gs.getD n []).length ≤ 6 then canN gs m n ||| 2 ^ n else canN gs m n := rfl
      have e1 : chN gs m (n + 1) = if inm m n ∧ (gs.getD n []).length ≤ 6 then chN gs m n ++ [n] else chN gs m n := rfl
      have skip : ¬ (inm m n ∧ (gs.getD n []).length ≤ 6) → wpx (d + 2) P_Cu_findChoosable 71 [.ref c, .ref 2, .int (nI n)] [] g Q := fun z => by
        rw [if_neg z] at e0 e1
        refine B_Cu_findChoosable_71 ?_
        rw [nI_1]
        exact ih (n + 1) g (by omega) (by omega) hf (by rw [e1]; exact h5) (by rw [e0]; exact h6) (by rw [e1]; exact h17)
      refine gr_isIn hGg gg (by omega) (fun q => B_Cu_findChoosable_25 (fun z => absurd z (by decide)) (fun _ => ?_)) (fun q => B_Cu_findChoosable_25 (fun _ => skip (fun w => q w.1)) (fun z => absurd rfl z))
      refine B_Cu_findChoosable_28 hGg.1 hGg.2.2.1.1 hGg.2.2.1.2 (vp_in_nI (by omega) (by omega)) (fun z => ?_) (fun z => ?_)
      · rw [nI_clamp (by omega), (gg.2.2.2 n _ gn).2, show (6 : Int32) = nI 6 from rfl, nI_ltI (by omega) (by omega)] at z
        exact skip (fun w => by have := w.2; omega)
      · rw [nI_clamp (by omega), (gg.2.2.2 n _ gn).2, show (6 : Int32) = nI 6 from rfl, nI_ltI (by omega) (by omega)] at z
        rw [if_pos ⟨q, by omega⟩] at e0 e1
        have nl := chN_len (gs := gs) (m := m) n
        have cn : canN gs m n < 2 ^ n := canN_lt
        have pn : 2 ^ n ≤ 2 ^ 14 := Nat.pow_le_pow_right (by decide) (by omega)
        obtain ⟨f4, f4'⟩ := hSg.2.2.2.2.2.1
        refine B_Cu_findChoosable_39 hSg.1 f4 f4' (by rw [h5]; exact vp_in_nI (by omega) (by omega)) (B_Cu_findChoosable_71 ?_)
        rw [h5, nI_clamp (by omega), wi_ne _ _ (by omega), h5, wi_ne _ _ (by omega), wi_ne _ _ (by omega), h6, sh1k _ (by omega), nI_orN (by omega) (by omega), nI_1, nI_1, ← e0]
        refine ih (n + 1) _ (by omega) (by omega) (hf.tr ((Fr.wi _ _ (Or.inl rfl)).tr ((Fr.wi _ _ (Or.inr ⟨rfl, Or.inl rfl⟩)).tr (Fr.wi _ _ (Or.inr ⟨rfl, Or.inr rfl⟩))))) ?_ (wi_eq ..) (fun i j hj => ?_)
        · rw [wi_ne _ _ (by omega), wi_eq, e1, List.length_append]
          rfl
        · rw [wi_ne _ _ (by omega), wi_ne _ _ (by omega)]
          rw [e1] at hj
          by_cases y : i < (chN gs m n).length
          · rw [List.getElem?_append_left y] at hj
            rw [wi_ne _ _ (by omega)]
            exact h17 i j hj
          · rw [List.getElem?_append_right (by omega)] at hj
            have hi := (List.getElem?_eq_some_iff.mp hj).1
            have hi' : i - (chN gs m n).length < 1 := hi
            have ei : i = (chN gs m n).length := by omega
            rw [ei, Nat.sub_self] at hj
            have ej : n = j := Option.some.inj hj
            rw [ei, wi_eq, ej]
  have f0 : Fr (Wcf c) h (w_i (w_i h c 5 0) c 6 0) := (Fr.wi _ _ (Or.inr ⟨rfl, Or.inl rfl⟩)).tr (Fr.wi _ _ (Or.inr ⟨rfl, Or.inr rfl⟩))
  refine B_Cu_findChoosable_0 hS.1 (loop _ 0 _ rfl (Nat.zero_le _) f0 ?_ (wi_eq ..) (fun i j hj => by cases hj))
  rw [wi_ne _ _ (by omega), wi_eq]
  rfl
/-- the set that is chosen -/
theorem cu_mask {d : Nat} {h : PH} {Q : PQ} {c k : Nat} {gs : List (List Nat)} {m : Nat} {cs : Nat → Nat} (hS : CuS h c) (h14 : gs.length ≤ 14) (hn : CNm h c gs m) (hi : Inc (chL gs m).length k cs) (hr : ∀ i, i < k → h_i h (c + 18) i = nI (cs i)) (kk : Q (some (.int (nI (mkc (chL gs m) cs k)))) h) : wpm (d + 1) 29 [.ref c, .int (nI k)] h Q := by
  refine wpm_in P_Cu_chosenMask rfl (by decide) (by show ¬ 4 < 2; decide) (B_Cu_chosenMask_0 ?_)
  have nl : (chL gs m).length ≤ gs.length := chN_len gs.length
  have hk := hi.len
  have ha := chL_asc (gs := gs) (m := m) h14
  have loop : ∀ (e i : Nat), k - i = e → i ≤ k → wpx d P_Cu_chosenMask 4 [.ref c, .int (nI k), .int (nI (mkc (chL gs m) cs i)), .int (nI i)] [] h Q := by
    intro e
    induction e with
    | zero =>
      intro i he hik
      have ei : i = k := by omega
      subst ei
      exact B_Cu_chosenMask_4 (fun _ => B_Cu_chosenMask_31 kk) (fun q => absurd (nI_le (by omega) (by omega)) q)
    | succ e ih =>
      intro i he hik
      obtain ⟨f4, f4'⟩ := hS.2.2.2.2.2.1
      obtain ⟨f7, f7'⟩ := hS.2.2.2.2.2.2.1
      have ci := hi.2 i (by omega)
      have ml : mkc (chL gs m) cs i < 2 ^ 14 := mkc_lt ha (k := i) ⟨fun j hj => hi.1 j (by omega), fun j hj => hi.2 j (by omega)⟩
      have jl := ha.2 (cs i) ci
      refine B_Cu_chosenMask_4 (fun q => ?_) (fun _ => B_Cu_chosenMask_9 hS.1 f4 f7 f7' (vp_in_nI (by omega) (by omega)) f4' (by rw [nI_clamp (by omega), hr i (by omega)]; exact vp_in_nI (by omega) (by omega)) ?_)
      · rw [nI_leI (by omega) (by omega)] at q
        omega
      · have p14 : 2 ^ ((chL gs m).getD (cs i) 0) < 2 ^ 14 := Nat.pow_lt_pow_right (by decide) jl
        rw [nI_clamp (by omega), hr i (by omega), nI_clamp (by omega), hn.2.2 _ _ (getD_m ci), sh1k _ (by omega), nI_orN (by omega) (by omega), nI_1]
        exact ih (i + 1) (by omega) (by omega)
  exact loop _ 0 rfl (Nat.zero_le _)
/-- what is chosen next -/
theorem cu_next {d : Nat} {h : PH} {Q : PQ} {c k n : Nat} {cs : Nat → Nat} (hS : CuS h c) (h14 : n ≤ 14) (hn : h_i h c 5 = nI n) (hi : Inc n k cs) (hr : ∀ i, i < k → h_i h (c + 18) i = nI (cs i)) (k0 : (∀ i, i < k → cs i = n - k + i) → Q (some (.int 0)) h) (k1 : ∀ i, i < k → cs i < n - k + i → (∀ t, i < t → t < k → cs t = n - k + t) → ∀ h', (∀ t, t < k → h_i h' (c + 18) t = nI (nxc cs i t)) → Fr (fun x _ => x = c + 18) h h' → Q (some (.int 1)) h') : wpm (d + 1) 30 [.ref c, .int (nI k)] h Q := by
  refine wpm_in P_Cu_chooseNext rfl (by decide) (by show ¬ 4 < 2; decide) (B_Cu_chooseNext_0 ?_)
  have hk := hi.len
  obtain ⟨f7, f7'⟩ := hS.2.2.2.2.2.2.1
  have fill : ∀ (i : Nat), i < k → cs i < n - k + i → (∀ t, i < t → t < k → cs t = n - k + t) → ∀ (e j : Nat) (g : PH), k - j = e → i < j → j ≤ k → Fr (fun x _ => x = c + 18) h g → (∀ t, t < j → h_i g (c + 18) t = nI (nxc cs i t)) → wpx d P_Cu_chooseNext 51 [.ref c, .int (nI k), .int (nI i), .int (nI j)] [] g Q := by
    intro i hik hci hm e
    induction e with
    | zero =>
      intro j g he hij hjk hf hg
      have ej : j = k := by omega
      rw [ej] at hg ⊢
      exact B_Cu_chooseNext_51 (fun _ => B_Cu_chooseNext_78 (k1 i hik hci hm g hg hf)) (fun q => absurd (nI_le (by omega) (by omega)) q)
    | succ e ih =>
      intro j g he hij hjk hf hg
      have hSg := hS.fr hf
      obtain ⟨g7, g7'⟩ := hSg.2.2.2.2.2.2.1
      have ej : nI j - (1 : Int32) = nI (j - 1) := by rw [show (1 : Int32) = nI 1 from rfl, nI_subN (by omega)]
      refine B_Cu_chooseNext_51 (fun q => ?_) (fun _ => B_Cu_chooseNext_56 hSg.1 g7 g7' (by rw [ej]; exact vp_in_nI (by omega) (by omega)) (vp_in_nI (by omega) (by omega)) ?_)
      · rw [nI_leI (by omega) (by omega)] at q
        omega
      · rw [ej, nI_clamp (by omega), nI_clamp (by omega), hg (j - 1) (by omega), nI_1, nI_1]
        refine ih (j + 1) _ (by omega) (by omega) (by omega) (hf.tr (Fr.wi _ _ rfl)) (fun t ht => ?_)
        by_cases y : t = j
        · rw [y, wi_eq]
          unfold nxc
          rw [if_neg (by omega), if_neg (by omega)]
          congr 1
          omega
        · rw [wi_ne _ _ (by omega)]
          exact hg t (by omega)
  have loop : ∀ (j : Nat) (v : Value), j ≤ k → (∀ t, j ≤ t → t < k → cs t = n - k + t) → wpx d P_Cu_chooseNext 4 [.ref c, .int (nI k), .int (nI j - (1 : Int32)), v] [] h Q := by
    intro j
    induction j with
    | zero =>
      intro v _ hm
      refine B_Cu_chooseNext_4 (fun _ => B_Cu_chooseNext_31 (fun q => absurd q (by decide)) (fun _ => B_Cu_chooseNext_35 (k0 (fun i hi => hm i (by omega) hi)))) (fun q => absurd (by decide) q)
    | succ j ih =>
      intro v hj hm
      rw [nI_pred]
      have up := hi.up (i := j) (by omega)
      refine B_Cu_chooseNext_4 (fun q => absurd q (nI_lt0 (by omega))) (fun _ => B_Cu_chooseNext_8 hS.1 f7 f7' (vp_in_nI (by omega) (by omega)) (fun q => ?_) (fun q => ?_))
      · rw [nI_clamp (by omega), hr j (by omega), hn, nI_subN hk, nI_add, nI_ltI (by omega) (by omega)] at q
        refine B_Cu_chooseNext_31 (fun _ => B_Cu_chooseNext_37 hS.1 f7 f7' (vp_in_nI (by omega) (by omega)) ?_) (fun z => absurd (nI_le (a := 0) (by omega) (by omega)) z)
        rw [nI_clamp (by omega), hr j (by omega), nI_1, nI_1]
        refine fill j (by omega) q (fun t t1 t2 => hm t (by omega) t2) _ (j + 1) _ rfl (by omega) (by omega) (Fr.wi _ _ rfl) (fun t ht => ?_)
        by_cases y : t = j
        · rw [y, wi_eq]
          unfold nxc
          rw [if_neg (by omega), Nat.sub_self]
        · rw [wi_ne _ _ (by omega), hr t (by omega)]
          unfold nxc
          rw [if_pos (by omega)]
      · rw [nI_clamp (by omega), hr j (by omega), hn, nI_subN hk, nI_add, nI_ltI (by omega) (by omega)] at q
        refine B_Cu_chooseNext_25 ?_
        rw [nI_dn]
        refine ih v (by omega) (fun t t1 t2 => ?_)
        by_cases y : t = j
        · rw [y]
          omega
        · exact hm t (by omega) t2
  exact loop k _ (Nat.le_refl _) (fun t t1 t2 => absurd t1 (by omega))
/-- what was learnt of sets that don't heal -/
def CLr (h : PH) (c : Nat) (Ls : List (Nat × Nat)) (hp : Bool) : Prop := h_i h c 10 = nI Ls.length ∧ Ls.length ≤ 1024 ∧ (∀ j p, Ls[j]? = some p → h_i h (c + 19) j = nI p.1 ∧ h_i h (c + 20) j = nI p.2 ∧ p.1 < 2 ^ 14 ∧ p.2 < 2 ^ 14) ∧ h_i h c 11 = (if hp = true then 1 else 0)
def Whe (c x k : Nat) : Prop := (c + 1 ≤ x ∧ x ≤ c + 11) ∨ x = c + 19 ∨ x = c + 20 ∨ (x = c ∧ (k = 10 ∨ k = 11))
theorem CLr.fr {W : Nat → Nat → Prop} {h h' : PH} {c : Nat} {Ls : List (Nat × Nat)} {hp : Bool} (hf : Fr W h h') (hw : ∀ x k, W x k → ¬ (x = c + 19 ∨ x = c + 20 ∨ (x = c ∧ (k = 10 ∨ k = 11)))) (hn : CLr h c Ls hp) : CLr h' c Ls hp := by
  obtain ⟨a, b, e, f⟩ := hn
  exact ⟨(hf.i _ _ (fun q => hw _ _ q (Or.inr (Or.inr ⟨rfl, Or.inl rfl⟩)))).trans a, b, fun j p hj => ⟨(hf.i _ _ (fun q => hw _ _ q (Or.inl rfl))).trans (e j p hj).1, (hf.i _ _ (fun q => hw _ _ q (Or.inr (Or.inl rfl)))).trans (e j p hj).2.1, (e j p hj).2.2⟩, (hf.i _ _ (fun q => hw _ _ q (Or.inr (Or.inr ⟨rfl, Or.inr rfl⟩)))).trans f⟩
theorem cu_refuted {d : Nat} {h : PH} {Q : PQ} {c s : Nat} {Ls : List (Nat × Nat)} {hp : Bool} (hS : CuS h c) (hl : CLr h c Ls hp) (hs : s < 2 ^ 14) (kt : ∀ p, p ∈ Ls → s &&& p.1 = p.2 → Q (some (.int 1)) h) (kf : Q (some (.int 0)) h) : wpm (d + 1) 31 [.ref c, .int (nI s)] h Q := by
  refine wpm_in P_Cu_isRefuted rfl (by decide) (by show ¬ 3 < 2; decide) (B_Cu_isRefuted_0 ?_)
  obtain ⟨l1, l2, l3, l4⟩ := hl
  have loop : ∀ (e j : Nat), Ls.length - j = e → j ≤ Ls.length → wpx d P_Cu_isRefuted 2 [.ref c, .int (nI s), .int (nI j)] [] h Q := by
    intro e
    induction e with
    | zero =>
      intro j he hj
      refine B_Cu_isRefuted_2 hS.1 (fun _ => B_Cu_isRefuted_35 kf) (fun q => ?_)
      rw [l1, nI_leI (by omega) (by omega)] at q
      omega
    | succ e ih =>
      intro j he hj
      obtain ⟨f8, f8'⟩ := hS.2.2.2.2.2.2.2.1
      obtain ⟨f9, f9'⟩ := hS.2.2.2.2.2.2.2.2.1
      have gj : Ls[j]? = some Ls[j] := List.getElem?_eq_getElem (by omega)
      generalize Ls[j] = p at gj
      obtain ⟨p1, p2, p3, p4⟩ := l3 j p gj
      have al : s &&& p.1 < 2 ^ 14 := Nat.lt_of_le_of_lt Nat.and_le_left hs
      refine B_Cu_isRefuted_2 hS.1 (fun q => ?_) (fun _ => B_Cu_isRefuted_10 hS.1 f8 f8' (vp_in_nI (by omega) (by omega)) f9 f9' (vp_in_nI (by omega) (by omega)) (fun _ => B_Cu_isRefuted_29 ?_) (fun q => B_Cu_isRefuted_27 ?_))
      · rw [l1, nI_leI (by omega) (by omega)] at q
        omega
      · rw [nI_1]
        exact ih (j + 1) (by omega) (by omega)
      · rw [nI_clamp (by omega), p1, p2, nI_andN (by omega) (by omega), nI_eq (by omega) (by omega)] at q
        exact kt p (List.mem_of_getElem? gj) q
  exact loop _ 0 rfl (Nat.zero_le _)
def Lrn (x : Int32) (gs : List (List Nat)) (m : Nat) (Ls : List (Nat × Nat)) (hp : Bool) : Prop := (∀ p, p ∈ Ls → ∀ s, sbs s (can gs m) → s &&& p.1 = p.2 → ¬ Hls x gs m s) ∧ (hp = true → ∀ s, sbs s (can gs m) → ¬ Hls x gs m s)
theorem hls_ok {x : Int32} {gs : List (List Nat)} {m s : Nat} (ho : okg gs m) (hs : s < 2 ^ gs.length) : okg (hlg x s gs) (hlm x s m) := by
  unfold hlg hlm
  by_cases z : x = 2
  · rw [if_pos z, if_pos z]
    exact ⟨ho.1, Nat.xor_lt_two_pow ho.2.1 hs, ho.2.2⟩
  · rw [if_neg z, if_neg z]
    exact mkg_ok ho
/-- groups that clash go on clashing as long as just these of them are chosen -/
theorem hls_no {x : Int32} {gs : List (List Nat)} {m s s' y : Nat} (hs : sbs s (can gs m)) (hs' : sbs s' (can gs m)) (hy : Cla (hlg x s gs) (hlm x s m) y) (e : s' &&& (y &&& can gs m) = s &&& (y &&& can gs m)) : ¬ Hls x gs m s' := by
  intro hh
  obtain ⟨y1, y2⟩ := hy
  have key : ∀ k, inm y k → (inm s k ↔ inm s' k) := fun k hk => by
    have t : inm (s' &&& (y &&& can gs m)) k ↔ inm (s &&& (y &&& can gs m)) k := by rw [e]
    simp only [inm_and] at t
    constructor
    · intro w
      exact (t.mpr ⟨w, hk, hs k w⟩).1
    · intro w
      exact (t.mp ⟨w, hk, hs' k w⟩).1
  refine y1 (Prt_mono ?_ hh)
  intro k l hk hi
  have kk := key k hi
  have km := (y2 k hi).1
  unfold hlg at hk ⊢
  unfold hlm at km ⊢
  by_cases z : x = 2
  · rw [if_pos z] at hk km ⊢
    rw [if_pos z]
    refine ⟨hk, ?_⟩
    rw [inm_xor] at km ⊢
    rw [← kk]
    exact km
  · rw [if_neg z] at hk km ⊢
    rw [if_neg z]
    refine ⟨?_, km⟩
    obtain ⟨a, ha, el⟩ := mkg_at hk
    have : (mkg x s' gs)[k]? = some (mkr x s' k a) := by
      unfold mkg
      rw [List.getElem?_mapIdx, ha]
      rfl
    rw [this, el]
    unfold mkr
    by_cases v : inm s k ∧ a.length < 7
    · rw [if_pos v, if_pos ⟨kk.mp v.1, v.2⟩]
    · rw [if_neg v, if_neg (fun w => v ⟨kk.mpr w.1, w.2⟩)]
theorem cu_heals {d : Nat} {h : PH} {Q : PQ} {c s : Nat} {x : Int32} {gs : List (List Nat)} {m : Nat} {Ls : List (Nat × Nat)} {hp : Bool} (hS : CuS h c) (hG : GrS h 2) (hg : CGr h 2 gs m) (hn : CNm h c gs m) (hl : CLr h c Ls hp) (hL : Lrn x gs m Ls hp) (hs : sbs s (can gs m)) (kt : Hls x gs m s → ∀ h', CLr h' c Ls hp → Fr (Whe c) h h' → Q (some (.int 1)) h') (kf : ¬ Hls x gs m s → ∀ Ls' hp' h', CLr h' c Ls' hp' → Lrn x gs m Ls' hp' → Fr (Whe c) h h' → Q (some (.int 0)) h') : wpm (d + 6) 32 [.ref c, .ref 2, .int x, .int (nI s)] h Q := by
  refine wpm_in P_Cu_heals rfl (by decide) (by show ¬ 5 < 4; decide) ?_
  obtain ⟨f0, T0⟩ := hS.2.1
  have h14 := hg.1.1
  have hc63 : 63 ≤ c := hS.2.2.2.2.2.2.2.2.2.1
  obtain ⟨c1, c2⟩ := can_sub hs
  have s14 : s < 2 ^ 14 := Nat.lt_of_lt_of_le c2 (Nat.pow_le_pow_right (by decide) h14)
  have cl14 : can gs m < 2 ^ 14 := Nat.lt_of_lt_of_le canN_lt (Nat.pow_le_pow_right (by decide) h14)
  -- what follows once the trial's tails are built
  have rest : ∀ (g : PH) (v4 : Value), Fr (Whe c) h g → CLr g c Ls hp → CTs g (c + 7) (rnds (hlg x s gs) (hlm x s m) true 98 [] (fsA (hlg x s gs) (hlm x s m) (hlg x s gs).length 0 []) none 1) → wpx (d + 5) P_Cu_heals 29 [.ref c, .ref 2, .int x, .int (nI s), v4] [] g Q := by
    intro g v4 hf hl1 ct
    have hS1 := hS.fr hf
    have hn1 := hn.fr hf (fun x k z y => by unfold Whe at z; unfold Wcf at y; omega)
    obtain ⟨t1, T1⟩ := hS1.2.2.1
    have db := ct.2.2.1
    rw [rnds_only] at db
    have db' : DB g (c + 7) (allR (hlg x s gs) (hlm x s m)).2 := db
    have hP := allR_P (hls_ok (x := x) hg.1 c2)
    have hC := allR_M (gs := hlg x s gs) (m := hlm x s m)
    cases e : (allR (hlg x s gs) (hlm x s m)).2 with
    | none =>
      rw [e] at db'
      refine B_Cu_heals_29 hS1.1 t1 T1.1 (fun z => absurd db'.1 z) (fun _ => B_Cu_heals_40 (kt (hP.mp e) g hl1 hf))
    | some y =>
      rw [e] at db'
      obtain ⟨d1, d2, d3⟩ := db'
      have hy := hC y e
      have nh : ¬ Hls x gs m s := fun w => by
        have := hP.mpr w
        rw [e] at this
        cases this
      have y14 : y.2 < 2 ^ 14 := lt_inm (fun k hk => by
        have a1 := (hy.2 k hk).2
        have a2 := (hls_ok (x := x) hg.1 c2).1
        omega)
      have yc : y.2 &&& can gs m < 2 ^ 14 := Nat.lt_of_le_of_lt Nat.and_le_right cl14
      have ya : s &&& (y.2 &&& can gs m) < 2 ^ 14 := Nat.lt_of_le_of_lt Nat.and_le_left s14
      have no : ∀ s', sbs s' (can gs m) → s' &&& (y.2 &&& can gs m) = s &&& (y.2 &&& can gs m) → ¬ Hls x gs m s' := fun s' h1 h2 => hls_no hs h1 hy h2
      refine B_Cu_heals_29 hS1.1 t1 T1.1 (fun _ => ?_) (fun z => ?_)
      rotate_left
      · rw [d1] at z
        exact absurd z (nI_neg1 (by omega))
      have after : ∀ (hp' : Bool), (hp' = true → ∀ s', sbs s' (can gs m) → ¬ Hls x gs m s') → wpx (d + 5) P_Cu_heals 67 [.ref c, .ref 2, .int x, .int (nI s), .int (nI (y.2 &&& can gs m))] [.int (if hp' = true then 1 else 0), .ref c] g Q := by
        intro hp' hh
        have fa : Fr (Whe c) g (w_i g c 11 (if hp' = true then 1 else 0)) := Fr.wi _ _ (Or.inr (Or.inr (Or.inr ⟨rfl, Or.inr rfl⟩)))
        have l11 : h_i (w_i g c 11 (if hp' = true then 1 else 0)) c 11 = (if hp' = true then 1 else 0) := wi_eq ..
        have l10 : h_i (w_i g c 11 (if hp' = true then 1 else 0)) c 10 = nI Ls.length := by rw [wi_ne _ _ (by omega)]; exact hl1.1
        have l19 : ∀ j p, Ls[j]? = some p → h_i (w_i g c 11 (if hp' = true then 1 else 0)) (c + 19) j = nI p.1 ∧ h_i (w_i g c 11 (if hp' = true then 1 else 0)) (c + 20) j = nI p.2 ∧ p.1 < 2 ^ 14 ∧ p.2 < 2 ^ 14 := fun j p hj => by
          rw [wi_ne _ _ (by omega), wi_ne _ _ (by omega)]
          exact hl1.2.2.1 j p hj
        have nb : narrow .boolean (.int (if hp' = true then 1 else 0)) = .int (if hp' = true then 1 else 0) ∧ fits .boolean (.int (if hp' = true then 1 else 0)) = true := by cases hp' <;> exact ⟨rfl, rfl⟩
        refine B_Cu_heals_67 hS1.1 nb.1 nb.2 hS1.1 (fun z => ?_) (fun z => ?_) <;> generalize w_i g c 11 (if hp' = true then 1 else 0) = g1 at fa l11 l10 l19 z ⊢
        · exact B_Cu_heals_114 (kf nh Ls hp' g1 ⟨l10, hl1.2.1, l19, l11⟩ ⟨hL.1, hh⟩ (hf.tr fa))
        · have len := hl1.2.1
          rw [l10, show (1024 : Int32) = nI 1024 from rfl, nI_leI (by omega) (by omega)] at z
          have hS2 := hS1.fr fa
          obtain ⟨f8, f8'⟩ := hS2.2.2.2.2.2.2.2.1
          obtain ⟨f9, f9'⟩ := hS2.2.2.2.2.2.2.2.2.1
          have q10 : h_i (w_i g1 (c + 19) Ls.length (nI (y.2 &&& can gs m))) c 10 = nI Ls.length := by rw [wi_ne _ _ (by omega)]; exact l10
          refine B_Cu_heals_80 hS2.1 f8 f8' (by rw [l10]; exact vp_in_nI (by omega) (by omega)) f9 f9' (by rw [l10, nI_clamp (by omega), q10]; exact vp_in_nI (by omega) (by omega)) (B_Cu_heals_114 ?_)
          rw [l10, nI_clamp (by omega), q10, nI_clamp (by omega), wi_ne _ _ (by omega), q10, nI_1, nI_andN (by omega) (by omega)]
          refine kf nh (Ls ++ [(y.2 &&& can gs m, s &&& (y.2 &&& can gs m))]) hp' _ ⟨?_, ?_, fun j p hj => ?_, ?_⟩ ⟨fun p hpp => ?_, hh⟩ (hf.tr (fa.tr ((Fr.wi _ _ (Or.inr (Or.inl rfl))).tr ((Fr.wi _ _ (Or.inr (Or.inr (Or.inl rfl)))).tr (Fr.wi _ _ (Or.inr (Or.inr (Or.inr ⟨rfl, Or.inl rfl⟩))))))))
          · rw [wi_eq, List.length_append]
            rfl
          · rw [List.length_append]
            show Ls.length + 1 ≤ 1024
            omega
          · by_cases v : j < Ls.length
            · rw [List.getElem?_append_left v] at hj
              rw [wi_ne _ _ (by omega), wi_ne _ _ (by omega), wi_ne _ _ (by omega), wi_ne _ _ (by omega), wi_ne _ _ (by omega), wi_ne _ _ (by omega)]
              exact l19 j p hj
            · rw [List.getElem?_append_right (by omega)] at hj
              have hi := (List.getElem?_eq_some_iff.mp hj).1
              have hi' : j - Ls.length < 1 := hi
              have ej : j = Ls.length := by omega
              rw [ej, Nat.sub_self] at hj
              have ep : (y.2 &&& can gs m, s &&& (y.2 &&& can gs m)) = p := Option.some.inj hj
              rw [ej, ← ep]
              refine ⟨?_, ?_, yc, ya⟩
              · rw [wi_ne _ _ (by omega), wi_ne _ _ (by omega), wi_eq]
              · rw [wi_ne _ _ (by omega), wi_eq]
          · rw [wi_ne _ _ (by omega), wi_ne _ _ (by omega), wi_ne _ _ (by omega)]
            exact l11
          · rcases List.mem_append.mp hpp with v | v
            · exact hL.1 p v
            · rw [List.mem_singleton.mp v]
              exact no
      refine B_Cu_heals_42 hS1.1 t1 T1.1 (fun z => ?_) (fun z => ?_)
      · rw [d2, hn1.2.1, nI_andN (by omega) (by omega)] at z ⊢
        exact B_Cu_heals_66 (after false (fun w => by cases w))
      · rw [d2, hn1.2.1, nI_andN (by omega) (by omega)] at z ⊢
        have z0 := (nI_eq (b := 0) (by omega) (by omega)).mp z
        refine B_Cu_heals_62 (after true (fun _ s' hs' => no s' hs' ?_))
        rw [z0, Nat.and_zero, Nat.and_zero]
  have build : ∀ (g : PH) (v4 : Value), Fr (fun x _ => c + 1 ≤ x ∧ x ≤ c + 3) h g → CGr g (c + 1) (hlg x s gs) (hlm x s m) → wpx (d + 5) P_Cu_heals 17 [.ref c, .ref 2, .int x, .int (nI s), v4] [] g Q := by
    intro g v4 hf hgt
    have hS1 := hS.fr hf
    obtain ⟨t0, U0⟩ := hS1.2.1
    obtain ⟨t1, T1⟩ := hS1.2.2.1
    refine B_Cu_heals_17 hS1.1 t1 t0 T1.1 ?_
    have key := ta_build (d := d) (Q := fun r h' => wpx (d + 5) P_Cu_heals 29 [.ref c, .ref 2, .int x, .int (nI s), v4] (r.toList ++ []) h' Q) (only := true) T1 U0 (by omega) hgt (fun g2 ct e8 f2 => by
      have F : Fr (Whe c) h g2 := (hf.up (fun x k z => by unfold Whe; omega)).tr (f2.up (fun x k z => by unfold WtB at z; unfold Whe; omega))
      exact rest g2 v4 F ((hl.fr hf (fun x k z => by omega)).fr f2 (fun x k z => by unfold WtB at z; omega)) ct)
    exact key
  refine B_Cu_heals_0 hS.1 f0 T0.1 (gr_copyFrom hG T0 (by omega) hg (fun g hgt f1 => ?_))
  have hS1 := hS.fr f1
  obtain ⟨t0, U0⟩ := hS1.2.1
  refine B_Cu_heals_8 hS1.1 t0 U0.1 ?_
  by_cases z : x = 2
  · subst z
    exact gr_change2 U0 hgt c2 (fun g2 h2 _ f2 => build g2 _ (f1.tr (f2.up (fun x k w => by omega))) (by unfold hlg hlm; exact h2))
  · exact gr_changeM U0 hgt z (by omega) (fun g2 h2 _ f2 => build g2 _ (f1.tr (f2.up (fun x k w => by unfold Wcm at w; omega))) (by unfold hlg hlm; rw [if_neg z, if_neg z]; exact h2))
