/-! drawn on both sides -/
theorem nI_rem {u c : Nat} (hu : u < 2 ^ 31) (hc : c < 2 ^ 31) : nI u - nI u / nI c * nI c = nI (u % c) := by
  rw [Jvm.irem_eq_mod]
  apply Int32.toInt_inj.mp
  rw [Int32.toInt_mod, nI_toInt hu, nI_toInt hc, nI_toInt (Nat.lt_of_le_of_lt (Nat.mod_le _ _) hu)]
  rfl
theorem u32_nI (z : UInt32) : z.toInt32 = nI z.toNat := by
  have : UInt32.ofNat z.toNat = z := UInt32.ofNat_toNat
  exact congrArg UInt32.toInt32 this.symm
/-- sixteen bits of a seed -/
def drU (x : Int32) : Nat := (x.toUInt32 >>> 16).toNat
theorem drU_lt (x : Int32) : drU x < 65536 := by
  unfold drU
  rw [UInt32.toNat_shiftRight]
  show x.toUInt32.toNat >>> 16 < 65536
  rw [Nat.shiftRight_eq_div_pow]
  have := x.toUInt32.toNat_lt
  omega
theorem drU_is (x : Int32) : ((x.toUInt32 >>> ((16 : Int32).toUInt32 &&& Int32.toUInt32 31)).toInt32) = nI (drU x) := by
  rw [show ((16 : Int32).toUInt32 &&& Int32.toUInt32 31) = 16 from by decide]
  exact u32_nI _
/-- the i-th group of a mask, from group j on -/
def inN (m : Nat) : Nat → Nat → Nat → Option Nat
  | 0, _, _ => none
  | c + 1, j, i => if inm m j then (if i = 0 then some j else inN m c (j + 1) (i - 1)) else inN m c (j + 1) i
theorem inN_some {m : Nat} : ∀ (c j i : Nat), i + pop m j < pop m (j + c) → ∃ a, inN m c j i = some a ∧ j ≤ a ∧ a < j + c ∧ inm m a
  | 0, j, i, h => by
    rw [Nat.add_zero] at h
    omega
  | c + 1, j, i, h => by
    have e : j + (c + 1) = j + 1 + c := by omega
    rw [e] at h ⊢
    have p1 : pop m (j + 1) = pop m j + m / 2 ^ j % 2 := rfl
    unfold inN
    by_cases q : inm m j
    · rw [if_pos q]
      have q' : m / 2 ^ j % 2 = 1 := q
      by_cases z : i = 0
      · rw [if_pos z]
        exact ⟨j, rfl, Nat.le_refl _, by omega, q⟩
      · rw [if_neg z]
        obtain ⟨a, h1, h2, h3, h4⟩ := inN_some (m := m) c (j + 1) (i - 1) (by omega)
        exact ⟨a, h1, by omega, h3, h4⟩
    · rw [if_neg q]
      have q' : ¬ m / 2 ^ j % 2 = 1 := q
      obtain ⟨a, h1, h2, h3, h4⟩ := inN_some (m := m) c (j + 1) i (by omega)
      exact ⟨a, h1, by omega, h3, h4⟩
theorem pop_0 {m : Nat} : ∀ n, m < 2 ^ n → pop m n = 0 → m = 0
  | 0, h, _ => by
    have : (2 : Nat) ^ 0 = 1 := rfl
    omega
  | n + 1, h, hp => by
    have p1 : pop m (n + 1) = pop m n + m / 2 ^ n % 2 := rfl
    have h2 : m / 2 ^ n < 2 := by
      rw [Nat.div_lt_iff_lt_mul (Nat.two_pow_pos n)]
      rw [Nat.pow_succ] at h
      omega
    have h3 : m / 2 ^ n = 0 := by
      generalize m / 2 ^ n = q at h2 p1
      omega
    have h4 : m < 2 ^ n := by
      rcases Nat.div_eq_zero_iff.mp h3 with q | q
      · have := Nat.two_pow_pos n
        omega
      · exact q
    exact pop_0 n h4 (by omega)
theorem gr_inByNumber {d : Nat} {h : PH} {Q : PQ} {gs : List (List Nat)} {m i : Nat} (hG : GrS h 2) (hg : CGr h 2 gs m) (hi : i < 2 ^ 31) (k : Q (some (.int (oI (inN m gs.length 0 i)))) h) : wpm (d + 3) 47 [.ref 2, .int (nI i)] h Q := by
  refine wpm_in P_Gr_inByNumber rfl (by decide) (by show ¬ 4 < 2; decide) (B_Gr_inByNumber_0 ?_)
  have h14 := hg.1.1
  have loop : ∀ (c j i' : Nat), gs.length - j = c → j ≤ gs.length → i' < 2 ^ 31 → Q (some (.int (oI (inN m c j i')))) h → wpx (d + 2) P_Gr_inByNumber 4 [.ref 2, .int (nI i), .int (nI i'), .int (nI j)] [] h Q := by
    intro c
    induction c with
    | zero =>
      intro j i' hc hj hi' k
      refine B_Gr_inByNumber_4 hG.1 (fun _ => B_Gr_inByNumber_35 k) (fun q => ?_)
      rw [hg.2.1, nI_leI (by omega) (by omega)] at q
      omega
    | succ c ih =>
      intro j i' hc hj hi' k
      refine B_Gr_inByNumber_4 hG.1 (fun q => ?_) (fun _ => B_Gr_inByNumber_12 hG.1 (gr_isIn hG hg (by omega) (fun q => ?_) (fun q => ?_)))
      · rw [hg.2.1, nI_leI (by omega) (by omega)] at q
        omega
      · have e : inN m (c + 1) j i' = if i' = 0 then some j else inN m c (j + 1) (i' - 1) := if_pos q
        rw [e] at k
        refine B_Gr_inByNumber_17 (fun z => absurd z (by decide)) (fun _ => B_Gr_inByNumber_20 (fun z => ?_) (fun z => ?_))
        · have z0 : ¬ i' = 0 := fun y => z (by rw [y]; rfl)
          rw [if_neg z0] at k
          refine B_Gr_inByNumber_26 (B_Gr_inByNumber_29 ?_)
          rw [show nI i' + (-1 : Int32) = nI (i' - 1) from by rw [show i' = i' - 1 + 1 by omega, nI_m1]; rfl, nI_1]
          exact ih _ _ (by omega) (by omega) (by omega) k
        · have z0 : i' = 0 := (nI_eq (b := 0) hi' (by omega)).mp z
          rw [if_pos z0] at k
          exact B_Gr_inByNumber_24 k
      · have e : inN m (c + 1) j i' = inN m c (j + 1) i' := if_neg q
        rw [e] at k
        refine B_Gr_inByNumber_17 (fun _ => B_Gr_inByNumber_29 ?_) (fun z => absurd rfl z)
        rw [nI_1]
        exact ih _ _ (by omega) (by omega) hi' k
  exact loop _ 0 i rfl (Nat.zero_le _) hi k
theorem sgn_le {l : List Nat} {i x : Nat} (hl : okr l) (hx : l[i]? = some x) : sgn l (nI i) = nI x := by
  have hlt := (List.getElem?_eq_some_iff.mp hx).1
  have h7 := hl.2
  unfold sgn
  rw [if_neg (fun z => z.elim (fun z => nI_pos (by omega) z) (fun z => by rw [nI_leI (by omega) (by omega)] at z; omega)), nI_clamp (by omega), List.getD_eq_getElem?_getD, hx]
  rfl
theorem drop_at {l : List Nat} {i x : Nat} (hx : l[i]? = some x) : l.drop i = x :: l.drop (i + 1) := by
  obtain ⟨hi, e⟩ := List.getElem?_eq_some_iff.mp hx
  rw [List.drop_eq_getElem_cons hi, e]
theorem wo_addRow {d : Nat} {h : PH} {Q : PQ} {w l : List Nat} (hO : OwS h) (hw : CWd h w) (hl : okr l) (hn : w.length + l.length ≤ 800) (k : ∀ h', CWd h' (w ++ l) → Fr Wcd h h' → Q none h') : wpm (d + 2) 108 [.ref 13, .long (pk l), .int (nI l.length)] h Q := by
  refine wpm_in P_Wo_addRow rfl (by decide) (by show ¬ 5 < 4; decide) (B_Wo_addRow_0 ?_)
  have h7 := hl.2
  have loop : ∀ (c i : Nat) (g : PH) (w' : List Nat), l.length - i = c → i ≤ l.length → CWd g w' → Fr Wcd h g → w'.length + c ≤ 800 → (∀ h', CWd h' (w' ++ l.drop i) → Fr Wcd h h' → Q none h') → wpx (d + 1) P_Wo_addRow 3 [.ref 13, .long (pk l), .retAddr 2, .int (nI l.length), .int (nI i)] [] g Q := by
    intro c
    induction c with
    | zero =>
      intro i g w' hc hi hw hf hn k
      refine B_Wo_addRow_3 (fun _ => B_Wo_addRow_26 (k g ?_ hf)) (fun q => ?_)
      · rw [List.drop_eq_nil_of_le (by omega), List.append_nil]
        exact hw
      · rw [nI_leI (by omega) (by omega)] at q
        omega
    | succ c ih =>
      intro i g w' hc hi hw hf hn k
      have gx : l[i]? = some l[i] := List.getElem?_eq_getElem (by omega)
      generalize l[i] = x at gx
      have hx := hl.1 x (List.mem_of_getElem? gx)
      refine B_Wo_addRow_3 (fun q => ?_) (fun _ => B_Wo_addRow_9 (ow_signOf hl ?_))
      · rw [nI_leI (by omega) (by omega)] at q
        omega
      · rw [sgn_le hl gx]
        refine B_Wo_addRow_17 (os_theWord (hf.ow hO)) (wo_add (hf.ow hO) hw hx.1 hx.2 (by omega) (fun h' hw' hf' => B_Wo_addRow_20 ?_))
        rw [nI_1]
        refine ih (i + 1) h' _ (by omega) (by omega) hw' (hf.tr hf') (by rw [List.length_append]; show w'.length + 1 + c ≤ 800; omega) (fun h2 hw2 hf2 => k h2 ?_ hf2)
        rw [drop_at gx, List.append_cons]
        exact hw2
  exact loop _ 0 h w rfl (Nat.zero_le _) hw (Fr.rf _ _) (by omega) (fun h' hw' hf' => k h' hw' hf')
/-- the reference's trial -/
def MTr (h : PH) (t : List Nat) : Prop := t.length ≤ 800 ∧ h_i h 17 38 = nI t.length ∧ ∀ k x, t[k]? = some x → h_i h 34 k = nI (x + 96)
def Wtr (c k : Nat) : Prop := (c = 17 ∧ k = 38) ∨ c = 34
theorem wtr_g : ∀ c k, Wtr c k → ¬ ((c = 17 ∧ (k = 4 ∨ k = 6)) ∨ c = 18 ∨ c = 19) := fun c k q => by unfold Wtr at q; omega
theorem MTr.fr {W : Nat → Nat → Prop} {h h' : PH} {t : List Nat} (hf : Fr W h h') (hw : ∀ c k, W c k → ¬ Wtr c k) (ht : MTr h t) : MTr h' t := by
  obtain ⟨a, b, c⟩ := ht
  exact ⟨a, (hf.i _ _ (fun q => hw _ _ q (Or.inl ⟨rfl, rfl⟩))).trans b, fun k x hx => (hf.i _ _ (fun q => hw _ _ q (Or.inr rfl))).trans (c k x hx)⟩
theorem md_tries {d : Nat} {h : PH} {Q : PQ} {gs : List (List Nat)} {m j f : Nat} {t l : List Nat} (hM : MdS h) (hg : MGr h gs m) (ht : MTr h t) (gj : gs[j]? = some l) (hf : f ≤ l.length) (hn : t.length + (l.length - f) ≤ 800) (k : ∀ h', MTr h' (t ++ l.drop f) → Fr Wtr h h' → Q none h') : wpm (d + 2) 217 [.ref 17, .int (nI j), .int (nI f)] h Q := by
  refine wpm_in P_Md_tries rfl (by decide) (by show ¬ 4 < 3; decide) (B_Md_tries_0 ?_)
  obtain ⟨a1, a2, a3⟩ := hg.1.at gj
  have h7 := a1.2
  have loop : ∀ (c i : Nat) (g : PH) (t : List Nat), l.length - i = c → i ≤ l.length → MTr g t → Fr Wtr h g → t.length + c ≤ 800 → (∀ h', MTr h' (t ++ l.drop i) → Fr Wtr h h' → Q none h') → wpx (d + 1) P_Md_tries 2 [.ref 17, .int (nI j), .int (nI f), .int (nI i)] [] g Q := by
    intro c
    induction c with
    | zero =>
      intro i g t hc hi ht hf hn k
      have hM' := hf.md hM
      have hg' := hg.fr hf wtr_g
      refine B_Md_tries_2 hM'.1 (mr_size hM') (ms_size hM') (vp_in_nI a3 (by omega)) (fun _ => B_Md_tries_43 (k g ?_ hf)) (fun q => ?_)
      · rw [List.drop_eq_nil_of_le (by omega), List.append_nil]
        exact ht
      · rw [nI_clamp (by omega), (hg'.2.2.2 j l gj).1, nI_leI (by omega) (by omega)] at q
        omega
    | succ c ih =>
      intro i g t hc hi ht hf hn k
      have hM' := hf.md hM
      have hg' := hg.fr hf wtr_g
      have gx : l[i]? = some l[i] := List.getElem?_eq_getElem (by omega)
      generalize l[i] = x at gx
      refine B_Md_tries_2 hM'.1 (mr_size hM') (ms_size hM') (vp_in_nI a3 (by omega)) (fun q => ?_) (fun _ => B_Md_tries_12 hM'.1 (mr_trial hM') (md_letterAt hM' (by omega) ?_))
      · rw [nI_clamp (by omega), (hg'.2.2.2 j l gj).1, nI_leI (by omega) (by omega)] at q
        omega
      · rw [(hg'.2.2.2 j l gj).2 i x gx, ht.2.1]
        have ht0 := ht.1
        refine B_Md_tries_26 (ms_trial hM') (vp_in_nI (by omega) (by omega)) (by show h_sh g 17 = _; exact hM'.1) ?_
        have e17 : h_i (w_i g 34 (nI t.length).toNatClampNeg (nI (x + 96))) 17 38 = nI t.length := by rw [wi_ne _ _ (by omega), ht.2.1]
        rw [e17, nI_1, nI_1, nI_clamp (by omega)]
        refine ih (i + 1) _ (t ++ [x]) (by omega) (by omega) ⟨by rw [List.length_append]; show t.length + 1 ≤ 800; omega, by rw [wi_eq, List.length_append]; rfl, fun k y hy => ?_⟩ (hf.tr ((Fr.wi g _ (Or.inr rfl)).tr (Fr.wi _ _ (Or.inl ⟨rfl, rfl⟩)))) (by rw [List.length_append]; show t.length + 1 + c ≤ 800; omega) (fun h2 hw2 hf2 => k h2 ?_ hf2)
        · rw [wi_ne _ _ (by omega)]
          by_cases hk : k < t.length
          · rw [List.getElem?_append_left hk] at hy
            rw [wi_ne _ _ (by omega)]
            exact ht.2.2 k y hy
          · have hk2 : k = t.length := by
              have := (List.getElem?_eq_some_iff.mp hy).1
              rw [List.length_append] at this
              have e1 : [x].length = 1 := rfl
              omega
            subst hk2
            rw [List.getElem?_append_right (Nat.le_refl _), Nat.sub_self] at hy
            cases hy
            rw [wi_eq]
        · rw [drop_at gx, List.append_cons]
          exact hw2
  exact loop _ f h t rfl hf ht (Fr.rf _ _) hn (fun h' hw' hf' => k h' hw' hf')
