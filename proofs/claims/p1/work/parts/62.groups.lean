/-! groups: what stands of them on both sides; the plain functions over them -/
theorem sh_u : ∀ k : Nat, k < 32 → (((nI k).toUInt32 &&& Int32.toUInt32 31).toBitVec % 32).toNat = k := by decide
theorem sh_s : ∀ k : Nat, k < 32 → ((nI k &&& 31).toBitVec.smod 32).toNat = k := by decide
theorem nI_and1 (n : Nat) : nI n &&& (1 : Int32) = nI (n % 2) := by
  apply Int32.toBitVec_inj.mp
  apply BitVec.eq_of_toNat_eq
  rw [Int32.toBitVec_and, BitVec.toNat_and]
  unfold nI
  rw [Int32.toBitVec_ofNat', Int32.toBitVec_ofNat', BitVec.toNat_ofNat, BitVec.toNat_ofNat]
  have h2 : (1 : Int32).toBitVec.toNat = 2 ^ 1 - 1 := rfl
  rw [h2, Nat.and_two_pow_sub_one_eq_mod]
  omega
theorem nI_mod2 (n : Nat) : nI (n % 2) = (1 : Int32) ↔ n % 2 = 1 := by
  rcases Nat.mod_two_eq_zero_or_one n with h | h <;> rw [h] <;> decide
/-- a group of a mask -/
abbrev inm (m k : Nat) : Prop := m / 2 ^ k % 2 = 1
theorem bit_c {m k : Nat} (hm : m < 2 ^ 31) (hk : k < 32) : (((nI m).toUInt32 >>> ((nI k).toUInt32 &&& Int32.toUInt32 31)).toInt32 &&& (1 : Int32)) = (1 : Int32) ↔ inm m k := by
  rw [pk_ushrN (by omega) (nI k) k (sh_u k hk), nI_and1]
  exact nI_mod2 _
theorem bit_m {m k : Nat} (hm : m < 2 ^ 31) (hk : k < 32) : ((nI m >>> (nI k &&& 31)) &&& (1 : Int32)) = (1 : Int32) ↔ inm m k := by
  rw [pk_shrN hm (nI k &&& 31) k (sh_s k hk), nI_and1]
  exact nI_mod2 _
/-- THE CLASS: an object of Groups at o, its arrays behind it -/
def GrS (h : PH) (o : Nat) : Prop := h_sh h o = some (0, 3) ∧ (h_r h o 0 = some (o + 1) ∧ h_sh h (o + 1) = some (4, 14)) ∧ (h_r h o 1 = some (o + 2) ∧ h_sh h (o + 2) = some (1, 14)) ∧ (h_r h o 2 = some (o + 3) ∧ h_sh h (o + 3) = some (1, 14)) ∧ (h_r h o 7 = some (o + 4) ∧ h_sh h (o + 4) = some (1, 12)) ∧ (h_r h o 8 = some (o + 5) ∧ h_sh h (o + 5) = some (1, 12))
theorem GrS_2 {h : PH} (hO : OwS h) : GrS h 2 := ⟨os_groups hO, ⟨or_g_code hO, os_g_code hO⟩, ⟨or_g_length hO, os_g_length hO⟩, ⟨or_g_sound hO, os_g_sound hO⟩, ⟨or_g_actWay hO, os_g_actWay hO⟩, ⟨or_g_actMask hO, os_g_actMask hO⟩⟩
/-- groups as rows of letters 1 .. 27, and the mask of those that are in -/
def okg (gs : List (List Nat)) (m : Nat) : Prop := gs.length ≤ 14 ∧ m < 2 ^ gs.length ∧ ∀ l ∈ gs, okr l ∧ 0 < l.length
def CGr (h : PH) (o : Nat) (gs : List (List Nat)) (m : Nat) : Prop := okg gs m ∧ h_i h o 3 = nI gs.length ∧ h_i h o 5 = nI m ∧ ∀ k l, gs[k]? = some l → h_l h (o + 1) k = pk l ∧ h_i h (o + 2) k = nI l.length
def MGr (h : PH) (gs : List (List Nat)) (m : Nat) : Prop := okg gs m ∧ h_i h 17 4 = nI gs.length ∧ h_i h 17 6 = nI m ∧ ∀ k l, gs[k]? = some l → h_i h 19 k = nI l.length ∧ ∀ j x, l[j]? = some x → h_i h 18 (8 * k + j) = nI (x + 96)
theorem okg.m31 {gs : List (List Nat)} {m : Nat} (h : okg gs m) : m < 2 ^ 31 := Nat.lt_of_lt_of_le h.2.1 (Nat.pow_le_pow_right (by decide) (by have := h.1; omega))
theorem okg.at {gs : List (List Nat)} {m : Nat} (h : okg gs m) {k : Nat} {l : List Nat} (hk : gs[k]? = some l) : okr l ∧ 0 < l.length ∧ k < 14 := by
  have h1 := h.2.2 l (List.mem_of_getElem? hk)
  have h2 := (List.getElem?_eq_some_iff.mp hk).1
  have h3 := h.1
  exact ⟨h1.1, h1.2, by omega⟩
theorem gr_has {d : Nat} {h : PH} {Q : PQ} {o : Nat} {gs : List (List Nat)} {m : Nat} {x : Int32} (hs : GrS h o) (hg : CGr h o gs m) (k : Q (some (.int (if x < 0 ∨ nI gs.length ≤ x then 0 else 1))) h) : wpm (d + 1) 34 [.ref o, .int x] h Q := by
  refine wpm_in P_Gr_has rfl (by decide) (by show ¬ 2 < 2; decide) ?_
  refine B_Gr_has_0 (fun q => ?_) (fun q => ?_)
  · rw [if_pos (Or.inl q)] at k
    exact B_Gr_has_16 (B_Gr_has_17 (by decide) k)
  · refine B_Gr_has_4 hs.1 (fun z => ?_) (fun z => ?_)
    · rw [hg.2.1] at z
      rw [if_pos (Or.inr z)] at k
      exact B_Gr_has_16 (B_Gr_has_17 (by decide) k)
    · rw [hg.2.1] at z
      rw [if_neg (fun w => w.elim q z)] at k
      exact B_Gr_has_12 (B_Gr_has_17 (by decide) k)
/-- a group that there is, and is in -/
abbrev isg (gs : List (List Nat)) (x : Int32) : Prop := ¬ (x < 0 ∨ nI gs.length ≤ x)
theorem isg_of {gs : List (List Nat)} {m : Nat} {x : Int32} (ho : okg gs m) (h : isg gs x) : ∃ k, k < gs.length ∧ x = nI k := by
  obtain ⟨k, hk, rfl⟩ := nI_of (x := x) (fun q => h (Or.inl q))
  refine ⟨k, ?_, rfl⟩
  have h2 : ¬ nI gs.length ≤ nI k := fun q => h (Or.inr q)
  have := ho.1
  rw [nI_leI (by omega) hk] at h2
  omega
theorem isg_nI {gs : List (List Nat)} {m k : Nat} (ho : okg gs m) (hk : k < gs.length) : isg gs (nI k) := by
  have := ho.1
  rintro (q | q)
  · exact nI_pos (n := k) (by omega) q
  · rw [nI_leI (by omega) (by omega)] at q
    omega
theorem gr_isIn {d : Nat} {h : PH} {Q : PQ} {o : Nat} {gs : List (List Nat)} {m k : Nat} (hs : GrS h o) (hg : CGr h o gs m) (hk : k < gs.length) (kt : inm m k → Q (some (.int 1)) h) (kf : ¬ inm m k → Q (some (.int 0)) h) : wpm (d + 2) 35 [.ref o, .int (nI k)] h Q := by
  refine wpm_in P_Gr_isIn rfl (by decide) (by show ¬ 2 < 2; decide) ?_
  refine B_Gr_isIn_0 hs.1 (gr_has hs hg ?_)
  rw [if_neg (isg_nI hg.1 hk)]
  have h14 := hg.1.1
  refine B_Gr_isIn_5 (fun q => absurd q (by decide)) (fun _ => ?_)
  refine B_Gr_isIn_8 hs.1 (fun q => ?_) (fun q => ?_)
  · rw [hg.2.2.1, bit_c hg.1.m31 (by omega)] at q
    exact B_Gr_isIn_24 (B_Gr_isIn_25 (by decide) (kf q))
  · rw [hg.2.2.1, bit_c hg.1.m31 (by omega)] at q
    exact B_Gr_isIn_20 (B_Gr_isIn_25 (by decide) (kt q))
/-- outside there is no group, so none that is in -/
theorem gr_isIn_no {d : Nat} {h : PH} {Q : PQ} {o : Nat} {gs : List (List Nat)} {m : Nat} {x : Int32} (hs : GrS h o) (hg : CGr h o gs m) (hx : ¬ isg gs x) (k : Q (some (.int 0)) h) : wpm (d + 2) 35 [.ref o, .int x] h Q := by
  refine wpm_in P_Gr_isIn rfl (by decide) (by show ¬ 2 < 2; decide) ?_
  refine B_Gr_isIn_0 hs.1 (gr_has hs hg ?_)
  rw [if_pos (Classical.not_not.mp hx)]
  exact B_Gr_isIn_5 (fun _ => B_Gr_isIn_24 (B_Gr_isIn_25 (by decide) k)) (fun q => absurd rfl q)
theorem gr_groupBegins {d : Nat} {h : PH} {Q : PQ} {o : Nat} {gs : List (List Nat)} {m i j : Nat} {a b : List Nat} (hs : GrS h o) (hg : CGr h o gs m) (hi : gs[i]? = some a) (hj : gs[j]? = some b) (k : Q (some (.int (if a = b.take a.length then 1 else 0))) h) : wpm (d + 2) 43 [.ref o, .int (nI i), .int (nI j)] h Q := by
  refine wpm_in P_Gr_groupBegins rfl (by decide) (by show ¬ 3 < 3; decide) ?_
  obtain ⟨a1, a2, a3⟩ := hg.1.at hi
  obtain ⟨b1, b2, b3⟩ := hg.1.at hj
  have vi : vp_in (nI i) 14 := vp_in_nI a3 (by omega)
  have vj : vp_in (nI j) 14 := vp_in_nI b3 (by omega)
  refine B_Gr_groupBegins_0 hs.1 hs.2.1.1 hs.2.1.2 vi hs.2.2.1.1 hs.2.2.1.2 vi vj vj ?_
  rw [nI_clamp (by omega), nI_clamp (by omega), (hg.2.2.2 i a hi).1, (hg.2.2.2 i a hi).2, (hg.2.2.2 j b hj).1, (hg.2.2.2 j b hj).2]
  refine ow_begins a1 b1 ?_
  exact B_Gr_groupBegins_27 (b01 _) k
/-- THE MODEL -/
theorem md_isOf {d : Nat} {h : PH} {Q : PQ} {m k : Nat} (hm : m < 2 ^ 31) (hk : k < 32) (kt : inm m k → Q (some (.int 1)) h) (kf : ¬ inm m k → Q (some (.int 0)) h) : wpm (d + 1) 171 [.int (nI m), .int (nI k)] h Q := by
  refine wpm_in P_Md_isOf rfl (by decide) (by show ¬ 2 < 2; decide) ?_
  refine B_Md_isOf_0 (fun q => ?_) (fun q => ?_)
  · rw [bit_m hm hk] at q
    exact B_Md_isOf_13 (B_Md_isOf_14 (by decide) (kf q))
  · rw [bit_m hm hk] at q
    exact B_Md_isOf_9 (B_Md_isOf_14 (by decide) (kt q))
theorem md_letterAt {d : Nat} {h : PH} {Q : PQ} {g i : Nat} (hM : MdS h) (hb : 8 * g + i < 112) (k : Q (some (.int (h_i h 18 (8 * g + i)))) h) : wpm (d + 1) 175 [.ref 17, .int (nI g), .int (nI i)] h Q := by
  refine wpm_in P_Md_letterAt rfl (by decide) (by show ¬ 3 < 3; decide) ?_
  have e : (((8 : Int32) * nI g) + nI i) = nI (8 * g + i) := by rw [show (8 : Int32) = nI 8 from rfl, nI_mulN, nI_add]
  refine B_Md_letterAt_0 hM.1 (mr_letters hM) (ms_letters hM) (by rw [e]; exact vp_in_nI hb (by omega)) ?_
  rw [e, nI_clamp (by omega)]
  exact k
/-- how many letters two rows have alike from their beginnings -/
def cpl : List Nat → List Nat → Nat
  | x :: a, y :: b => if x = y then cpl a b + 1 else 0
  | _, _ => 0
theorem cpl_eq : ∀ (n : Nat) (a b : List Nat), n ≤ a.length → n ≤ b.length → (∀ i, i < n → a[i]? = b[i]?) → (n = a.length ∨ n = b.length ∨ a[n]? ≠ b[n]?) → cpl a b = n
  | 0, a, b, _, _, _, hs => by
    cases a with
    | nil => rfl
    | cons x a =>
      cases b with
      | nil => rfl
      | cons y b =>
        unfold cpl
        rcases hs with hs | hs | hs
        · simp at hs
        · simp at hs
        · rw [if_neg (fun e => hs (by rw [e]; rfl))]
  | n + 1, a, b, ha, hb, hi, hs => by
    cases a with
    | nil => simp at ha
    | cons x a =>
      cases b with
      | nil => simp at hb
      | cons y b =>
        unfold cpl
        have h0 := hi 0 (by omega)
        simp at h0
        rw [if_pos h0, cpl_eq n a b (by simpa using ha) (by simpa using hb) (fun i hlt => by have := hi (i + 1) (by omega); simpa using this) (by simpa using hs)]
theorem md_alike {d : Nat} {h : PH} {Q : PQ} {gs : List (List Nat)} {m g i g' j : Nat} {a b : List Nat} (hM : MdS h) (hg : MGr h gs m) (ha : gs[g]? = some a) (hb : gs[g']? = some b) (hi : i ≤ a.length) (hj : j ≤ b.length) (k : Q (some (.int (nI (cpl (a.drop i) (b.drop j))))) h) : wpm (d + 2) 176 [.ref 17, .int (nI g), .int (nI i), .int (nI g'), .int (nI j)] h Q := by
  refine wpm_in P_Md_alike rfl (by decide) (by show ¬ 6 < 5; decide) ?_
  obtain ⟨a1, a2, a3⟩ := hg.1.at ha
  obtain ⟨b1, b2, b3⟩ := hg.1.at hb
  have a7 := a1.2
  have b7 := b1.2
  have va : vp_in (nI g) 14 := vp_in_nI a3 (by omega)
  have vb : vp_in (nI g') 14 := vp_in_nI b3 (by omega)
  obtain ⟨la, lb⟩ := hg.2.2.2 g a ha
  obtain ⟨ma, mb⟩ := hg.2.2.2 g' b hb
  refine B_Md_alike_0 ?_
  have loop : ∀ (c n : Nat), a.length - n = c → i + n ≤ a.length → j + n ≤ b.length → (∀ t, t < n → (a.drop i)[t]? = (b.drop j)[t]?) → wpx (d + 1) P_Md_alike 3 [.ref 17, .int (nI g), .int (nI i), .int (nI g'), .int (nI j), .int (nI n)] [] h Q := by
    intro c
    induction c with
    | zero =>
      intro n hc h1 h2 h3
      refine B_Md_alike_3 hM.1 (mr_size hM) (ms_size hM) va (fun q => ?_) (fun q => ?_)
      · refine B_Md_alike_58 ?_
        rw [← cpl_eq n (a.drop i) (b.drop j) (by rw [List.length_drop]; omega) (by rw [List.length_drop]; omega) h3 (Or.inl (by rw [List.length_drop]; omega))]
        exact k
      · exfalso
        rw [nI_clamp (by omega), la, nI_add, nI_leI (by omega) (by omega)] at q
        omega
    | succ c ih =>
      intro n hc h1 h2 h3
      refine B_Md_alike_3 hM.1 (mr_size hM) (ms_size hM) va (fun q => ?_) (fun q => ?_)
      · rw [nI_clamp (by omega), la, nI_add, nI_leI (by omega) (by omega)] at q
        refine B_Md_alike_58 ?_
        rw [← cpl_eq n (a.drop i) (b.drop j) (by rw [List.length_drop]; omega) (by rw [List.length_drop]; omega) h3 (Or.inl (by rw [List.length_drop]; omega))]
        exact k
      · rw [nI_clamp (by omega), la, nI_add, nI_leI (by omega) (by omega)] at q
        refine B_Md_alike_16 hM.1 (mr_size hM) (ms_size hM) vb (fun z => ?_) (fun z => ?_)
        · rw [nI_clamp (by omega), ma, nI_add, nI_leI (by omega) (by omega)] at z
          refine B_Md_alike_58 ?_
          rw [← cpl_eq n (a.drop i) (b.drop j) (by rw [List.length_drop]; omega) (by rw [List.length_drop]; omega) h3 (Or.inr (Or.inl (by rw [List.length_drop]; omega)))]
          exact k
        · rw [nI_clamp (by omega), ma, nI_add, nI_leI (by omega) (by omega)] at z
          have ga : a[i + n]? = some a[i + n] := List.getElem?_eq_getElem (by omega)
          have gb : b[j + n]? = some b[j + n] := List.getElem?_eq_getElem (by omega)
          refine B_Md_alike_30 hM.1 ?_
          rw [nI_add]
          refine md_letterAt hM (by omega) ?_
          rw [lb _ _ ga]
          refine B_Md_alike_39 hM.1 ?_
          rw [nI_add]
          refine md_letterAt hM (by omega) ?_
          rw [mb _ _ gb]
          have xa := (a1.1 _ (List.mem_of_getElem? ga)).2
          have xb := (b1.1 _ (List.mem_of_getElem? gb)).2
          refine B_Md_alike_49 (fun e => ?_) (fun e => ?_)
          · rw [nI_eq (by omega) (by omega)] at e
            refine B_Md_alike_58 ?_
            rw [← cpl_eq n (a.drop i) (b.drop j) (by rw [List.length_drop]; omega) (by rw [List.length_drop]; omega) h3 (Or.inr (Or.inr (by rw [List.getElem?_drop, List.getElem?_drop, ga, gb]; intro w; exact e (by rw [Option.some.inj w]))))]
            exact k
          · rw [nI_eq (by omega) (by omega)] at e
            refine B_Md_alike_52 ?_
            rw [nI_1]
            refine ih (n + 1) (by omega) (by omega) (by omega) (fun t ht => ?_)
            by_cases h9 : t = n
            · subst h9
              rw [List.getElem?_drop, List.getElem?_drop, ga, gb]
              congr 1
              omega
            · exact h3 t (by omega)
  exact loop _ 0 rfl (by omega) (by omega) (fun t ht => absurd ht (by omega))
