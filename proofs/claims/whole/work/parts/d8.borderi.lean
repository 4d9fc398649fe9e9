/-! borders on the reference's side: a row at hand -/
theorem sufx {A B : List Nat} (h : B.length ≤ A.length) : (∃ x, A = x ++ B) ↔ ∀ t, 1 ≤ t → t ≤ B.length → A[A.length - t]? = B[B.length - t]? := by
  constructor
  · rintro ⟨x, e⟩ t h1 h2
    rw [e, List.length_append, List.getElem?_append_right (by omega)]
    congr 1
    omega
  · intro hh
    refine ⟨A.take (A.length - B.length), ?_⟩
    have e : A.drop (A.length - B.length) = B := by
      refine List.ext_getElem? (fun i => ?_)
      rw [List.getElem?_drop]
      by_cases y : i < B.length
      · have := hh (B.length - i) (by omega) (by omega)
        rw [show A.length - (B.length - i) = A.length - B.length + i by omega, show B.length - (B.length - i) = i by omega] at this
        exact this
      · rw [List.getElem?_eq_none (by omega), List.getElem?_eq_none (by omega)]
    have := (List.take_append_drop (A.length - B.length) A).symm
    rw [e] at this
    exact this
theorem mEn_iff {A B : List Nat} : mEn A B ↔ ∀ t, 1 ≤ t → t ≤ min A.length B.length → A[A.length - t]? = B[B.length - t]? := by
  unfold mEn
  by_cases y : B.length ≤ A.length
  · constructor
    · rintro (⟨_, z⟩ | ⟨z1, t', e⟩) t h1 h2
      · exact (sufx y).mp z t h1 (by omega)
      · have := (sufx (A := B) (B := A) z1).mp ⟨t', e⟩ t h1 (by omega)
        exact this.symm
    · intro hh
      exact Or.inl ⟨y, (sufx y).mpr (fun t h1 h2 => hh t h1 (by omega))⟩
  · constructor
    · rintro (⟨z, _⟩ | ⟨z1, t', e⟩) t h1 h2
      · exact absurd z y
      · have := (sufx (A := B) (B := A) z1).mp ⟨t', e⟩ t h1 (by omega)
        exact this.symm
    · intro hh
      exact Or.inr ⟨by omega, (sufx (A := B) (B := A) (by omega)).mpr (fun t h1 h2 => (hh t h1 (by omega)).symm)⟩
theorem mEn_tk {l r : List Nat} {a b : Nat} (ha : a ≤ l.length) (hb : b ≤ r.length) : mEn (l.take a) (r.take b) ↔ ∀ t, 1 ≤ t → t ≤ min a b → l[a - t]? = r[b - t]? := by
  rw [mEn_iff, List.length_take, List.length_take, Nat.min_eq_left ha, Nat.min_eq_left hb]
  constructor
  · intro h t h1 h2
    have := h t h1 h2
    rw [List.getElem?_take_of_lt (by omega), List.getElem?_take_of_lt (by omega)] at this
    exact this
  · intro h t h1 h2
    rw [List.getElem?_take_of_lt (by omega), List.getElem?_take_of_lt (by omega)]
    exact h t h1 h2
def hitE (gs : List (List Nat)) (m : Nat) (t : List Nat) (j : Nat) : Prop := inm m j ∧ ∃ l, gs[j]? = some l ∧ mEn l t ∧ (t.length ≤ l.length ∨ iE gs m (t.take (t.length - l.length)))
theorem iE_hit {gs : List (List Nat)} {m : Nat} {t : List Nat} (ho : okg gs m) (ht : t ≠ []) : iE gs m t ↔ ∃ j, hitE gs m t j := by
  rw [iE_rec ho ht]
  constructor
  · rintro ⟨g, ⟨k, hk, hin⟩, (⟨hl, x, e⟩ | ⟨hl, t', e, h'⟩)⟩
    · exact ⟨k, hin, g, hk, Or.inl ⟨hl, x, e⟩, Or.inl hl⟩
    · refine ⟨k, hin, g, hk, Or.inr ⟨hl, t', e⟩, Or.inr ?_⟩
      rw [e, List.length_append, Nat.add_sub_cancel, List.take_left]
      exact h'
  · rintro ⟨j, hin, l, hj, hm, hc⟩
    refine ⟨l, ⟨j, hj, hin⟩, ?_⟩
    by_cases y : t.length ≤ l.length
    · rcases hm with ⟨_, x, e⟩ | ⟨z, t', e⟩
      · exact Or.inl ⟨y, x, e⟩
      · have e2 : t' = [] := List.length_eq_zero_iff.mp (by have := congrArg List.length e; rw [List.length_append] at this; omega)
        rw [e2, List.nil_append] at e
        exact Or.inl ⟨y, [], by rw [e]; rfl⟩
    · rcases hm with ⟨z, _⟩ | ⟨z, t', e⟩
      · exact absurd z y
      · refine Or.inr ⟨z, t', e, ?_⟩
        rcases hc with w | w
        · exact absurd w y
        · rw [e, List.length_append, Nat.add_sub_cancel, List.take_left] at w
          exact w
def hitW (gs : List (List Nat)) (m : Nat) (t : List Nat) (j i : Nat) : Prop := inm m j ∧ ∃ l, gs[j]? = some l ∧ 1 ≤ i ∧ i < l.length ∧ mEn (l.take i) t ∧ (t.length ≤ i ∨ iE gs m (t.take (t.length - i)))
theorem iW_hit {gs : List (List Nat)} {m : Nat} {t : List Nat} : iW gs m t ↔ ∃ j i, hitW gs m t j i := by
  rw [iW_rec]
  constructor
  · rintro ⟨y, hy, ⟨g, ⟨k, hk, hin⟩, j, hj, ey⟩, hc⟩
    have j0 : 0 < j := Nat.pos_of_ne_zero (fun z => hy (by rw [ey, z, List.take_zero]))
    have yl : y.length = j := by
      rw [ey, List.length_take]
      omega
    refine ⟨k, j, hin, g, hk, j0, hj, ?_⟩
    rw [← ey]
    rcases hc with ⟨hl, x, e⟩ | ⟨hl, t', e, h'⟩
    · exact ⟨Or.inl ⟨hl, x, e⟩, Or.inl (by omega)⟩
    · refine ⟨Or.inr ⟨hl, t', e⟩, Or.inr ?_⟩
      rw [e, List.length_append, yl, Nat.add_sub_cancel, List.take_left]
      exact h'
  · rintro ⟨j, i, hin, l, hj, h1, h2, hm, hc⟩
    have yl : (l.take i).length = i := by
      rw [List.length_take]
      omega
    refine ⟨l.take i, fun z => by rw [z] at yl; have : ([] : List Nat).length = 0 := rfl; omega, ⟨l, ⟨j, hj, hin⟩, i, h2, rfl⟩, ?_⟩
    by_cases y : t.length ≤ i
    · rcases hm with ⟨z, x, e⟩ | ⟨z, t', e⟩
      · exact Or.inl ⟨z, x, e⟩
      · have e2 : t' = [] := List.length_eq_zero_iff.mp (by have := congrArg List.length e; rw [List.length_append] at this; omega)
        rw [e2, List.nil_append] at e
        exact Or.inl ⟨by rw [e]; exact Nat.le_refl _, [], by rw [e]; rfl⟩
    · rcases hm with ⟨z, _⟩ | ⟨z, t', e⟩
      · exact absurd z (by omega)
      · refine Or.inr ⟨z, t', e, ?_⟩
        rcases hc with w | w
        · exact absurd w y
        · have e3 : t.take (t.length - i) = t' := by
            have : t.length - i = t'.length := by
              have := congrArg List.length e
              rw [List.length_append] at this
              omega
            rw [this, e, List.take_left]
          rw [e3] at w
          exact w
/-- the letters of the row at hand -/
def MIt (h : PH) (r : List Nat) : Prop := ∀ k x, r[k]? = some x → h_i h 58 k = nI (x + 96)
def rcM (r : List Nat) : Nat := pkN (r.map (fun x => x - 1))
theorem md_unpack {d n : Nat} {h : PH} {Q : PQ} {r : List Nat} (hM : MdS h) (hr : r.length = n) (hn : n ≤ 4) (hx : ∀ x ∈ r, 0 < x ∧ x < 28) (k : ∀ h', MIt h' r → Fr (fun x _ => x = 58) h h' → Q none h') : wpm (d + 1) 262 [.ref 17, .int (nI (rcM r)), .int (nI n)] h Q := by
  refine wpm_in P_Md_unpack rfl (by decide) (by show ¬ 4 < 3; decide) ?_
  have lm : (r.map (fun x => x - 1)).length = n := by rw [List.length_map, hr]
  have l32 : ∀ x ∈ r.map (fun x => x - 1), x < 32 := fun x hx' => by
    obtain ⟨y, hy, e⟩ := List.mem_map.mp hx'
    have := hx y hy
    omega
  have vlt : rcM r < 2 ^ 31 := by
    have h1 := pkN_lt l32
    rw [lm] at h1
    have h2 : 32 ^ n ≤ 32 ^ 4 := Nat.pow_le_pow_right (by decide) hn
    unfold rcM
    omega
  have loop : ∀ (e q : Nat) (g : PH), n - q = e → q ≤ n → (∀ k x, k < q → r[k]? = some x → h_i g 58 k = nI (x + 96)) → Fr (fun x _ => x = 58) h g → wpx d P_Md_unpack 2 [.ref 17, .int (nI (rcM r)), .int (nI n), .int (nI q)] [] g Q := by
    intro e
    induction e with
    | zero =>
      intro q g he hq hz hf
      have e4 : q = n := by omega
      subst e4
      refine B_Md_unpack_2 (fun _ => B_Md_unpack_34 (k g (fun k x hk => hz k x ?_ hk) hf)) (fun w => absurd (by rw [nI_leI (by omega) (by omega)]; exact Nat.le_refl _) w)
      have := (List.getElem?_eq_some_iff.mp hk).1
      omega
    | succ e ih =>
      intro q g he hq hz hf
      have hMg := hf.md hM
      have gx : r[q]? = some (r[q]'(by omega)) := List.getElem?_eq_getElem (by omega)
      generalize r[q]'(by omega) = x at gx
      have hxx := hx x (List.mem_of_getElem? gx)
      refine B_Md_unpack_2 (fun w => ?_) (fun _ => B_Md_unpack_7 hMg.1 (mr_its hMg) (ms_its hMg) (vp_in_nI (by omega) (by omega)) ?_)
      · rw [nI_leI (by omega) (by omega)] at w
        omega
      · have es : (5 : Int32) * (nI n - (1 : Int32) - nI q) = nI (5 * (n - 1 - q)) := by rw [show (1 : Int32) = nI 1 from rfl, nI_subN (by omega), nI_subN (by omega), show (5 : Int32) = nI 5 from rfl, nI_mulN]
        have gd : (r.map (fun x => x - 1))[q]? = some (x - 1) := by rw [List.getElem?_map, gx]; rfl
        have dv := pkN_nth l32 gd
        rw [lm] at dv
        rw [es, pk_shrN vlt (nI (5 * (n - 1 - q)) &&& 31) (5 * (n - 1 - q)) (sh_s _ (by omega)), nI_and31, Nat.pow_mul, show (2 : Nat) ^ 5 = 32 from rfl, nI_clamp (show q < 2 ^ 31 by omega), nI_1]
        unfold rcM
        rw [dv, show (97 : Int32) = nI 97 from rfl, nI_add, show x - 1 + 97 = x + 96 by omega]
        refine ih (q + 1) _ (by omega) (by omega) (fun k y hk hy => ?_) (hf.tr (Fr.wi _ _ rfl))
        by_cases z : k = q
        · rw [z] at hy ⊢
          rw [gx] at hy
          rw [wi_eq, Option.some.inj hy]
        · rw [wi_ne _ _ (fun w => z w.2)]
          exact hz k y (by omega) hy
  exact B_Md_unpack_0 (loop _ 0 h rfl (Nat.zero_le _) (fun k x hk => absurd hk (by omega)) (Fr.rf _ _))
theorem md_meetsEnd {d i a b : Nat} {h : PH} {Q : PQ} {gs : List (List Nat)} {m : Nat} {r l : List Nat} (hM : MdS h) (hg : MGr h gs m) (hI : MIt h r) (hi : gs[i]? = some l) (ha : a ≤ l.length) (hb : b ≤ r.length) (h4 : r.length ≤ 4) (hx : ∀ x ∈ r, 0 < x ∧ x < 28) (k1 : mEn (l.take a) (r.take b) → Q (some (.int 1)) h) (k0 : ¬ mEn (l.take a) (r.take b) → Q (some (.int 0)) h) : wpm (d + 2) 263 [.ref 17, .int (nI i), .int (nI a), .int (nI b)] h Q := by
  refine wpm_in P_Md_meetsEnd rfl (by decide) (by show ¬ 5 < 4; decide) ?_
  obtain ⟨l1, l2, l3⟩ := hg.1.at hi
  have l7 := l1.2
  rw [mEn_tk ha hb] at k1 k0
  have loop : ∀ (e q : Nat), min a b + 1 - q = e → 1 ≤ q → q ≤ min a b + 1 → (∀ t, 1 ≤ t → t < q → l[a - t]? = r[b - t]?) → wpx (d + 1) P_Md_meetsEnd 3 [.ref 17, .int (nI i), .int (nI a), .int (nI b), .int (nI q)] [] h Q := by
    intro e
    induction e with
    | zero =>
      intro q he h1 hq hz
      refine B_Md_meetsEnd_3 (md_lesser (by omega) (by omega) (B_Md_meetsEnd_10 (fun _ => B_Md_meetsEnd_42 (k1 (fun t t1 t2 => hz t t1 (by omega)))) (fun w => ?_)))
      rw [nI_ltI (by omega) (by omega)] at w
      omega
    | succ e ih =>
      intro q he h1 hq hz
      have gl : l[a - q]? = some (l[a - q]'(by omega)) := List.getElem?_eq_getElem (by omega)
      have gr : r[b - q]? = some (r[b - q]'(by omega)) := List.getElem?_eq_getElem (by omega)
      generalize l[a - q]'(by omega) = y at gl
      generalize r[b - q]'(by omega) = x at gr
      have hy := l1.1 y (List.mem_of_getElem? gl)
      have hxx := hx x (List.mem_of_getElem? gr)
      have eb : nI b - nI q = nI (b - q) := nI_subN (by omega)
      have ea : nI a - nI q = nI (a - q) := nI_subN (by omega)
      refine B_Md_meetsEnd_3 (md_lesser (by omega) (by omega) (B_Md_meetsEnd_10 (fun w => ?_) (fun _ => B_Md_meetsEnd_13 hM.1 (mr_its hM) (ms_its hM) (by rw [eb]; exact vp_in_nI (by omega) (by omega)) ?_)))
      · rw [nI_ltI (by omega) (by omega)] at w
        omega
      · rw [eb, ea, nI_clamp (show b - q < 2 ^ 31 by omega), hI _ _ gr]
        refine md_letterAt hM (by omega) ?_
        rw [(hg.2.2.2 i l hi).2 _ _ gl]
        refine B_Md_meetsEnd_31 (fun w => B_Md_meetsEnd_36 ?_) (fun w => B_Md_meetsEnd_34 (k0 (fun hh => w ?_)))
        · rw [nI_eq (by omega) (by omega)] at w
          rw [nI_1]
          refine ih (q + 1) (by omega) (by omega) (by omega) (fun t t1 t2 => ?_)
          by_cases z : t = q
          · rw [z, gl, gr]
            congr 1
            omega
          · exact hz t t1 (by omega)
        · have := hh q h1 (by omega)
          rw [gl, gr] at this
          rw [Option.some.inj this]
  exact B_Md_meetsEnd_0 (loop _ 1 rfl (by omega) (by omega) (fun t t1 t2 => absurd t2 (by omega)))
