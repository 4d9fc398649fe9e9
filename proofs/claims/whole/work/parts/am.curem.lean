/-! cures: what parts, by which groups it doesn't; sets of groups in their order -/
theorem inm_tb {m k : Nat} : inm m k ↔ m.testBit k = true := by
  rw [Nat.testBit_eq_decide_div_mod_eq, decide_eq_true_iff]
theorem inm_or {a b k : Nat} : inm (a ||| b) k ↔ inm a k ∨ inm b k := by
  rw [inm_tb, inm_tb, inm_tb, Nat.testBit_or, Bool.or_eq_true]
theorem inm_xor {a b k : Nat} : inm (a ^^^ b) k ↔ ¬ (inm a k ↔ inm b k) := by
  rw [inm_tb, inm_tb, inm_tb, Nat.testBit_xor]
  cases a.testBit k <;> cases b.testBit k <;> simp
theorem inm_and {a b k : Nat} : inm (a &&& b) k ↔ inm a k ∧ inm b k := by
  rw [inm_tb, inm_tb, inm_tb, Nat.testBit_and, Bool.and_eq_true]
theorem inm_pow {j k : Nat} : inm (2 ^ j) k ↔ k = j := by
  rw [inm_tb, Nat.testBit_two_pow, decide_eq_true_iff]
  exact eq_comm
theorem inm_ext {a b : Nat} (h : ∀ k, inm a k ↔ inm b k) : a = b := Nat.eq_of_testBit_eq (fun k => by
  have := h k
  rw [inm_tb, inm_tb] at this
  cases e : a.testBit k <;> cases e' : b.testBit k <;> simp_all)
theorem inm_0 {k : Nat} : ¬ inm 0 k := by
  rw [inm_tb, Nat.zero_testBit]
  decide
theorem inm_lt {m n k : Nat} (hm : m < 2 ^ n) (h : inm m k) : k < n := by
  rw [inm_tb] at h
  by_cases z : k < n
  · exact z
  · have : m < 2 ^ k := Nat.lt_of_lt_of_le hm (Nat.pow_le_pow_right (by decide) (by omega))
    rw [Nat.testBit_lt_two_pow this] at h
    cases h
def Prt (gs : List (List Nat)) (m : Nat) : Prop := ∀ r, DvR gs m r → ¬ isG gs m r
def Emb (gs : List (List Nat)) (m : Nat) (gs' : List (List Nat)) (m' : Nat) : Prop := ∀ k l, gs[k]? = some l → inm m k → gs'[k]? = some l ∧ inm m' k
theorem isG_mono {gs gs' : List (List Nat)} {m m' : Nat} {r : List Nat} (h : Emb gs m gs' m') (hr : isG gs m r) : isG gs' m' r := by
  obtain ⟨k, a, b⟩ := hr
  obtain ⟨c, e⟩ := h k r a b
  exact ⟨k, c, e⟩
theorem nxR_mono {gs gs' : List (List Nat)} {m m' : Nat} {t r : List Nat} (h : Emb gs m gs' m') (hr : nxR gs m t r) : nxR gs' m' t r := by
  obtain ⟨a, l, b, c⟩ := hr
  exact ⟨a, l, isG_mono h b, c⟩
theorem RSd_mono {gs gs' : List (List Nat)} {m m' : Nat} (h : Emb gs m gs' m') : ∀ j r, (RSd gs m j).2 r → DvR gs' m' r
  | 0, r, ⟨a, x, y, la, b, c, d, e, f⟩ => by
    obtain ⟨c1, c2⟩ := h x la c e
    obtain ⟨d1, d2⟩ := h y _ d f
    exact ⟨0, a, x, y, la, b, c1, d1, c2, d2⟩
  | j + 1, r, ⟨⟨t, a, b⟩, _, _⟩ => DvR_nx (RSd_mono h j t a) (nxR_mono h b)
theorem Dv_mono {gs gs' : List (List Nat)} {m m' : Nat} {r : List Nat} (h : Emb gs m gs' m') (hr : DvR gs m r) : DvR gs' m' r := by
  obtain ⟨j, hj⟩ := hr
  exact RSd_mono h j r hj
theorem Prt_mono {gs gs' : List (List Nat)} {m m' : Nat} (h : Emb gs m gs' m') (hp : Prt gs' m') : Prt gs m := fun r hd hg => hp r (Dv_mono h hd) (isG_mono h hg)
theorem Emb_sub {gs : List (List Nat)} {m m' : Nat} (h : ∀ k, inm m k → inm m' k) : Emb gs m gs m' := fun k l a b => ⟨a, h k b⟩
/-- tails come of the groups that they name -/
def okM (gs : List (List Nat)) (m : Nat) (ts : TL) : Prop := ∀ t ∈ ts, DvR gs t.2 t.1 ∧ ∀ k, inm t.2 k → inm m k ∧ k < gs.length
theorem tadd_M {gs : List (List Nat)} {m mk : Nat} {ts : TL} {r : List Nat} (h : okM gs m ts) (hr : r ≠ [] → DvR gs mk r ∧ ∀ k, inm mk k → inm m k ∧ k < gs.length) : okM gs m (tadd ts r mk) := by
  unfold tadd
  by_cases z : r = [] ∨ 98 ≤ ts.length ∨ r ∈ ts.map Prod.fst
  · rw [if_pos z]
    exact h
  · rw [if_neg z]
    intro t ht
    rcases List.mem_append.mp ht with w | w
    · exact h t w
    · rw [List.mem_singleton.mp w]
      exact hr (fun y => z (Or.inl y))
theorem fsB_M {gs : List (List Nat)} {m a : Nat} (ha : a < gs.length) : ∀ (e b : Nat) (ts : TL), b + e ≤ gs.length → okM gs m ts → okM gs m (fsB gs m a e b ts)
  | 0, _, _, _, h => h
  | e + 1, b, ts, hb, h => by
    refine fsB_M ha e (b + 1) _ (by omega) ?_
    by_cases z : fsC gs m a b
    · rw [if_pos z]
      refine tadd_M h (fun y => ⟨⟨0, y, a, b, _, z.1, gS ha, ?_, inm_or.mpr (Or.inl (inm_pow.mpr rfl)), inm_or.mpr (Or.inr (inm_pow.mpr rfl))⟩, fun k hk => ?_⟩)
      · rw [gS (by omega), ← tak_app z.2.2.2]
      · rcases inm_or.mp hk with w | w
        · rw [inm_pow.mp w]
          exact ⟨z.2.1, ha⟩
        · rw [inm_pow.mp w]
          exact ⟨z.2.2.1, by omega⟩
    · rw [if_neg z]
      exact h
theorem fsA_M {gs : List (List Nat)} {m : Nat} : ∀ (e a : Nat) (ts : TL), a + e ≤ gs.length → okM gs m ts → okM gs m (fsA gs m e a ts)
  | 0, _, _, _, h => h
  | e + 1, a, ts, ha, h => fsA_M e (a + 1) _ (by omega) (fsB_M (by omega) gs.length 0 ts (by omega) h)
theorem nxG_M {gs : List (List Nat)} {m k : Nat} {t : List Nat × Nat} {ts : TL} (hk : k < gs.length) (ht : DvR gs t.2 t.1 ∧ ∀ k, inm t.2 k → inm m k ∧ k < gs.length) (h : okM gs m ts) : okM gs m (nxG gs m t k ts) := by
  unfold nxG
  by_cases z : inm m k
  · rw [if_pos z]
    have d1 : DvR gs (t.2 ||| 2 ^ k) t.1 := Dv_mono (Emb_sub (fun j hj => inm_or.mpr (Or.inl hj))) ht.1
    have g1 : isG gs (t.2 ||| 2 ^ k) (gs.getD k []) := ⟨k, gS hk, inm_or.mpr (Or.inr (inm_pow.mpr rfl))⟩
    have sub : ∀ j, inm (t.2 ||| 2 ^ k) j → inm m j ∧ j < gs.length := fun j hj => by
      rcases inm_or.mp hj with w | w
      · exact ht.2 j w
      · rw [inm_pow.mp w]
        exact ⟨z, hk⟩
    by_cases y : t.1 = (gs.getD k []).take t.1.length
    · rw [if_pos y]
      exact tadd_M h (fun w => ⟨DvR_nx d1 ⟨w, _, g1, Or.inl (tak_app y)⟩, sub⟩)
    · rw [if_neg y]
      by_cases v : gs.getD k [] = t.1.take (gs.getD k []).length
      · rw [if_pos v]
        exact tadd_M h (fun w => ⟨DvR_nx d1 ⟨w, _, g1, Or.inr (tak_app v)⟩, sub⟩)
      · rw [if_neg v]
        exact h
  · rw [if_neg z]
    exact h
theorem nxK_M {gs : List (List Nat)} {m : Nat} {t : List Nat × Nat} (ht : DvR gs t.2 t.1 ∧ ∀ k, inm t.2 k → inm m k ∧ k < gs.length) : ∀ (e k : Nat) (ts : TL), k + e ≤ gs.length → okM gs m ts → okM gs m (nxK gs m t e k ts)
  | 0, _, _, _, h => h
  | e + 1, k, ts, hk, h => nxK_M ht e (k + 1) _ (by omega) (nxG_M (by omega) ht h)
theorem nxT_M {gs : List (List Nat)} {m : Nat} : ∀ (e i : Nat) (ts : TL), i + e ≤ ts.length → okM gs m ts → okM gs m (nxT gs m e i ts)
  | 0, _, _, _, h => h
  | e + 1, i, ts, hi, h => by
    have gi : ts[i]? = some (ts.getD i ([], 0)) := by
      rw [List.getElem?_eq_getElem (by omega), List.getD_eq_getElem?_getD, List.getElem?_eq_getElem (by omega)]
      rfl
    obtain ⟨N, hN⟩ := nxK_pre gs m (ts.getD i ([], 0)) gs.length 0 ts
    exact nxT_M e (i + 1) _ (by rw [hN, List.length_append]; omega) (nxK_M (h _ (List.mem_of_getElem? gi)) gs.length 0 ts (by omega) h)
/-- groups that clash, whatever the others are -/
def Cla (gs : List (List Nat)) (m x : Nat) : Prop := ¬ Prt gs x ∧ ∀ k, inm x k → inm m k ∧ k < gs.length
theorem sdT_M {gs : List (List Nat)} {m : Nat} : ∀ (B : TL), okM gs m B → ∀ y, sdT gs m B = some y → Cla gs m y
  | [], _, y, h => by cases h
  | t :: B, hB, y, h => by
    obtain ⟨k1, k2⟩ := sdK_S (gs := gs) (m := m) (t := t) gs.length 0
    unfold sdT at h
    cases e : sdK gs m t gs.length 0 with
    | none =>
      rw [e] at h
      exact sdT_M B (fun u hu => hB u (List.mem_cons_of_mem _ hu)) y h
    | some x =>
      rw [e] at h
      have exy : x = y := Option.some.inj h
      subst exy
      obtain ⟨k, a, b, c, d, f⟩ := k2 x e
      obtain ⟨t1, t2⟩ := hB t (List.mem_cons_self ..)
      rw [f]
      refine ⟨fun hp => hp t.1 (Dv_mono (Emb_sub (fun j hj => inm_or.mpr (Or.inl hj))) t1) ⟨k, by rw [gS (by omega), d], inm_or.mpr (Or.inr (inm_pow.mpr rfl))⟩, fun j hj => ?_⟩
      rcases inm_or.mp hj with w | w
      · exact t2 j w
      · rw [inm_pow.mp w]
        exact ⟨c, by omega⟩
theorem srt_M {gs : List (List Nat)} {m : Nat} {A B : TL} (h : okM gs m (A ++ B)) : okM gs m (A ++ srtF [] B) := fun t ht => h t (by
  have p : (A ++ srtF [] B).Perm (A ++ B) := (List.Perm.refl A).append (srtF_perm B [])
  exact p.mem_iff.mp ht)
theorem rnds_some {gs : List (List Nat)} {m : Nat} {y : Nat × Nat} : ∀ (f : Nat) (A B : TL) (r : Nat), (rnds gs m false f A B (some y) r).2 = some y
  | 0, _, _, _ => rfl
  | f + 1, A, B, r => by
    unfold rnds
    by_cases z : B = []
    · rw [if_pos z]
    · rw [if_neg z, if_neg (fun w => by cases w.1)]
      exact rnds_some f _ _ _
theorem rnds_only {gs : List (List Nat)} {m : Nat} : ∀ (f : Nat) (A B : TL) (r : Nat), (rnds gs m true f A B none r).2 = (rnds gs m false f A B none r).2
  | 0, _, _, _ => rfl
  | f + 1, A, B, r => by
    unfold rnds
    by_cases z : B = []
    · rw [if_pos z, if_pos z]
    · rw [if_neg z, if_neg z, if_neg (show ¬ (false = true ∧ _) from fun w => by cases w.1)]
      cases e : dbN gs m r none (srtF [] B) with
      | none =>
        rw [if_neg (fun w => by cases w.2)]
        exact rnds_only f _ _ _
      | some y =>
        rw [if_pos ⟨rfl, rfl⟩]
        exact (rnds_some f _ _ _).symm
theorem rnds_M {gs : List (List Nat)} {m : Nat} : ∀ (f : Nat) (A B : TL) (db : Option (Nat × Nat)) (r : Nat), okM gs m (A ++ B) → (∀ y, db = some y → Cla gs m y.2) → ∀ y, (rnds gs m false f A B db r).2 = some y → Cla gs m y.2
  | 0, _, _, _, _, _, hd, y, h => hd y h
  | f + 1, A, B, db, r, hM, hd, y, h => by
    unfold rnds at h
    by_cases z : B = []
    · rw [if_pos z] at h
      exact hd y h
    · rw [if_neg z, if_neg (fun w => by cases w.1)] at h
      have hM' := srt_M hM
      have hln : (srtF [] B).length = B.length := by
        have := (srtF_perm B []).length_eq
        rw [List.nil_append] at this
        exact this
      obtain ⟨N, hN⟩ := nxT_pre gs m B.length A.length (A ++ srtF [] B)
      have dN : (nxT gs m B.length A.length (A ++ srtF [] B)).drop (A.length + B.length) = N := by
        rw [hN, show A.length + B.length = (A ++ srtF [] B).length by rw [List.length_append, hln], List.drop_left]
      refine rnds_M f _ _ _ _ ?_ (fun v hv => ?_) y h
      · rw [dN, ← hN]
        exact nxT_M B.length A.length _ (by rw [List.length_append, hln]; exact Nat.le_refl _) hM'
      · cases db with
        | some u =>
          have : u = v := Option.some.inj hv
          rw [← this]
          exact hd u rfl
        | none =>
          have hv' : (sdT gs m (srtF [] B)).map (fun x => (r, x)) = some v := hv
          cases e : sdT gs m (srtF [] B) with
          | none =>
            rw [e] at hv'
            cases hv'
          | some x =>
            rw [e] at hv'
            have : (r, x) = v := Option.some.inj hv'
            rw [← this]
            exact sdT_M _ (fun t ht => hM' t (List.mem_append_right _ ht)) x e
theorem allR_M {gs : List (List Nat)} {m : Nat} : ∀ y, (allR gs m).2 = some y → Cla gs m y.2 := fun y h => rnds_M 98 [] _ none 1 (fsA_M gs.length 0 [] (by omega) (fun t ht => by cases ht)) (fun y hy => by cases hy) y h
theorem allR_P {gs : List (List Nat)} {m : Nat} (ho : okg gs m) : (allR gs m).2 = none ↔ Prt gs m := by
  have h := (allR_S ho).2.2
  constructor
  · intro e r ⟨j, hj⟩ hg
    rw [e] at h
    by_cases z : j < (allR gs m).1.length
    · exact h j r z hj hg
    · exact allR_no ho (by omega) hj
  · intro hp
    cases e : (allR gs m).2 with
    | none => rfl
    | some y =>
      rw [e] at h
      obtain ⟨x, x1, x2⟩ := h.2.2.1
      exact absurd x2 (hp x ⟨_, x1⟩)
