/-! tails, round by round: what all the class's rounds hold, each in the dictionary's order; where doubt comes up -/
theorem insV_srt {x : List Nat × Nat} : ∀ (P S : TL), (P.reverse ++ S).Pairwise (fun a b => kyl a.1 ≤ kyl b.1) → (∀ s ∈ S, kyl x.1 ≤ kyl s.1) → (insV x P S).Pairwise (fun a b => kyl a.1 ≤ kyl b.1)
  | [], S, h, hs => List.pairwise_cons.mpr ⟨hs, h⟩
  | y :: P, S, h, hs => by
    unfold insV
    by_cases z : kyl y.1 ≤ kyl x.1
    · rw [if_pos z]
      obtain ⟨h1, h2, h3⟩ := List.pairwise_append.mp h
      refine List.pairwise_append.mpr ⟨h1, List.pairwise_cons.mpr ⟨hs, h2⟩, fun a ha b hb => ?_⟩
      have ay : kyl a.1 ≤ kyl y.1 := by
        rw [List.reverse_cons] at h1 ha
        rcases List.mem_append.mp ha with w | w
        · exact (List.pairwise_append.mp h1).2.2 a w y (List.mem_singleton.mpr rfl)
        · rw [List.mem_singleton.mp w]
          exact Nat.le_refl _
      rcases List.mem_cons.mp hb with w | w
      · rw [w]
        exact Nat.le_trans ay z
      · exact h3 a ha b w
    · rw [if_neg z]
      refine insV_srt P (y :: S) ?_ (fun s hs' => ?_)
      · rw [List.reverse_cons, List.append_assoc] at h
        exact h
      · rcases List.mem_cons.mp hs' with w | w
        · rw [w]
          omega
        · exact hs s w
theorem srtF_srt : ∀ (R L : TL), L.Pairwise (fun a b => kyl a.1 ≤ kyl b.1) → (srtF L R).Pairwise (fun a b => kyl a.1 ≤ kyl b.1)
  | [], L, h => h
  | x :: R, L, h => srtF_srt R _ (insV_srt L.reverse [] (by rw [List.reverse_reverse, List.append_nil]; exact h) (fun s hs => (by cases hs)))
theorem kyl_inj {a b : List Nat} (ha : okr a) (hb : okr b) (h : kyl a = kyl b) : a = b := by
  obtain ⟨u1, u2⟩ := ag_lex 7 a b ha.2 hb.2 ha.in32 hb.in32
  obtain ⟨_, u4⟩ := ag_lex 7 b a hb.2 ha.2 hb.in32 ha.in32
  rw [kyw_7, kyw_7] at u2 u4
  rw [cpl_comm b a] at u4
  exact u1.mp (by omega)
theorem isE_okr {gs : List (List Nat)} {m : Nat} {r : List Nat} (ho : okg gs m) (h : isE gs m r) : okr r := by
  obtain ⟨_, k, l, i, a, _, _, e⟩ := h
  rw [e]
  exact (ho.at a).1.drop i
theorem srt_rows {B : TL} (x : List Nat) : x ∈ rowsT (srtF [] B) ↔ x ∈ rowsT B := by
  have := (srtF_perm B []).map Prod.fst
  exact this.mem_iff
theorem srt_S {gs : List (List Nat)} {m : Nat} {A B : TL} (h : OkS gs m (A ++ B)) : OkS gs m (A ++ srtF [] B) := by
  have p : (rowsT (A ++ srtF [] B)).Perm (rowsT (A ++ B)) := ((List.Perm.refl A).append (srtF_perm B [])).map Prod.fst
  exact ⟨h.1.perm p.symm, fun r hr => h.2 r (p.mem_iff.mp hr)⟩
theorem srt_lt {gs : List (List Nat)} {m : Nat} {A B : TL} (ho : okg gs m) (h : OkS gs m (A ++ B)) : (rowsT (srtF [] B)).Pairwise (fun a b => kyl a < kyl b) := by
  have h' := srt_S h
  have e : rowsT (A ++ srtF [] B) = rowsT A ++ rowsT (srtF [] B) := List.map_append
  have n := h'.1
  rw [e] at n
  have n2 := (List.nodup_append.mp n).2.1
  have s1 : (rowsT (srtF [] B)).Pairwise (fun a b => kyl a ≤ kyl b) := List.pairwise_map.mpr (srtF_srt B [] List.Pairwise.nil)
  have ok : ∀ r ∈ rowsT (srtF [] B), okr r := fun r hr => isE_okr ho (h'.2 r (by rw [e]; exact List.mem_append_right _ hr))
  exact (s1.and n2).imp_of_mem (fun ha hb z => Nat.lt_of_le_of_ne z.1 (fun y => z.2 (kyl_inj (ok _ ha) (ok _ hb) y)))
theorem sdK_S {gs : List (List Nat)} {m : Nat} {t : List Nat × Nat} : ∀ (e k : Nat), (sdK gs m t e k = none → ∀ k', k ≤ k' → k' < k + e → ¬ (inm m k' ∧ gs.getD k' [] = t.1)) ∧ ∀ x, sdK gs m t e k = some x → ∃ k', k ≤ k' ∧ k' < k + e ∧ inm m k' ∧ gs.getD k' [] = t.1 ∧ x = t.2 ||| 2 ^ k'
  | 0, k => ⟨fun _ k' a b => by omega, fun x h => (by cases h)⟩
  | e + 1, k => by
    unfold sdK
    by_cases z : inm m k ∧ gs.getD k [] = t.1
    · rw [if_pos z]
      exact ⟨fun y => (by cases y), fun x h => ⟨k, by omega, by omega, z.1, z.2, (Option.some.inj h).symm⟩⟩
    · rw [if_neg z]
      obtain ⟨h1, h2⟩ := sdK_S (gs := gs) (m := m) (t := t) e (k + 1)
      refine ⟨fun y k' a b => ?_, fun x h => ?_⟩
      · by_cases w : k' = k
        · rw [w]
          exact z
        · exact h1 y k' (by omega) (by omega)
      · obtain ⟨k', a, b, c⟩ := h2 x h
        exact ⟨k', by omega, by omega, c⟩
theorem sdT_S {gs : List (List Nat)} {m : Nat} : ∀ (B : TL), (sdT gs m B = none → ∀ x ∈ rowsT B, ¬ isG gs m x) ∧ ∀ y, sdT gs m B = some y → ∃ x ∈ rowsT B, isG gs m x
  | [] => ⟨fun _ x h => (by cases h), fun y h => (by cases h)⟩
  | t :: B => by
    obtain ⟨k1, k2⟩ := sdK_S (gs := gs) (m := m) (t := t) gs.length 0
    obtain ⟨h1, h2⟩ := sdT_S (gs := gs) (m := m) B
    unfold sdT
    cases e : sdK gs m t gs.length 0 with
    | some x =>
      refine ⟨fun y => (by cases y), fun y _ => ⟨t.1, List.mem_cons_self .., ?_⟩⟩
      obtain ⟨k', a, b, c, f, _⟩ := k2 x e
      exact isG_iff.mpr ⟨k', by omega, c, f⟩
    | none =>
      refine ⟨fun y x hx => ?_, fun y hy => ?_⟩
      · rcases List.mem_cons.mp hx with w | w
        · rw [w]
          intro g
          obtain ⟨k', a, b, c⟩ := isG_iff.mp g
          exact k1 e k' (by omega) (by omega) ⟨b, c⟩
        · exact h1 y x w
      · obtain ⟨x, a, b⟩ := h2 y hy
        exact ⟨x, List.mem_cons_of_mem _ a, b⟩
/-- where doubt comes up in the first rounds -/
def dbT (gs : List (List Nat)) (m q : Nat) : Option (Nat × Nat) → Prop
  | none => ∀ j x, j < q → (RSd gs m j).2 x → ¬ isG gs m x
  | some y => 1 ≤ y.1 ∧ y.1 ≤ q ∧ (∃ x, (RSd gs m (y.1 - 1)).2 x ∧ isG gs m x) ∧ ∀ j x, j + 1 < y.1 → (RSd gs m j).2 x → ¬ isG gs m x
theorem dbN_S {gs : List (List Nat)} {m q : Nat} {db : Option (Nat × Nat)} {B : TL} (h : dbT gs m q db) (hB : ∀ x, x ∈ rowsT B ↔ (RSd gs m q).2 x) : dbT gs m (q + 1) (dbN gs m (q + 1) db B) := by
  cases db with
  | some y => exact ⟨h.1, by have := h.2.1; omega, h.2.2.1, h.2.2.2⟩
  | none =>
    obtain ⟨s1, s2⟩ := sdT_S (gs := gs) (m := m) B
    show dbT gs m (q + 1) ((sdT gs m B).map (fun x => (q + 1, x)))
    cases e : sdT gs m B with
    | none =>
      show ∀ j x, j < q + 1 → _
      intro j x hj hx
      by_cases w : j = q
      · subst w
        exact s1 e x ((hB x).mpr hx)
      · exact h j x (by omega) hx
    | some y =>
      obtain ⟨x, a, b⟩ := s2 y e
      exact ⟨by show 1 ≤ q + 1; omega, Nat.le_refl _, ⟨x, (hB x).mp a, b⟩, fun j x hj hx => h j x (by have : j + 1 < q + 1 := hj; omega) hx⟩
theorem rnds_S {gs : List (List Nat)} {m : Nat} (ho : okg gs m) : ∀ (f q : Nat) (A B : TL) (db : Option (Nat × Nat)), f + q = 98 → OkS gs m (A ++ B) → (∀ x, x ∈ rowsT A ↔ (RSd gs m q).1 x) → (∀ x, x ∈ rowsT B ↔ (RSd gs m q).2 x) → q ≤ A.length → dbT gs m q db → (∀ j x, (∃ C, (rnds gs m false f A B db (q + 1)).1[j]? = some C ∧ x ∈ rowsT C) ↔ (RSd gs m (q + j)).2 x) ∧ (∀ C ∈ (rnds gs m false f A B db (q + 1)).1, C ≠ [] ∧ (rowsT C).Pairwise (fun a b => kyl a < kyl b)) ∧ dbT gs m (q + (rnds gs m false f A B db (q + 1)).1.length) (rnds gs m false f A B db (q + 1)).2
  | 0, q, A, B, db, hf, hS, _, _, hq, _ => by
    have := hS.len ho
    rw [List.length_append] at this
    omega
  | f + 1, q, A, B, db, hf, hS, hA, hB, hq, hd => by
    by_cases z : B = []
    · have e : rnds gs m false (f + 1) A B db (q + 1) = ([], db) := if_pos z
      rw [e]
      have no : ∀ x, ¬ (RSd gs m q).2 x := fun x hx => by
        have := (hB x).mpr hx
        rw [z] at this
        cases this
      refine ⟨fun j x => ⟨fun ⟨C, h, _⟩ => (by cases h), fun h => absurd h (RSd_none no j x)⟩, fun C h => (by cases h), hd⟩
    · have e : rnds gs m false (f + 1) A B db (q + 1) = (srtF [] B :: (rnds gs m false f (A ++ srtF [] B) ((nxT gs m B.length A.length (A ++ srtF [] B)).drop (A.length + B.length)) (dbN gs m (q + 1) db (srtF [] B)) (q + 1 + 1)).1, (rnds gs m false f (A ++ srtF [] B) ((nxT gs m B.length A.length (A ++ srtF [] B)).drop (A.length + B.length)) (dbN gs m (q + 1) db (srtF [] B)) (q + 1 + 1)).2) := by
        show (if B = [] then _ else if (false = true ∧ _) then _ else _) = _
        rw [if_neg z, if_neg (fun y => (by cases y.1))]
      rw [e]
      have hS' := srt_S hS
      have hln : (srtF [] B).length = B.length := by
        have := (srtF_perm B []).length_eq
        rw [List.nil_append] at this
        exact this
      have hsr : ∀ x, x ∈ rowsT (srtF [] B) ↔ (RSd gs m q).2 x := fun x => (srt_rows x).trans (hB x)
      obtain ⟨n1, n2⟩ := nxT_S ho B.length A.length (A ++ srtF [] B) (by rw [List.length_append, hln]; exact Nat.le_refl _) hS'
      obtain ⟨N, hN⟩ := nxT_pre gs m B.length A.length (A ++ srtF [] B)
      have dN : (nxT gs m B.length A.length (A ++ srtF [] B)).drop (A.length + B.length) = N := by
        rw [hN, show A.length + B.length = (A ++ srtF [] B).length by rw [List.length_append, hln], List.drop_left]
      rw [dN]
      rw [hN] at n1 n2
      have hAS : ∀ x, x ∈ rowsT (A ++ srtF [] B) ↔ (RSd gs m (q + 1)).1 x := fun x => by
        have e2 : rowsT (A ++ srtF [] B) = rowsT A ++ rowsT (srtF [] B) := List.map_append
        rw [e2, List.mem_append, hA x, hsr x]
        exact Iff.rfl
      have eN : rowsT (A ++ srtF [] B ++ N) = rowsT (A ++ srtF [] B) ++ rowsT N := List.map_append
      have hNr : ∀ x, x ∈ rowsT N ↔ (RSd gs m (q + 1)).2 x := fun x => by
        have nd := n1.1
        rw [eN] at nd
        have dis := (List.nodup_append.mp nd).2.2
        have im : (∃ j t, A.length ≤ j ∧ j < A.length + B.length ∧ (A ++ srtF [] B)[j]? = some t ∧ nxR gs m t.1 x) ↔ ∃ t, (RSd gs m q).2 t ∧ nxR gs m t x := by
          constructor
          · rintro ⟨j, t, j1, j2, j3, j4⟩
            rw [List.getElem?_append_right j1] at j3
            exact ⟨t.1, (hsr t.1).mp (List.mem_map.mpr ⟨t, List.mem_of_getElem? j3, rfl⟩), j4⟩
          · rintro ⟨t, t1, t2⟩
            obtain ⟨u, u1, u2⟩ := List.mem_map.mp ((hsr t).mpr t1)
            obtain ⟨j, hj⟩ := List.mem_iff_getElem?.mp u1
            have := (List.getElem?_eq_some_iff.mp hj).1
            exact ⟨A.length + j, u, by omega, by omega, by rw [List.getElem?_append_right (by omega), show A.length + j - A.length = j by omega]; exact hj, by rw [u2]; exact t2⟩
        have n2x := n2 x
        rw [eN, List.mem_append, im] at n2x
        constructor
        · intro hx
          have nin : ¬ x ∈ rowsT (A ++ srtF [] B) := fun w => dis x w x hx rfl
          have h1 := (n2x.mp (Or.inr hx)).elim (fun w => absurd w nin) id
          rw [hAS x] at nin
          exact ⟨h1, fun w => nin (Or.inl w), fun w => nin (Or.inr w)⟩
        · rintro ⟨h1, h2, h3⟩
          exact (n2x.mpr (Or.inr h1)).elim (fun w => absurd ((hAS x).mp w) (fun v => v.elim h2 h3)) id
      obtain ⟨r1, r2, r3⟩ := rnds_S ho f (q + 1) (A ++ srtF [] B) N (dbN gs m (q + 1) db (srtF [] B)) (by omega) n1 hAS hNr (by
        rw [List.length_append, hln]
        have := List.length_pos_iff.mpr z
        omega) (dbN_S hd hsr)
      refine ⟨fun j x => ?_, fun C hC => ?_, ?_⟩
      · cases j with
        | zero =>
          show (∃ C, some (srtF [] B) = some C ∧ _) ↔ (RSd gs m q).2 x
          rw [← hsr x]
          exact ⟨fun ⟨C, c1, c2⟩ => by rw [Option.some.inj c1]; exact c2, fun h => ⟨_, rfl, h⟩⟩
        | succ j =>
          have := r1 j x
          rw [show q + 1 + j = q + (j + 1) by omega] at this
          exact this
      · rcases List.mem_cons.mp hC with w | w
        · rw [w]
          exact ⟨fun y => z (List.length_eq_zero_iff.mp (by rw [← hln, y]; rfl)), srt_lt ho hS⟩
        · exact r2 C w
      · show dbT gs m (q + (_ + 1)) _
        rw [show ∀ n, q + (n + 1) = q + 1 + n from fun n => by omega]
        exact r3
theorem allR_S {gs : List (List Nat)} {m : Nat} (ho : okg gs m) : (∀ j x, (∃ C, (allR gs m).1[j]? = some C ∧ x ∈ rowsT C) ↔ (RSd gs m j).2 x) ∧ (∀ C ∈ (allR gs m).1, C ≠ [] ∧ (rowsT C).Pairwise (fun a b => kyl a < kyl b)) ∧ dbT gs m (allR gs m).1.length (allR gs m).2 := by
  obtain ⟨f1, f2⟩ := first_S ho
  obtain ⟨r1, r2, r3⟩ := rnds_S ho 98 0 [] (fsA gs m gs.length 0 []) none rfl f1 (fun x => ⟨fun h => (by cases h), fun h => absurd h (fun y => y)⟩) f2 (Nat.le_refl _) (fun j x hj => by omega)
  refine ⟨fun j x => ?_, r2, ?_⟩
  · have := r1 j x
    rw [Nat.zero_add j] at this
    exact this
  · have := r3
    rw [Nat.zero_add (List.length _)] at this
    exact this
