/-! borders on the class's side: the list sorted is all borders, by size and as in a dictionary -/
theorem iE_suf {gs : List (List Nat)} {m s : Nat} {t : List Nat} (h : iE gs m (s :: t)) : iE gs m t := by
  obtain ⟨x, hx, (⟨a, b⟩ | ⟨a, b⟩)⟩ := h
  · exact ⟨_, Or.inr a, b⟩
  · exact ⟨[], Or.inl rfl, b⟩
theorem lsD_cons {s j : Nat} {t : List Nat} (h : j ≤ t.length) : lsD (s :: t) j = lsD t j := by
  unfold lsD
  rw [List.length_cons, show t.length + 1 - j = (t.length - j) + 1 by omega, List.drop_succ_cons]
theorem lsD_all (t : List Nat) : lsD t t.length = t := by
  unfold lsD
  rw [Nat.sub_self]
  rfl
theorem lsD_suf {z r : List Nat} {j : Nat} (h : j ≤ r.length) : lsD (z ++ r) j = lsD r j := by
  unfold lsD
  rw [List.length_append, show z.length + r.length - j = z.length + (r.length - j) by omega, List.drop_append]
  rw [List.drop_eq_nil_of_le (by omega), List.nil_append]
  congr 1
  omega
theorem iE_lsD {gs : List (List Nat)} {m : Nat} : ∀ (t : List Nat) (j : Nat), iE gs m t → j ≤ t.length → iE gs m (lsD t j)
  | [], j, h, hj => by
    have : j = 0 := by have : ([] : List Nat).length = 0 := rfl; omega
    rw [this]
    exact h
  | s :: t, j, h, hj => by
    by_cases y : j = t.length + 1
    · rw [y]
      have := lsD_all (s :: t)
      rw [List.length_cons] at this
      rw [this]
      exact h
    · rw [List.length_cons] at hj
      rw [lsD_cons (by omega)]
      exact iE_lsD t j (iE_suf h) (by omega)
theorem opn_iff {gs : List (List Nat)} {m : Nat} : ∀ (n : Nat) (x : List Nat), x ∈ opn gs m n ↔ x.length = n ∧ (∀ a ∈ x, 0 < a ∧ a < 28) ∧ ∀ j, 0 < j → j ≤ n → iE gs m (lsD x j) ∧ iW gs m (lsD x j)
  | 0, x => by
    constructor
    · intro h
      rw [List.mem_singleton.mp h]
      exact ⟨rfl, fun a ha => (by cases ha), fun j a b => absurd a (by omega)⟩
    · rintro ⟨h, _⟩
      rw [List.length_eq_zero_iff.mp h]
      exact List.mem_singleton.mpr rfl
  | n + 1, x => by
    constructor
    · intro h
      obtain ⟨h1, h2, h3⟩ := fltP_mem.mp h
      obtain ⟨s, t, e, s1, s2, ht⟩ := cndR_mem.mp h1
      obtain ⟨t1, t2, t3⟩ := (opn_iff n t).mp ht
      subst e
      refine ⟨by rw [List.length_cons, t1], fun a ha => ?_, fun j j0 jn => ?_⟩
      · rcases List.mem_cons.mp ha with z | z
        · omega
        · exact t2 a z
      · by_cases y : j = n + 1
        · have := lsD_all (s :: t)
          rw [List.length_cons, t1] at this
          rw [y, this]
          exact ⟨h2, h3⟩
        · rw [lsD_cons (by omega)]
          exact t3 j j0 (by omega)
    · rintro ⟨h1, h2, h3⟩
      cases x with
      | nil => cases h1
      | cons s t =>
        rw [List.length_cons] at h1
        have t1 : t.length = n := by omega
        have a1 := h3 (n + 1) (by omega) (Nat.le_refl _)
        have := lsD_all (s :: t)
        rw [List.length_cons, t1] at this
        rw [this] at a1
        have s1 := h2 s (List.mem_cons_self ..)
        refine fltP_mem.mpr ⟨cndR_mem.mpr ⟨s, t, rfl, by omega, by omega, (opn_iff n t).mpr ⟨t1, fun a ha => h2 a (List.mem_cons_of_mem _ ha), fun j j0 jn => ?_⟩⟩, a1⟩
        have := h3 j j0 (by omega)
        rw [lsD_cons (by omega)] at this
        exact this
/-- a least border -/
def isB (gs : List (List Nat)) (m : Nat) (x : List Nat) : Prop := (∀ a ∈ x, 0 < a ∧ a < 28) ∧ iE gs m x ∧ ¬ iW gs m x ∧ ∀ j, 0 < j → j < x.length → iW gs m (lsD x j)
theorem bor_iff {gs : List (List Nat)} {m n : Nat} {x : List Nat} : x ∈ bor gs m (n + 1) ↔ x.length = n + 1 ∧ isB gs m x := by
  constructor
  · intro h
    obtain ⟨h1, h2, h3⟩ := fltP_mem.mp h
    obtain ⟨s, t, e, s1, s2, ht⟩ := cndR_mem.mp h1
    obtain ⟨t1, t2, t3⟩ := (opn_iff n t).mp ht
    subst e
    refine ⟨by rw [List.length_cons, t1], fun a ha => ?_, h2, h3, fun j j0 jn => ?_⟩
    · rcases List.mem_cons.mp ha with z | z
      · omega
      · exact t2 a z
    · rw [List.length_cons] at jn
      rw [lsD_cons (by omega)]
      exact (t3 j j0 (by omega)).2
  · rintro ⟨h1, h2, h3, h4, h5⟩
    cases x with
    | nil => cases h1
    | cons s t =>
      rw [List.length_cons] at h1
      have t1 : t.length = n := by omega
      have s1 := h2 s (List.mem_cons_self ..)
      refine fltP_mem.mpr ⟨cndR_mem.mpr ⟨s, t, rfl, by omega, by omega, (opn_iff n t).mpr ⟨t1, fun a ha => h2 a (List.mem_cons_of_mem _ ha), fun j j0 jn => ⟨iE_lsD t j (iE_suf h3) (by omega), ?_⟩⟩⟩, h3, h4⟩
      have := h5 j j0 (by rw [List.length_cons]; omega)
      rw [lsD_cons (by omega)] at this
      exact this
theorem blR_iff {gs : List (List Nat)} {m : Nat} : ∀ (k : Nat) (r x : List Nat), x ∈ blR gs m k r ↔ ∃ z, x = z ++ r ∧ 0 < z.length ∧ z.length ≤ k ∧ (∀ a ∈ z, 0 < a ∧ a < 28) ∧ iE gs m x ∧ ¬ iW gs m x ∧ ∀ j, r.length < j → j < x.length → iW gs m (lsD x j)
  | 0, r, x => ⟨fun h => (by cases h), fun ⟨z, _, h1, h2, _⟩ => absurd h1 (by omega)⟩
  | k + 1, r, x => by
    show x ∈ (List.range' 1 27).flatMap _ ↔ _
    rw [List.mem_flatMap]
    constructor
    · rintro ⟨s, hs, hx⟩
      have hs' := List.mem_range'_1.mp hs
      by_cases w : iW gs m (s :: r)
      · rw [iteLL_t w] at hx
        obtain ⟨z, e, z1, z2, z3, z4, z5, z6⟩ := (blR_iff k (s :: r) x).mp hx
        refine ⟨z ++ [s], by rw [e, List.append_assoc]; rfl, by rw [List.length_append]; show 0 < z.length + 1; omega, by rw [List.length_append]; show z.length + 1 ≤ k + 1; omega, fun a ha => ?_, z4, z5, fun j j0 jx => ?_⟩
        · rcases List.mem_append.mp ha with q | q
          · exact z3 a q
          · rw [List.mem_singleton.mp q]
            omega
        · by_cases y : j = r.length + 1
          · have := lsD_all (s :: r)
            rw [List.length_cons] at this
            rw [e, lsD_suf (by rw [List.length_cons]; omega), y, this]
            exact w
          · exact z6 j (by rw [List.length_cons]; omega) jx
      · rw [iteLL_f w] at hx
        by_cases v : iE gs m (s :: r)
        · rw [iteLL_t v] at hx
          have e := List.mem_singleton.mp hx
          refine ⟨[s], e, by show 0 < 1; decide, by show 1 ≤ k + 1; omega, fun a ha => ?_, by rw [e]; exact v, by rw [e]; exact w, fun j j0 jx => ?_⟩
          · rw [List.mem_singleton.mp ha]
            omega
          · rw [e, List.length_cons] at jx
            omega
        · rw [iteLL_f v] at hx
          cases hx
    · rintro ⟨z, e, z1, z2, z3, z4, z5, z6⟩
      rcases List.eq_nil_or_concat z with q | ⟨z', s, q⟩
      · rw [q] at z1
        exact absurd z1 (by decide)
      · rw [List.concat_eq_append] at q
        subst q
        have hs := z3 s (List.mem_append_right _ (List.mem_singleton.mpr rfl))
        refine ⟨s, List.mem_range'_1.mpr ⟨by omega, by omega⟩, ?_⟩
        have e' : x = z' ++ s :: r := by rw [e, List.append_assoc]; rfl
        have lz : (z' ++ [s]).length = z'.length + 1 := List.length_append
        rw [lz] at z2
        by_cases y : z' = []
        · rw [y, List.nil_append] at e'
          rw [e'] at z4 z5
          rw [iteLL_f z5, iteLL_t z4]
          exact List.mem_singleton.mpr e'
        · have l0 := List.length_pos_iff.mpr y
          have w : iW gs m (s :: r) := by
            have := z6 (r.length + 1) (by omega) (by rw [e', List.length_append, List.length_cons]; omega)
            rw [e', lsD_suf (by rw [List.length_cons]; omega)] at this
            have e3 := lsD_all (s :: r)
            rw [List.length_cons] at e3
            rw [e3] at this
            exact this
          rw [iteLL_t w]
          exact (blR_iff k (s :: r) x).mpr ⟨z', e', l0, by omega, fun a ha => z3 a (List.mem_append_left _ ha), z4, z5, fun j j0 jx => z6 j (by rw [List.length_cons] at j0; omega) jx⟩
theorem blR_nd {gs : List (List Nat)} {m : Nat} : ∀ (k : Nat) (r : List Nat), (blR gs m k r).Nodup
  | 0, _ => List.nodup_nil
  | k + 1, r => by
    show List.Pairwise _ ((List.range' 1 27).flatMap _)
    have suf : ∀ s x, x ∈ iteLL (iW gs m (s :: r)) (blR gs m k (s :: r)) (iteLL (iE gs m (s :: r)) [s :: r] []) → ∃ z, x = (z ++ [s]) ++ r := by
      intro s x hx
      by_cases w : iW gs m (s :: r)
      · rw [iteLL_t w] at hx
        obtain ⟨z, e, _⟩ := (blR_iff k (s :: r) x).mp hx
        exact ⟨z, by rw [e, List.append_assoc]; rfl⟩
      · rw [iteLL_f w] at hx
        by_cases v : iE gs m (s :: r)
        · rw [iteLL_t v] at hx
          exact ⟨[], List.mem_singleton.mp hx⟩
        · rw [iteLL_f v] at hx
          cases hx
    refine List.pairwise_flatMap.mpr ⟨fun s hs => ?_, ?_⟩
    · by_cases w : iW gs m (s :: r)
      · rw [iteLL_t w]
        exact blR_nd k (s :: r)
      · rw [iteLL_f w]
        by_cases v : iE gs m (s :: r)
        · rw [iteLL_t v]
          exact List.pairwise_singleton ..
        · rw [iteLL_f v]
          exact List.Pairwise.nil
    · have nd : (List.range' 1 27).Nodup := List.nodup_range'
      refine List.Pairwise.imp (fun {a b} hab x hx y hy e => ?_) nd
      obtain ⟨z, e1⟩ := suf a x hx
      obtain ⟨z', e2⟩ := suf b y hy
      rw [e1, e2] at e
      have e3 := List.append_cancel_right e
      have e4 := (List.append_inj' e3 rfl).2
      exact hab (List.cons.inj e4).1
/-- all borders, by size -/
noncomputable def catB (gs : List (List Nat)) (m : Nat) : Nat → List (List Nat)
  | 0 => []
  | n + 1 => catB gs m n ++ bor gs m (n + 1)
theorem catB_mem {gs : List (List Nat)} {m : Nat} {x : List Nat} : ∀ n, x ∈ catB gs m n ↔ 0 < x.length ∧ x.length ≤ n ∧ isB gs m x
  | 0 => ⟨fun h => (by cases h), fun ⟨a, b, _⟩ => absurd a (by omega)⟩
  | n + 1 => by
    show x ∈ catB gs m n ++ bor gs m (n + 1) ↔ _
    rw [List.mem_append, catB_mem n, bor_iff]
    constructor
    · rintro (⟨a, b, c⟩ | ⟨a, c⟩)
      · exact ⟨a, by omega, c⟩
      · exact ⟨by omega, by omega, c⟩
    · rintro ⟨a, b, c⟩
      by_cases y : x.length = n + 1
      · exact Or.inr ⟨y, c⟩
      · exact Or.inl ⟨a, by omega, c⟩
theorem cdB_lt {a b : List Nat} (ha : ∀ x ∈ a, 0 < x ∧ x < 28) (h4 : a.length ≤ 4) (h : a.length < b.length) : cdB a < cdB b := by
  have lt := pkN_lt (l := a) (fun x h => by have := ha x h; omega)
  have p20 : 32 ^ a.length ≤ 32 ^ 4 := Nat.pow_le_pow_right (by decide) h4
  unfold cdB
  omega
theorem catB_pw {gs : List (List Nat)} {m : Nat} : ∀ n, n ≤ 4 → (catB gs m n).Pairwise (fun a b => cdB a < cdB b)
  | 0, _ => List.Pairwise.nil
  | n + 1, hn => by
    refine List.pairwise_append.mpr ⟨catB_pw n (by omega), ?_, fun a ha b hb => ?_⟩
    · have o := bor_O (gs := gs) (m := m) (n := n)
      refine List.Pairwise.imp_of_mem (fun {a b} ha hb hab => ?_) o.1
      unfold cdB
      rw [(o.2 a ha).1, (o.2 b hb).1]
      omega
    · obtain ⟨a1, a2, a3⟩ := (catB_mem n).mp ha
      obtain ⟨b1, _⟩ := bor_iff.mp hb
      exact cdB_lt a3.1 (by omega) (by omega)
theorem bl_perm {gs : List (List Nat)} {m : Nat} : (blR gs m 4 []).Perm (catB gs m 4) := by
  have nd : (catB gs m 4).Nodup := List.Pairwise.imp (fun hab e => by rw [e] at hab; exact Nat.lt_irrefl _ hab) (catB_pw 4 (Nat.le_refl _))
  refine (List.perm_ext_iff_of_nodup (blR_nd 4 []) nd).mpr (fun x => ?_)
  rw [blR_iff, catB_mem]
  constructor
  · rintro ⟨z, e, z1, z2, z3, z4, z5, z6⟩
    rw [List.append_nil] at e
    subst e
    exact ⟨z1, z2, z3, z4, z5, fun j j0 jx => z6 j j0 jx⟩
  · rintro ⟨h1, h2, h3, h4, h5, h6⟩
    exact ⟨x, (List.append_nil x).symm, h1, h2, h3, h4, h5, fun j j0 jx => h6 j j0 jx⟩
theorem bl_sorted {gs : List (List Nat)} {m : Nat} {l : List Nat} (hp : l.Perm ((blR gs m 4 []).map cdB)) (hs : l.Pairwise (· ≤ ·)) : l = (catB gs m 4).map cdB := by
  refine List.Perm.eq_of_pairwise (fun a b _ _ h1 h2 => Nat.le_antisymm h1 h2) hs ?_ (hp.trans (bl_perm.map cdB))
  rw [List.pairwise_map]
  exact List.Pairwise.imp (fun h => Nat.le_of_lt h) (catB_pw 4 (Nat.le_refl _))
theorem catB_len {gs : List (List Nat)} {m : Nat} (ho : okg gs m) : (catB gs m 4).length ≤ 60000 := by
  have b1 : (bor gs m 1).length ≤ 27 * (opn gs m 0).length := bor_le
  have b2 : (bor gs m 2).length ≤ 27 * (opn gs m 1).length := bor_le
  have b3 : (bor gs m 3).length ≤ 27 * (opn gs m 2).length := bor_le
  have b4 := (bor4_le (m := m) ho).2
  have o0 := opn_le (gs := gs) (m := m) 0
  have o1 := opn_le (gs := gs) (m := m) 1
  have o2 := opn_le (gs := gs) (m := m) 2
  show ((([] ++ bor gs m 1) ++ bor gs m 2) ++ bor gs m 3 ++ bor gs m 4).length ≤ 60000
  rw [List.length_append, List.length_append, List.length_append, List.nil_append]
  omega
theorem catB_cut {gs : List (List Nat)} {m n : Nat} : ∀ e, ∃ z, catB gs m (n + e) = catB gs m n ++ z ∧ ∀ r ∈ z, n < r.length
  | 0 => ⟨[], (List.append_nil _).symm, fun r h => by cases h⟩
  | e + 1 => by
    obtain ⟨z, h1, h2⟩ := catB_cut (gs := gs) (m := m) (n := n) e
    refine ⟨z ++ bor gs m (n + e + 1), ?_, fun r hr => ?_⟩
    · show catB gs m (n + e) ++ bor gs m (n + e + 1) = _
      rw [h1, List.append_assoc]
    · rcases List.mem_append.mp hr with q | q
      · exact h2 r q
      · have := (bor_iff.mp q).1
        omega
