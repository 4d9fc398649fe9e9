/-! borders: ways through a row of letters -/
/-- from the beginning x of a group (or from none) through the row to y -/
def Brn (gs : List (List Nat)) (m : Nat) : List Nat → List Nat → List Nat → Prop
  | [], x, y => x = y
  | s :: t, x, y => (isI gs m (x ++ [s]) ∧ Brn gs m t (x ++ [s]) y) ∨ (isG gs m (x ++ [s]) ∧ Brn gs m t [] y)
theorem Brn.app {gs : List (List Nat)} {m : Nat} : ∀ (t u x y : List Nat), Brn gs m (t ++ u) x y ↔ ∃ z, Brn gs m t x z ∧ Brn gs m u z y
  | [], u, x, y => ⟨fun h => ⟨x, rfl, h⟩, fun ⟨z, h1, h2⟩ => by
    have h1 : x = z := h1
    rw [h1]
    exact h2⟩
  | s :: t, u, x, y => by
    constructor
    · rintro (⟨h1, h2⟩ | ⟨h1, h2⟩)
      · obtain ⟨z, z1, z2⟩ := (Brn.app t u _ y).mp h2
        exact ⟨z, Or.inl ⟨h1, z1⟩, z2⟩
      · obtain ⟨z, z1, z2⟩ := (Brn.app t u _ y).mp h2
        exact ⟨z, Or.inr ⟨h1, z1⟩, z2⟩
    · rintro ⟨z, (⟨h1, h2⟩ | ⟨h1, h2⟩), z2⟩
      · exact Or.inl ⟨h1, (Brn.app t u _ y).mpr ⟨z, h2, z2⟩⟩
      · exact Or.inr ⟨h1, (Brn.app t u _ y).mpr ⟨z, h2, z2⟩⟩
theorem isI_cut {gs : List (List Nat)} {m : Nat} {x z : List Nat} (h : isI gs m (x ++ z)) : isI gs m x := by
  obtain ⟨l, hl, j, hj, e⟩ := h
  refine ⟨l, hl, x.length, ?_, ?_⟩
  · have := congrArg List.length e
    rw [List.length_append, List.length_take] at this
    omega
  · have e2 : (x ++ z).take x.length = (l.take j).take x.length := by rw [e]
    rw [List.take_left, List.take_take] at e2
    have := congrArg List.length e
    rw [List.length_append, List.length_take] at this
    rw [Nat.min_eq_left (by omega)] at e2
    exact e2
theorem Brn.into {gs : List (List Nat)} {m : Nat} : ∀ (t x : List Nat), isI gs m (x ++ t) → Brn gs m t x (x ++ t)
  | [], x, _ => (List.append_nil x).symm
  | s :: t, x, h => by
    have e : x ++ s :: t = (x ++ [s]) ++ t := by rw [List.append_assoc]; rfl
    rw [e] at h ⊢
    exact Or.inl ⟨isI_cut h, Brn.into t _ h⟩
theorem Brn.whole {gs : List (List Nat)} {m : Nat} : ∀ (t x : List Nat), t ≠ [] → isG gs m (x ++ t) → Brn gs m t x []
  | [], x, h, _ => absurd rfl h
  | [s], x, _, h => Or.inr ⟨h, rfl⟩
  | s :: s' :: t, x, _, h => by
    have e : x ++ s :: s' :: t = (x ++ [s]) ++ (s' :: t) := by rw [List.append_assoc]; rfl
    rw [e] at h
    have ne : s' :: t ≠ [] := fun z => by cases z
    exact Or.inl ⟨isI_of h ne, Brn.whole (s' :: t) _ ne h⟩
theorem Brn.last {gs : List (List Nat)} {m : Nat} : ∀ (t x y : List Nat), Brn gs m t x y → y = x ++ t ∨ ∃ t', t = t' ++ y ∧ Brn gs m t' x []
  | [], x, y, h => Or.inl (by
    have h : x = y := h
    rw [List.append_nil, h])
  | s :: t, x, y, h => by
    rcases h with ⟨h1, h2⟩ | ⟨h1, h2⟩
    · rcases Brn.last t _ y h2 with e | ⟨t', e, h3⟩
      · exact Or.inl (by rw [e, List.append_assoc]; rfl)
      · exact Or.inr ⟨s :: t', by rw [e]; rfl, Or.inl ⟨h1, h3⟩⟩
    · rcases Brn.last t _ y h2 with e | ⟨t', e, h3⟩
      · exact Or.inr ⟨[s], by rw [e]; rfl, Or.inr ⟨h1, rfl⟩⟩
      · exact Or.inr ⟨s :: t', by rw [e]; rfl, Or.inr ⟨h1, h3⟩⟩
/-- a row that ends where groups do -/
def iE (gs : List (List Nat)) (m : Nat) (t : List Nat) : Prop := ∃ x, (x = [] ∨ isI gs m x) ∧ Brn gs m t x []
/-- a row that ends within a group -/
def iW (gs : List (List Nat)) (m : Nat) (t : List Nat) : Prop := ∃ x y, (x = [] ∨ isI gs m x) ∧ y ≠ [] ∧ isI gs m y ∧ Brn gs m t x y
/-- one row ends as the other one does, or the other way round -/
def mEn (a t : List Nat) : Prop := (t.length ≤ a.length ∧ ∃ x, a = x ++ t) ∨ (a.length ≤ t.length ∧ ∃ t', t = t' ++ a)
theorem iE_nil {gs : List (List Nat)} {m : Nat} : iE gs m [] := ⟨[], Or.inl rfl, rfl⟩
theorem iE_rec {gs : List (List Nat)} {m : Nat} {t : List Nat} (ho : okg gs m) (ht : t ≠ []) : iE gs m t ↔ ∃ g, isG gs m g ∧ ((t.length ≤ g.length ∧ ∃ x, g = x ++ t) ∨ (g.length ≤ t.length ∧ ∃ t', t = t' ++ g ∧ iE gs m t')) := by
  constructor
  · rintro ⟨x, hx, h⟩
    rcases List.eq_nil_or_concat t with z | ⟨u, s, e⟩
    · exact absurd z ht
    · rw [List.concat_eq_append] at e
      subst e
      obtain ⟨z, h1, h2⟩ := (Brn.app u [s] x []).mp h
      have h3 : isG gs m (z ++ [s]) := by
        rcases h2 with ⟨_, q⟩ | ⟨q, _⟩
        · have q : z ++ [s] = [] := q
          exact absurd q (by simp)
        · exact q
      refine ⟨z ++ [s], h3, ?_⟩
      rcases Brn.last u x z h1 with e | ⟨t', e, h4⟩
      · refine Or.inl ⟨by rw [e, List.length_append, List.length_append, List.length_append]; omega, x, by rw [e, List.append_assoc]⟩
      · refine Or.inr ⟨by rw [e, List.length_append, List.length_append, List.length_append]; omega, t', by rw [e, List.append_assoc], x, hx, h4⟩
  · rintro ⟨g, hg, (⟨_, x, e⟩ | ⟨_, t', e, x, hx, h⟩)⟩
    · rw [e] at hg
      exact ⟨x, Or.inr (isI_of hg ht), Brn.whole t x ht hg⟩
    · rw [e]
      exact ⟨x, hx, (Brn.app t' g x []).mpr ⟨[], h, Brn.whole g [] (hg.ne ho) (by rw [List.nil_append]; exact hg)⟩⟩
theorem iW_rec {gs : List (List Nat)} {m : Nat} {t : List Nat} : iW gs m t ↔ ∃ y, y ≠ [] ∧ isI gs m y ∧ ((t.length ≤ y.length ∧ ∃ x, y = x ++ t) ∨ (y.length ≤ t.length ∧ ∃ t', t = t' ++ y ∧ iE gs m t')) := by
  constructor
  · rintro ⟨x, y, hx, hy, hi, h⟩
    refine ⟨y, hy, hi, ?_⟩
    rcases Brn.last t x y h with e | ⟨t', e, h4⟩
    · exact Or.inl ⟨by rw [e, List.length_append]; omega, x, e⟩
    · exact Or.inr ⟨by rw [e, List.length_append]; omega, t', e, x, hx, h4⟩
  · rintro ⟨y, hy, hi, (⟨_, x, e⟩ | ⟨_, t', e, x, hx, h⟩)⟩
    · rw [e] at hi
      exact ⟨x, y, Or.inr (isI_cut hi), hy, by rw [e]; exact hi, by rw [e]; exact Brn.into t x hi⟩
    · rw [e]
      refine ⟨x, y, hx, hy, hi, (Brn.app t' y x y).mpr ⟨[], h, ?_⟩⟩
      have := Brn.into (gs := gs) (m := m) y [] (by rw [List.nil_append]; exact hi)
      rw [List.nil_append] at this
      exact this
/-- those of a row of rows that have a property -/
noncomputable def fltP (p : List Nat → Prop) (L : List (List Nat)) : List (List Nat) := L.filter (fun r => @decide (p r) (Classical.propDecidable _))
theorem fltP_mem {p : List Nat → Prop} {L : List (List Nat)} {r : List Nat} : r ∈ fltP p L ↔ r ∈ L ∧ p r := by
  unfold fltP
  rw [List.mem_filter]
  exact ⟨fun z => ⟨z.1, @of_decide_eq_true _ (Classical.propDecidable _) z.2⟩, fun z => ⟨z.1, @decide_eq_true _ (Classical.propDecidable _) z.2⟩⟩
theorem fltP_t {p : List Nat → Prop} {L : List (List Nat)} {r : List Nat} (h : p r) : fltP p (r :: L) = r :: fltP p L := List.filter_cons_of_pos (@decide_eq_true _ (Classical.propDecidable _) h)
theorem fltP_f {p : List Nat → Prop} {L : List (List Nat)} {r : List Nat} (h : ¬ p r) : fltP p (r :: L) = fltP p L := List.filter_cons_of_neg (fun z => h (@of_decide_eq_true _ (Classical.propDecidable _) z))
theorem fltP_app {p : List Nat → Prop} {L M : List (List Nat)} : fltP p (L ++ M) = fltP p L ++ fltP p M := List.filter_append ..
theorem fltP_len {p : List Nat → Prop} {L : List (List Nat)} : (fltP p L).length ≤ L.length := List.length_filter_le ..
/-- a letter before each of the rows -/
def cndL (L : List (List Nat)) (c : Nat) : List (List Nat) := L.map (fun r => (c + 1) :: r)
def cndR (L : List (List Nat)) (c e : Nat) : List (List Nat) := (List.range' c e).flatMap (cndL L)
theorem cndR_s {L : List (List Nat)} {c e : Nat} : cndR L c (e + 1) = cndL L c ++ cndR L (c + 1) e := by
  unfold cndR
  rw [List.range'_succ, List.flatMap_cons]
theorem cndR_mem {L : List (List Nat)} {c e : Nat} {r : List Nat} : r ∈ cndR L c e ↔ ∃ s t, r = s :: t ∧ c < s ∧ s ≤ c + e ∧ t ∈ L := by
  unfold cndR cndL
  rw [List.mem_flatMap]
  constructor
  · rintro ⟨a, ha, hr⟩
    obtain ⟨t, ht, e⟩ := List.mem_map.mp hr
    have := List.mem_range'_1.mp ha
    exact ⟨a + 1, t, e.symm, by omega, by omega, ht⟩
  · rintro ⟨s, t, e, h1, h2, ht⟩
    refine ⟨s - 1, List.mem_range'_1.mpr ⟨by omega, by omega⟩, List.mem_map.mpr ⟨t, ht, ?_⟩⟩
    rw [e, Nat.sub_add_cancel (by omega)]
theorem cndR_len {L : List (List Nat)} : ∀ (e c : Nat), (cndR L c e).length = e * L.length
  | 0, c => by rw [Nat.zero_mul]; rfl
  | e + 1, c => by
    rw [cndR_s, List.length_append, cndR_len e (c + 1), Nat.succ_mul, Nat.add_comm]
    congr 1
    exact List.length_map ..
/-- the open rows of n letters: they end where groups do, and within -/
noncomputable def opn (gs : List (List Nat)) (m : Nat) : Nat → List (List Nat)
  | 0 => [[]]
  | n + 1 => fltP (fun r => iE gs m r ∧ iW gs m r) (cndR (opn gs m n) 0 27)
/-- the least borders of n letters -/
noncomputable def bor (gs : List (List Nat)) (m n : Nat) : List (List Nat) := fltP (fun r => iE gs m r ∧ ¬ iW gs m r) (cndR (opn gs m (n - 1)) 0 27)
theorem opn_row {gs : List (List Nat)} {m : Nat} : ∀ n r, r ∈ opn gs m n → r.length = n ∧ ∀ x ∈ r, 0 < x ∧ x < 28
  | 0, r, h => by
    rw [List.mem_singleton.mp h]
    exact ⟨rfl, fun x hx => by cases hx⟩
  | n + 1, r, h => by
    obtain ⟨s, t, e, h1, h2, ht⟩ := cndR_mem.mp (fltP_mem.mp h).1
    obtain ⟨i1, i2⟩ := opn_row n t ht
    rw [e]
    refine ⟨by rw [List.length_cons, i1], fun x hx => ?_⟩
    rcases List.mem_cons.mp hx with z | z
    · omega
    · exact i2 x z
theorem bor_row {gs : List (List Nat)} {m n : Nat} {r : List Nat} (hn : 0 < n) (h : r ∈ bor gs m n) : r.length = n ∧ ∀ x ∈ r, 0 < x ∧ x < 28 := by
  obtain ⟨s, t, e, h1, h2, ht⟩ := cndR_mem.mp (fltP_mem.mp h).1
  obtain ⟨i1, i2⟩ := opn_row (n - 1) t ht
  rw [e]
  refine ⟨by rw [List.length_cons, i1]; omega, fun x hx => ?_⟩
  rcases List.mem_cons.mp hx with z | z
  · omega
  · exact i2 x z
