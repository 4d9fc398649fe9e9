/-! tails, round by round, as sets of rows; what the class's rows of tails hold of them -/
def rowsT (ts : TL) : List (List Nat) := ts.map Prod.fst
def isG (gs : List (List Nat)) (m : Nat) (r : List Nat) : Prop := ∃ k, gs[k]? = some r ∧ inm m k
def fsR (gs : List (List Nat)) (m : Nat) (r : List Nat) : Prop := r ≠ [] ∧ ∃ a b la, ¬ a = b ∧ gs[a]? = some la ∧ gs[b]? = some (la ++ r) ∧ inm m a ∧ inm m b
def nxR (gs : List (List Nat)) (m : Nat) (t r : List Nat) : Prop := r ≠ [] ∧ ∃ l, isG gs m l ∧ (l = t ++ r ∨ t = l ++ r)
/-- behind so many rounds: the tails of those ahead, and those of the next one -/
def RSd (gs : List (List Nat)) (m : Nat) : Nat → (List Nat → Prop) × (List Nat → Prop)
  | 0 => (fun _ => False, fsR gs m)
  | n + 1 => (fun r => (RSd gs m n).1 r ∨ (RSd gs m n).2 r, fun r => (∃ t, (RSd gs m n).2 t ∧ nxR gs m t r) ∧ ¬ (RSd gs m n).1 r ∧ ¬ (RSd gs m n).2 r)
def isE (gs : List (List Nat)) (m : Nat) (r : List Nat) : Prop := r ≠ [] ∧ ∃ k l i, gs[k]? = some l ∧ inm m k ∧ 0 < i ∧ r = l.drop i
theorem gD {gs : List (List Nat)} {k : Nat} {l : List Nat} (h : gs[k]? = some l) : gs.getD k [] = l := by
  rw [List.getD_eq_getElem?_getD, h]
  rfl
theorem gS {gs : List (List Nat)} {k : Nat} (h : k < gs.length) : gs[k]? = some (gs.getD k []) := by
  rw [List.getElem?_eq_getElem h, List.getD_eq_getElem?_getD, List.getElem?_eq_getElem h]
  rfl
theorem gL {gs : List (List Nat)} {k : Nat} {l : List Nat} (h : gs[k]? = some l) : k < gs.length := (List.getElem?_eq_some_iff.mp h).1
theorem isG_iff {gs : List (List Nat)} {m : Nat} {r : List Nat} : isG gs m r ↔ ∃ k, k < gs.length ∧ inm m k ∧ gs.getD k [] = r :=
  ⟨fun ⟨k, a, b⟩ => ⟨k, gL a, b, gD a⟩, fun ⟨k, a, b, c⟩ => ⟨k, by rw [gS a, c], b⟩⟩
theorem fsR_E {gs : List (List Nat)} {m : Nat} {r : List Nat} (ho : okg gs m) (h : fsR gs m r) : isE gs m r := by
  obtain ⟨h0, a, b, la, _, ha, hb, _, mb⟩ := h
  exact ⟨h0, b, _, la.length, hb, mb, (ho.at ha).2.1, by rw [List.drop_left]⟩
theorem nxR_E {gs : List (List Nat)} {m : Nat} {t r : List Nat} (ht : isE gs m t) (h : nxR gs m t r) : isE gs m r := by
  obtain ⟨h0, l, ⟨k, hk, mk⟩, h1 | h1⟩ := h
  · exact ⟨h0, k, l, t.length, hk, mk, List.length_pos_iff.mpr ht.1, by rw [h1, List.drop_left]⟩
  · obtain ⟨_, k', l', i, a, b, c, e⟩ := ht
    refine ⟨h0, k', l', i + l.length, a, b, by omega, ?_⟩
    rw [← List.drop_drop, ← e, h1, List.drop_left]
theorem RSd_E {gs : List (List Nat)} {m : Nat} (ho : okg gs m) : ∀ n r, ((RSd gs m n).1 r ∨ (RSd gs m n).2 r) → isE gs m r
  | 0, r, h => h.elim (fun z => absurd z (fun y => y)) (fun z => fsR_E ho z)
  | n + 1, r, h => by
    rcases h with h | ⟨⟨t, h1, h2⟩, _⟩
    · exact RSd_E ho n r h
    · exact nxR_E (RSd_E ho n t (Or.inr h1)) h2
theorem RSd_none {gs : List (List Nat)} {m n : Nat} (h : ∀ x, ¬ (RSd gs m n).2 x) : ∀ j x, ¬ (RSd gs m (n + j)).2 x
  | 0, x => h x
  | j + 1, x => fun ⟨⟨t, h1, _⟩, _⟩ => RSd_none h j t h1
theorem RSd_1 {gs : List (List Nat)} {m : Nat} {x : List Nat} : ∀ n, (RSd gs m n).1 x ↔ ∃ j, j < n ∧ (RSd gs m j).2 x
  | 0 => ⟨fun z => absurd z (fun y => y), fun ⟨j, h, _⟩ => absurd h (by omega)⟩
  | n + 1 => by
    show ((RSd gs m n).1 x ∨ (RSd gs m n).2 x) ↔ _
    rw [RSd_1 n]
    refine ⟨fun h => h.elim (fun ⟨j, a, b⟩ => ⟨j, by omega, b⟩) (fun b => ⟨n, by omega, b⟩), fun ⟨j, a, b⟩ => ?_⟩
    by_cases z : j = n
    · subst z
      exact Or.inr b
    · exact Or.inl ⟨j, by omega, b⟩
theorem RSd_dis {gs : List (List Nat)} {m : Nat} {x : List Nat} {i j : Nat} (hi : (RSd gs m i).2 x) (hj : (RSd gs m j).2 x) : i = j := by
  have lt : ∀ {a b : Nat}, a < b → (RSd gs m a).2 x → (RSd gs m b).2 x → False := fun {a b} hab ha hb => by
    cases b with
    | zero => omega
    | succ b =>
      obtain ⟨_, h1, h2⟩ := hb
      by_cases z : a = b
      · subst z
        exact h2 ha
      · exact h1 ((RSd_1 b).mpr ⟨a, by omega, ha⟩)
  rcases (show i < j ∨ i = j ∨ j < i by omega) with z | z | z
  · exact absurd (lt z hi hj) (fun y => y)
  · exact z
  · exact absurd (lt z hj hi) (fun y => y)
/-- ends are 84 at most -/
theorem leI_len {gs : List (List Nat)} {g : Nat} : ∀ (e i : Nat) (E : List (Nat × Nat)), (leI gs g e i E).length ≤ E.length + e
  | 0, _, _ => Nat.le_refl _
  | e + 1, i, E => by
    have h1 := leI_len (gs := gs) (g := g) e (i + 1) (insE gs E (g, i))
    have h2 := insE_len (gs := gs) (e := (g, i)) E
    show (leI gs g e (i + 1) (insE gs E (g, i))).length ≤ _
    omega
theorem leG_len {gs : List (List Nat)} {m : Nat} (ho : okg gs m) : ∀ (e g : Nat) (E : List (Nat × Nat)), (leG gs m e g E).length ≤ E.length + 6 * e
  | 0, _, _ => by
    show _ ≤ _ + 0
    exact Nat.le_refl _
  | e + 1, g, E => by
    show (leG gs m e (g + 1) (if inm m g then _ else E)).length ≤ _
    have h1 := leG_len ho e (g + 1)
    by_cases z : inm m g
    · rw [if_pos z]
      have h2 := h1 (leI gs g ((gs.getD g []).length - 1) 1 E)
      have h3 := leI_len (gs := gs) (g := g) ((gs.getD g []).length - 1) 1 E
      have h4 : (gs.getD g []).length ≤ 7 := by
        by_cases y : g < gs.length
        · exact ((ho.at (gS y)).1).2
        · rw [List.getD_eq_getElem?_getD, List.getElem?_eq_none (by omega)]
          show (0 : Nat) ≤ 7
          omega
      omega
    · rw [if_neg z]
      have := h1 E
      omega
def ENs (gs : List (List Nat)) (m : Nat) : List (Nat × Nat) := leG gs m gs.length 0 []
theorem ENs_len {gs : List (List Nat)} {m : Nat} (ho : okg gs m) : (ENs gs m).length ≤ 84 := by
  have h1 := leG_len ho gs.length 0 []
  have h2 := ho.1
  have h3 : ([] : List (Nat × Nat)).length = 0 := rfl
  unfold ENs
  omega
theorem ENs_has {gs : List (List Nat)} {m : Nat} {r : List Nat} (h : isE gs m r) : HasR gs (ENs gs m) r := by
  obtain ⟨h0, k, l, i, a, b, c, e⟩ := h
  have hl : i < l.length := by
    rw [e] at h0
    by_cases z : i < l.length
    · exact z
    · exact absurd (List.drop_eq_nil_of_le (by omega)) h0
  obtain ⟨f, f1, f2⟩ := leG_has (gs := gs) (m := m) gs.length 0 [] k i (by omega) (by have := gL a; omega) b c (by rw [gD a]; exact hl)
  refine ⟨f, f1, f2.trans ?_⟩
  rw [e]
  show (gs.getD k []).drop i = _
  rw [gD a]
theorem isE_len {gs : List (List Nat)} {m : Nat} (ho : okg gs m) {L : List (List Nat)} (hn : L.Nodup) (he : ∀ r ∈ L, isE gs m r) : L.length ≤ 84 := by
  have h1 : L ⊆ (ENs gs m).map (rwE gs) := fun r hr => by
    obtain ⟨f, f1, f2⟩ := ENs_has (he r hr)
    exact List.mem_map.mpr ⟨f, f1, f2⟩
  have h2 := hn.length_le_of_subset h1
  rw [List.length_map] at h2
  exact Nat.le_trans h2 (ENs_len ho)
def OkS (gs : List (List Nat)) (m : Nat) (ts : TL) : Prop := (rowsT ts).Nodup ∧ ∀ r ∈ rowsT ts, isE gs m r
theorem OkS.len {gs : List (List Nat)} {m : Nat} {ts : TL} (h : OkS gs m ts) (ho : okg gs m) : ts.length ≤ 84 := by
  have := isE_len ho h.1 h.2
  unfold rowsT at this
  rw [List.length_map] at this
  exact this
theorem tadd_rows {ts : TL} {r : List Nat} {mk : Nat} (h98 : ts.length ≤ 84) (x : List Nat) : x ∈ rowsT (tadd ts r mk) ↔ x ∈ rowsT ts ∨ (x = r ∧ x ≠ []) := by
  unfold tadd
  by_cases z : r = [] ∨ 98 ≤ ts.length ∨ r ∈ ts.map Prod.fst
  · rw [if_pos z]
    refine ⟨Or.inl, fun h => h.elim id (fun ⟨e, n⟩ => ?_)⟩
    rcases z with z | z | z
    · exact absurd (e.trans z) n
    · omega
    · rw [e]
      exact z
  · rw [if_neg z]
    unfold rowsT
    rw [List.map_append, List.mem_append]
    show _ ∨ x ∈ [r] ↔ _
    rw [List.mem_singleton]
    exact ⟨fun h => h.elim Or.inl (fun e => Or.inr ⟨e, fun y => z (Or.inl (e.symm.trans y))⟩), fun h => h.elim Or.inl (fun e => Or.inr e.1)⟩
theorem tadd_S {gs : List (List Nat)} {m : Nat} {ts : TL} {r : List Nat} {mk : Nat} (h : OkS gs m ts) (hr : r ≠ [] → isE gs m r) : OkS gs m (tadd ts r mk) := by
  unfold tadd
  by_cases z : r = [] ∨ 98 ≤ ts.length ∨ r ∈ ts.map Prod.fst
  · rw [if_pos z]
    exact h
  · rw [if_neg z]
    have e : rowsT (ts ++ [(r, mk)]) = rowsT ts ++ [r] := by
      unfold rowsT
      rw [List.map_append]
      rfl
    unfold OkS
    rw [e]
    refine ⟨List.nodup_append.mpr ⟨h.1, List.nodup_cons.mpr ⟨List.not_mem_nil, List.nodup_nil⟩, fun a ha b hb y => ?_⟩, fun x hx => ?_⟩
    · rw [List.mem_singleton] at hb
      rw [y, hb] at ha
      exact z (Or.inr (Or.inr ha))
    · rcases List.mem_append.mp hx with w | w
      · exact h.2 x w
      · rw [List.mem_singleton.mp w]
        exact hr (fun y => z (Or.inl y))
theorem tak_app {l t : List Nat} (h : t = l.take t.length) : l = t ++ l.drop t.length := by
  have := (List.take_append_drop t.length l).symm
  rw [← h] at this
  exact this
theorem fsC_R {gs : List (List Nat)} {m a b : Nat} {x : List Nat} : (fsC gs m a b ∧ x = (gs.getD b []).drop (gs.getD a []).length) ↔ (¬ a = b ∧ inm m a ∧ inm m b ∧ gs.getD b [] = gs.getD a [] ++ x) := by
  constructor
  · rintro ⟨⟨h1, h2, h3, h4⟩, h5⟩
    exact ⟨h1, h2, h3, by rw [h5]; exact tak_app h4⟩
  · rintro ⟨h1, h2, h3, h4⟩
    refine ⟨⟨h1, h2, h3, ?_⟩, ?_⟩
    · rw [h4, List.take_left]
    · rw [h4, List.drop_left]
theorem fsB_S {gs : List (List Nat)} {m a : Nat} (ho : okg gs m) (ha : a < gs.length) : ∀ (e b : Nat) (ts : TL), b + e ≤ gs.length → OkS gs m ts → OkS gs m (fsB gs m a e b ts) ∧ ∀ x, x ∈ rowsT (fsB gs m a e b ts) ↔ x ∈ rowsT ts ∨ (x ≠ [] ∧ ∃ b', b ≤ b' ∧ b' < b + e ∧ ¬ a = b' ∧ inm m a ∧ inm m b' ∧ gs.getD b' [] = gs.getD a [] ++ x)
  | 0, b, ts, _, h => ⟨h, fun x => ⟨Or.inl, fun z => z.elim id (fun ⟨_, b', h1, h2, _⟩ => by omega)⟩⟩
  | e + 1, b, ts, hb, h => by
    have st : OkS gs m (if fsC gs m a b then tadd ts ((gs.getD b []).drop (gs.getD a []).length) (2 ^ a ||| 2 ^ b) else ts) ∧ ∀ x, x ∈ rowsT (if fsC gs m a b then tadd ts ((gs.getD b []).drop (gs.getD a []).length) (2 ^ a ||| 2 ^ b) else ts) ↔ x ∈ rowsT ts ∨ (x ≠ [] ∧ ¬ a = b ∧ inm m a ∧ inm m b ∧ gs.getD b [] = gs.getD a [] ++ x) := by
      by_cases z : fsC gs m a b
      · rw [if_pos z]
        have i2 := z.2.2.1
        refine ⟨tadd_S h (fun y => ⟨y, b, _, _, gS (by omega), i2, (ho.at (gS ha)).2.1, rfl⟩), fun x => (tadd_rows (h.len ho) x).trans ⟨fun y => y.imp id (fun ⟨y1, y2⟩ => ⟨y2, fsC_R.mp ⟨z, y1⟩⟩), fun y => y.imp id (fun ⟨y1, y2⟩ => ⟨(fsC_R.mpr y2).2, y1⟩)⟩⟩
      · rw [if_neg z]
        exact ⟨h, fun x => ⟨Or.inl, fun y => y.elim id (fun ⟨_, y2⟩ => absurd (fsC_R.mpr y2).1 z)⟩⟩
    obtain ⟨s1, s2⟩ := st
    obtain ⟨r1, r2⟩ := fsB_S ho ha e (b + 1) _ (by omega) s1
    refine ⟨r1, fun x => (r2 x).trans ?_⟩
    rw [s2 x]
    constructor
    · rintro ((y | ⟨y0, y⟩) | ⟨y0, b', y1, y2, y⟩)
      · exact Or.inl y
      · exact Or.inr ⟨y0, b, by omega, by omega, y⟩
      · exact Or.inr ⟨y0, b', by omega, by omega, y⟩
    · rintro (y | ⟨y0, b', y1, y2, y⟩)
      · exact Or.inl (Or.inl y)
      · by_cases w : b' = b
        · subst w
          exact Or.inl (Or.inr ⟨y0, y⟩)
        · exact Or.inr ⟨y0, b', by omega, by omega, y⟩
theorem fsA_S {gs : List (List Nat)} {m : Nat} (ho : okg gs m) : ∀ (e a : Nat) (ts : TL), a + e ≤ gs.length → OkS gs m ts → OkS gs m (fsA gs m e a ts) ∧ ∀ x, x ∈ rowsT (fsA gs m e a ts) ↔ x ∈ rowsT ts ∨ (x ≠ [] ∧ ∃ a' b', a ≤ a' ∧ a' < a + e ∧ b' < gs.length ∧ ¬ a' = b' ∧ inm m a' ∧ inm m b' ∧ gs.getD b' [] = gs.getD a' [] ++ x)
  | 0, a, ts, _, h => ⟨h, fun x => ⟨Or.inl, fun z => z.elim id (fun ⟨_, a', b', h1, h2, _⟩ => by omega)⟩⟩
  | e + 1, a, ts, ha, h => by
    obtain ⟨s1, s2⟩ := fsB_S ho (a := a) (by omega) gs.length 0 ts (by omega) h
    obtain ⟨r1, r2⟩ := fsA_S ho e (a + 1) _ (by omega) s1
    refine ⟨r1, fun x => (r2 x).trans ?_⟩
    rw [s2 x]
    constructor
    · rintro ((y | ⟨y0, b', y1, y2, y⟩) | ⟨y0, a', b', y1, y2, y⟩)
      · exact Or.inl y
      · exact Or.inr ⟨y0, a, b', by omega, by omega, by omega, y⟩
      · exact Or.inr ⟨y0, a', b', by omega, by omega, y⟩
    · rintro (y | ⟨y0, a', b', y1, y2, y3, y⟩)
      · exact Or.inl (Or.inl y)
      · by_cases w : a' = a
        · subst w
          exact Or.inl (Or.inr ⟨y0, b', by omega, by omega, y⟩)
        · exact Or.inr ⟨y0, a', b', by omega, by omega, y3, y⟩
theorem first_S {gs : List (List Nat)} {m : Nat} (ho : okg gs m) : OkS gs m (fsA gs m gs.length 0 []) ∧ ∀ x, x ∈ rowsT (fsA gs m gs.length 0 []) ↔ (RSd gs m 0).2 x := by
  obtain ⟨h1, h2⟩ := fsA_S ho gs.length 0 [] (by omega) ⟨List.nodup_nil, fun r hr => by cases hr⟩
  refine ⟨h1, fun x => (h2 x).trans ⟨?_, ?_⟩⟩
  · rintro (z | ⟨z0, a, b, z1, z2, z3, z4, z5, z6, z7⟩)
    · cases z
    · exact ⟨z0, a, b, _, z4, gS (by omega), by rw [gS z3, z7], z5, z6⟩
  · rintro ⟨z0, a, b, la, z1, z2, z3, z4, z5⟩
    exact Or.inr ⟨z0, a, b, by omega, by have := gL z2; omega, gL z3, z1, z4, z5, by rw [gD z2, gD z3]⟩
theorem nxG_S {gs : List (List Nat)} {m k : Nat} {t : List Nat × Nat} {ts : TL} (ho : okg gs m) (hk : k < gs.length) (ht : isE gs m t.1) (h : OkS gs m ts) : OkS gs m (nxG gs m t k ts) ∧ ∀ x, x ∈ rowsT (nxG gs m t k ts) ↔ x ∈ rowsT ts ∨ (x ≠ [] ∧ inm m k ∧ (gs.getD k [] = t.1 ++ x ∨ t.1 = gs.getD k [] ++ x)) := by
  unfold nxG
  by_cases z : inm m k
  · rw [if_pos z]
    have gk : isG gs m (gs.getD k []) := ⟨k, gS hk, z⟩
    by_cases y : t.1 = (gs.getD k []).take t.1.length
    · rw [if_pos y]
      have e1 := tak_app y
      have ln := congrArg List.length e1
      rw [List.length_append] at ln
      refine ⟨tadd_S h (fun w => nxR_E ht ⟨w, _, gk, Or.inl e1⟩), fun x => (tadd_rows (h.len ho) x).trans ⟨fun w => w.imp id (fun ⟨w1, w2⟩ => ⟨w2, z, Or.inl (by rw [w1]; exact e1)⟩), fun w => w.imp id (fun ⟨w1, _, w2⟩ => ⟨?_, w1⟩)⟩⟩
      rcases w2 with w2 | w2
      · rw [w2, List.drop_left]
      · have := congrArg List.length w2
        rw [List.length_append] at this
        have := List.length_pos_iff.mpr w1
        omega
    · rw [if_neg y]
      by_cases v : gs.getD k [] = t.1.take (gs.getD k []).length
      · rw [if_pos v]
        have e1 := tak_app v
        refine ⟨tadd_S h (fun w => nxR_E ht ⟨w, _, gk, Or.inr e1⟩), fun x => (tadd_rows (h.len ho) x).trans ⟨fun w => w.imp id (fun ⟨w1, w2⟩ => ⟨w2, z, Or.inr (by rw [w1]; exact e1)⟩), fun w => w.imp id (fun ⟨w1, _, w2⟩ => ⟨?_, w1⟩)⟩⟩
        rcases w2 with w2 | w2
        · exact absurd (by rw [w2, List.take_left]) y
        · rw [w2, List.drop_left]
      · rw [if_neg v]
        refine ⟨h, fun x => ⟨Or.inl, fun w => w.elim id (fun ⟨w1, _, w2⟩ => ?_)⟩⟩
        rcases w2 with w2 | w2
        · exact absurd (by rw [w2, List.take_left]) y
        · exact absurd (by rw [w2, List.take_left]) v
  · rw [if_neg z]
    exact ⟨h, fun x => ⟨Or.inl, fun w => w.elim id (fun w => absurd w.2.1 z)⟩⟩
theorem nxK_S {gs : List (List Nat)} {m : Nat} {t : List Nat × Nat} (ho : okg gs m) (ht : isE gs m t.1) : ∀ (e k : Nat) (ts : TL), k + e ≤ gs.length → OkS gs m ts → OkS gs m (nxK gs m t e k ts) ∧ ∀ x, x ∈ rowsT (nxK gs m t e k ts) ↔ x ∈ rowsT ts ∨ (x ≠ [] ∧ ∃ k', k ≤ k' ∧ k' < k + e ∧ inm m k' ∧ (gs.getD k' [] = t.1 ++ x ∨ t.1 = gs.getD k' [] ++ x))
  | 0, k, ts, _, h => ⟨h, fun x => ⟨Or.inl, fun z => z.elim id (fun ⟨_, b', h1, h2, _⟩ => by omega)⟩⟩
  | e + 1, k, ts, hk, h => by
    obtain ⟨s1, s2⟩ := nxG_S ho (k := k) (by omega) ht h
    obtain ⟨r1, r2⟩ := nxK_S ho ht e (k + 1) _ (by omega) s1
    refine ⟨r1, fun x => (r2 x).trans ?_⟩
    rw [s2 x]
    constructor
    · rintro ((y | ⟨y0, y⟩) | ⟨y0, b', y1, y2, y⟩)
      · exact Or.inl y
      · exact Or.inr ⟨y0, k, by omega, by omega, y⟩
      · exact Or.inr ⟨y0, b', by omega, by omega, y⟩
    · rintro (y | ⟨y0, b', y1, y2, y⟩)
      · exact Or.inl (Or.inl y)
      · by_cases w : b' = k
        · subst w
          exact Or.inl (Or.inr ⟨y0, y⟩)
        · exact Or.inr ⟨y0, b', by omega, by omega, y⟩
theorem nxT_S {gs : List (List Nat)} {m : Nat} (ho : okg gs m) : ∀ (e i : Nat) (ts : TL), i + e ≤ ts.length → OkS gs m ts → OkS gs m (nxT gs m e i ts) ∧ ∀ x, x ∈ rowsT (nxT gs m e i ts) ↔ x ∈ rowsT ts ∨ ∃ j t, i ≤ j ∧ j < i + e ∧ ts[j]? = some t ∧ nxR gs m t.1 x
  | 0, i, ts, _, h => ⟨h, fun x => ⟨Or.inl, fun z => z.elim id (fun ⟨j, _, h1, h2, _⟩ => by omega)⟩⟩
  | e + 1, i, ts, hi, h => by
    have gi : ts[i]? = some (ts.getD i ([], 0)) := by
      rw [List.getElem?_eq_getElem (by omega), List.getD_eq_getElem?_getD, List.getElem?_eq_getElem (by omega)]
      rfl
    have ht : isE gs m (ts.getD i ([], 0)).1 := h.2 _ (List.mem_map.mpr ⟨_, List.mem_of_getElem? gi, rfl⟩)
    obtain ⟨s1, s2⟩ := nxK_S ho ht gs.length 0 ts (by omega) h
    obtain ⟨N, hN⟩ := nxK_pre gs m (ts.getD i ([], 0)) gs.length 0 ts
    have old : ∀ j, j < ts.length → (nxK gs m (ts.getD i ([], 0)) gs.length 0 ts)[j]? = ts[j]? := fun j hj => by rw [hN, List.getElem?_append_left hj]
    obtain ⟨r1, r2⟩ := nxT_S ho e (i + 1) _ (by rw [hN, List.length_append]; omega) s1
    refine ⟨r1, fun x => (r2 x).trans ?_⟩
    rw [s2 x]
    have eq : (x ≠ [] ∧ ∃ k', 0 ≤ k' ∧ k' < 0 + gs.length ∧ inm m k' ∧ (gs.getD k' [] = (ts.getD i ([], 0)).1 ++ x ∨ (ts.getD i ([], 0)).1 = gs.getD k' [] ++ x)) ↔ nxR gs m (ts.getD i ([], 0)).1 x := by
      constructor
      · rintro ⟨y0, k', _, y1, y2, y3⟩
        exact ⟨y0, _, ⟨k', gS (by omega), y2⟩, y3⟩
      · rintro ⟨y0, l, ⟨k', y1, y2⟩, y3⟩
        exact ⟨y0, k', by omega, by have := gL y1; omega, y2, by rw [gD y1]; exact y3⟩
    rw [eq]
    constructor
    · rintro ((y | y) | ⟨j, t, y1, y2, y3, y4⟩)
      · exact Or.inl y
      · exact Or.inr ⟨i, _, by omega, by omega, gi, y⟩
      · exact Or.inr ⟨j, t, by omega, by omega, by rw [← y3]; exact (old j (by omega)).symm, y4⟩
    · rintro (y | ⟨j, t, y1, y2, y3, y4⟩)
      · exact Or.inl (Or.inl y)
      · by_cases w : j = i
        · subst w
          rw [gi] at y3
          have : ts.getD j ([], 0) = t := Option.some.inj y3
          rw [← this] at y4
          exact Or.inl (Or.inr y4)
        · exact Or.inr ⟨j, t, by omega, by omega, by rw [old j (by omega)]; exact y3, y4⟩
