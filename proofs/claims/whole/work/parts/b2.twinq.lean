/-! witness: what the queue of pairs says when it is through, or when two groups end at once -/
theorem isI_ok {gs : List (List Nat)} {m : Nat} {x : List Nat} (ho : okg gs m) (h : isI gs m x) : okr x ∧ x.length < 7 := by
  obtain ⟨l, hl, j, hj, e⟩ := h
  have ok := (isG_ok ho hl).1
  have l7 := ok.2
  rw [e]
  exact ⟨ok.take j, by rw [List.length_take]; omega⟩
theorem Suc.mem {gs : List (List Nat)} {m s : Nat} {x y x' y' : List Nat} (h : Suc gs m x y s x' y') : (isI gs m (x ++ [s]) ∨ isG gs m (x ++ [s])) ∧ (isI gs m (y ++ [s]) ∨ isG gs m (y ++ [s])) := by
  rcases h with ⟨e, i, _⟩ | ⟨_, ⟨a, b, _⟩ | ⟨a, b, _⟩ | ⟨a, b, _⟩⟩
  · subst e
    exact ⟨Or.inl i, Or.inl i⟩
  · exact ⟨Or.inl a, Or.inl b⟩
  · exact ⟨Or.inl a, Or.inr b⟩
  · exact ⟨Or.inr a, Or.inl b⟩
theorem IG_s {gs : List (List Nat)} {m s : Nat} {x : List Nat} (ho : okg gs m) (h : isI gs m (x ++ [s]) ∨ isG gs m (x ++ [s])) : 0 < s ∧ s < 28 := by
  have ok : okr (x ++ [s]) := h.elim (fun z => (isI_ok ho z).1) (fun z => (isG_ok ho z).1)
  exact ok.1 s (List.mem_append.mpr (Or.inr (List.mem_singleton.mpr rfl)))
theorem RcT.isl {gs : List (List Nat)} {m : Nat} {w x y : List Nat} (ho : okg gs m) (h : RcT gs m w x y) : lets w := by
  have go : ∀ n w x y, RcS gs m n w x y → lets w := by
    intro n
    induction n with
    | zero =>
      intro w x y ⟨a, _⟩
      rw [a]
      exact fun z hz => (by cases hz)
    | succ n ih =>
      intro w x y ⟨w0, s, x0, y0, a, b, c⟩
      rw [b]
      exact lets.app (ih _ _ _ a) (fun z hz => by rw [List.mem_singleton.mp hz]; exact IG_s ho c.mem.1)
  obtain ⟨n, hn⟩ := h
  exact go n w x y hn
/-- beyond one pair, a letter on: all pairs behind it are met, none ends twice -/
def dnE (gs : List (List Nat)) (m : Nat) (E : List TwE) (q : TwE) (s : Nat) : Prop := (∀ x' y', Suc gs m q.2.1 q.2.2.1 s x' y' → ∃ p ∈ E, p.2.1 = x' ∧ p.2.2.1 = y' ∧ pkN p.1 ≤ pkN (q.1 ++ [s])) ∧ ¬ Clo gs m q.2.1 q.2.2.1 s
theorem dnE.up {gs : List (List Nat)} {m s : Nat} {E L : List TwE} {q : TwE} (h : dnE gs m E q s) : dnE gs m (E ++ L) q s := ⟨fun x' y' hs => by
  obtain ⟨p, hp, z⟩ := h.1 x' y' hs
  exact ⟨p, List.mem_append.mpr (Or.inl hp), z⟩, h.2⟩
theorem pkN_le_snoc {a b : List Nat} {s : Nat} (h : pkN a ≤ pkN b) : pkN (a ++ [s]) ≤ pkN (b ++ [s]) := by
  rw [pkN_snoc, pkN_snoc]
  omega
theorem cl_reach {gs : List (List Nat)} {m : Nat} (ho : okg gs m) {E : List TwE} {P : List Nat → Prop} (hP : ∀ a b, P b → pkN a ≤ pkN b → P a) (h0 : ∃ q ∈ E, q.1 = [] ∧ q.2.1 = [] ∧ q.2.2.1 = []) (hp : ∀ q ∈ E, ∀ s, 0 < s → s < 28 → P (q.1 ++ [s]) → dnE gs m E q s) : ∀ n w x y, RcS gs m n w x y → P w → ∃ q ∈ E, q.2.1 = x ∧ q.2.2.1 = y ∧ pkN q.1 ≤ pkN w := by
  intro n
  induction n with
  | zero =>
    intro w x y ⟨a, b, c⟩ _
    obtain ⟨q, hq, e1, e2, e3⟩ := h0
    exact ⟨q, hq, by rw [e2, b], by rw [e3, c], by rw [e1]; exact Nat.zero_le _⟩
  | succ n ih =>
    intro w x y ⟨w0, s, x0, y0, a, b, c⟩ hw
    obtain ⟨s0, s1⟩ := IG_s ho c.mem.1
    have l0 : pkN w0 ≤ pkN w := by rw [b]; exact pkN_px w0 [s]
    obtain ⟨q, hq, e1, e2, e3⟩ := ih w0 x0 y0 a (hP _ _ hw l0)
    have l1 : pkN (q.1 ++ [s]) ≤ pkN w := by rw [b]; exact pkN_le_snoc e3
    obtain ⟨p, p1, p2, p3, p4⟩ := (hp q hq s s0 s1 (hP _ _ hw l1)).1 x y (by rw [e1, e2]; exact c)
    exact ⟨p, p1, p2, p3, Nat.le_trans p4 l1⟩
theorem cl_none {gs : List (List Nat)} {m : Nat} (ho : okg gs m) {E : List TwE} (h0 : ∃ q ∈ E, q.1 = [] ∧ q.2.1 = [] ∧ q.2.2.1 = []) (hp : ∀ q ∈ E, ∀ s, 0 < s → s < 28 → dnE gs m E q s) : lst (CLw gs m) none := by
  intro w ⟨w0, s, x, y, ⟨n, hn⟩, hc, e⟩
  obtain ⟨q, hq, e1, e2, _⟩ := cl_reach ho (P := fun _ => True) (fun _ _ _ _ => trivial) h0 (fun q hq s a b _ => hp q hq s a b) n w0 x y hn trivial
  obtain ⟨s0, s1⟩ := IG_s ho (Or.inr hc.2.1)
  exact (hp q hq s s0 s1).2 (by rw [e1, e2]; exact hc)
theorem cl_least {gs : List (List Nat)} {m s0 : Nat} (ho : okg gs m) {E : List TwE} {q0 : TwE} (h0 : ∃ q ∈ E, q.1 = [] ∧ q.2.1 = [] ∧ q.2.2.1 = []) (hr : RcT gs m q0.1 q0.2.1 q0.2.2.1) (hc : Clo gs m q0.2.1 q0.2.2.1 s0) (hp : ∀ q ∈ E, ∀ s, 0 < s → s < 28 → pkN (q.1 ++ [s]) < pkN (q0.1 ++ [s0]) → dnE gs m E q s) : lst (CLw gs m) (some (q0.1 ++ [s0])) := by
  refine ⟨⟨q0.1, s0, _, _, hr, hc, rfl⟩, fun w ⟨w0, s, x, y, ⟨n, hn⟩, hc', e⟩ => ?_⟩
  by_cases hlt : pkN w < pkN (q0.1 ++ [s0])
  · have l0 : pkN w0 ≤ pkN w := by rw [e]; exact pkN_px w0 [s]
    obtain ⟨q, hq, e1, e2, e3⟩ := cl_reach ho (P := fun a => pkN a < pkN (q0.1 ++ [s0])) (fun a b z y => Nat.lt_of_le_of_lt y z) h0 hp n w0 x y hn (Nat.lt_of_le_of_lt l0 hlt)
    obtain ⟨b0, b1⟩ := IG_s ho (Or.inr hc'.2.1)
    have l1 : pkN (q.1 ++ [s]) ≤ pkN w := by rw [e]; exact pkN_le_snoc e3
    exact absurd (by rw [e1, e2]; exact hc') (hp q hq s b0 b1 (Nat.lt_of_le_of_lt l1 hlt)).2
  · omega
def mnQ (E : List TwE) : Prop := ∀ (e e' : Nat) (q q' : TwE), e ≤ e' → E[e]? = some q → E[e']? = some q' → pkN q.1 ≤ pkN q'.1 ∧ q.2.2.2 ≤ q'.2.2.2 ∧ (q.2.2.2 = q'.2.2.2 ↔ q.1 = q'.1)
def Qok (gs : List (List Nat)) (m : Nat) (E : List TwE) (wc : List Nat) (v : Nat) : Prop := (∀ q ∈ E, RcT gs m q.1 q.2.1 q.2.2.1) ∧ (∀ q ∈ E, pkN q.1 ≤ pkN wc ∧ q.2.2.2 ≤ v ∧ (q.2.2.2 = v ↔ q.1 = wc)) ∧ mnQ E
def Qpr (gs : List (List Nat)) (m : Nat) (E : List TwE) (wc : List Nat) (v : Nat) : Prop := (∀ q ∈ E, RcT gs m q.1 q.2.1 q.2.2.1) ∧ (∀ q ∈ E, pkN q.1 < pkN wc ∧ q.2.2.2 ≤ v) ∧ mnQ E
theorem Qpr.ok {gs : List (List Nat)} {m v : Nat} {E : List TwE} {wc : List Nat} (h : Qpr gs m E wc v) : Qok gs m E wc (v + 1) := ⟨h.1, fun q hq => by
  obtain ⟨a, b⟩ := h.2.1 q hq
  exact ⟨Nat.le_of_lt a, by omega, fun z => absurd z (by omega), fun z => absurd a (by rw [z]; exact Nat.lt_irrefl _)⟩, h.2.2⟩
theorem Qok.pr {gs : List (List Nat)} {m v s : Nat} {E : List TwE} {w : List Nat} (h : Qok gs m E (w ++ [s]) v) : Qpr gs m E (w ++ [s + 1]) v := ⟨h.1, fun q hq => by
  obtain ⟨a, b, _⟩ := h.2.1 q hq
  rw [pkN_snoc] at a
  rw [pkN_snoc]
  exact ⟨by omega, b⟩, h.2.2⟩
theorem Qok.add {gs : List (List Nat)} {m v : Nat} {E : List TwE} {wc x y : List Nat} (h : Qok gs m E wc v) (hr : RcT gs m wc x y) : Qok gs m (E ++ [(wc, x, y, v)]) wc v := by
  obtain ⟨h1, h2, h3⟩ := h
  refine ⟨fun q hq => ?_, fun q hq => ?_, fun e e' q q' he hq hq' => ?_⟩
  · rcases List.mem_append.mp hq with z | z
    · exact h1 q z
    · rw [List.mem_singleton.mp z]
      exact hr
  · rcases List.mem_append.mp hq with z | z
    · exact h2 q z
    · rw [List.mem_singleton.mp z]
      exact ⟨Nat.le_refl _, Nat.le_refl _, fun _ => rfl, fun _ => rfl⟩
  · rcases get_snoc hq' with ⟨el', z'⟩ | ⟨el', z'⟩
    · rcases get_snoc hq with ⟨el, z⟩ | ⟨el, z⟩
      · exact h3 e e' q q' he z z'
      · omega
    · rcases get_snoc hq with ⟨el, z⟩ | ⟨el, z⟩
      · rw [z']
        exact h2 q (List.mem_of_getElem? z)
      · rw [z, z']
        exact ⟨Nat.le_refl _, Nat.le_refl _, fun _ => rfl, fun _ => rfl⟩
theorem mnQ_one (q : TwE) : mnQ [q] := fun e e' p p' _ h h' => by
  have l1 := (List.getElem?_eq_some_iff.mp h).1
  have l2 := (List.getElem?_eq_some_iff.mp h').1
  have a1 : e < 1 := l1
  have a2 : e' < 1 := l2
  have z1 : e = 0 := by omega
  have z2 : e' = 0 := by omega
  subst z1
  subst z2
  rw [h] at h'
  cases h'
  exact ⟨Nat.le_refl _, Nat.le_refl _, fun _ => rfl, fun _ => rfl⟩
