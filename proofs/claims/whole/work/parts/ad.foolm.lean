/-! fool: the least of some words (short ones first, of one length as in a dictionary); words that cover a tail -/
def lets (w : List Nat) : Prop := ∀ x ∈ w, 0 < x ∧ x < 28
theorem lets.l32 {w : List Nat} (h : lets w) : ∀ x ∈ w, x < 32 := fun x hx => by have := (h x hx).2; omega
theorem lets.i32 {w : List Nat} (h : lets w) : ∀ x ∈ w, 0 < x ∧ x < 32 := fun x hx => by have := h x hx; omega
theorem lets.app {a b : List Nat} (ha : lets a) (hb : lets b) : lets (a ++ b) := fun x hx => (List.mem_append.mp hx).elim (ha x) (hb x)
theorem pkN_cons (x : Nat) (l : List Nat) : pkN (x :: l) = x * 32 ^ l.length + pkN l := by
  have e := pkN_app [x] l
  rw [pkN_one] at e
  exact e
theorem pkN_low {l : List Nat} (h : lets l) (h0 : l ≠ []) : 32 ^ (l.length - 1) ≤ pkN l := by
  cases l with
  | nil => exact absurd rfl h0
  | cons x l =>
    rw [pkN_cons, List.length_cons, Nat.add_sub_cancel]
    have hx := (h x (List.mem_cons_self ..)).1
    have := Nat.mul_le_mul_right (32 ^ l.length) hx
    rw [Nat.one_mul] at this
    omega
theorem pkN_sh {a b : List Nat} (ha : lets a) (hb : lets b) (h : a.length < b.length) : pkN a < pkN b := by
  have h1 := pkN_lt ha.l32
  have h2 := pkN_low hb (fun z => by rw [z] at h; exact absurd h (Nat.not_lt_zero _))
  have h3 : 32 ^ a.length ≤ 32 ^ (b.length - 1) := Nat.pow_le_pow_right (by decide) (by omega)
  omega
theorem pkN_ls {a b : List Nat} (ha : lets a) (hb : lets b) (h : pkN a ≤ pkN b) : a.length ≤ b.length := by
  by_cases z : b.length < a.length
  · have := pkN_sh hb ha z
    omega
  · omega
theorem pkN_pre {l a b : List Nat} (ha : lets a) (hb : lets b) (h : pkN a ≤ pkN b) : pkN (l ++ a) ≤ pkN (l ++ b) := by
  rw [pkN_app, pkN_app]
  have h1 := pkN_ls ha hb h
  have h2 : 32 ^ a.length ≤ 32 ^ b.length := Nat.pow_le_pow_right (by decide) h1
  have h3 := Nat.mul_le_mul_left (pkN l) h2
  omega
theorem pkN_dif : ∀ (i : Nat) (a b : List Nat) (x y : Nat), lets a → lets b → a.length = b.length → a[i]? = some x → b[i]? = some y → (∀ j, j < i → a[j]? = b[j]?) → x < y → pkN a < pkN b
  | _, [], _, _, _, _, _, _, h, _, _, _ => by
    rw [List.getElem?_nil] at h
    cases h
  | _, _ :: _, [], _, _, _, _, h, _, _, _, _ => by
    rw [List.length_cons] at h
    exact absurd h (by show ¬ _ + 1 = 0; omega)
  | 0, u :: a, v :: b, x, y, ha, hb, hl, hx, hy, _, hxy => by
    have e1 : u = x := Option.some.inj hx
    have e2 : v = y := Option.some.inj hy
    rw [List.length_cons, List.length_cons] at hl
    rw [pkN_cons, pkN_cons, e1, e2, show a.length = b.length by omega]
    have h1 := pkN_lt (l := a) (fun z hz => by have := ha z (List.mem_cons_of_mem _ hz); omega)
    rw [show a.length = b.length by omega] at h1
    have h2 := Nat.mul_le_mul_right (32 ^ b.length) (show x + 1 ≤ y from hxy)
    rw [Nat.add_mul, Nat.one_mul] at h2
    omega
  | i + 1, u :: a, v :: b, x, y, ha, hb, hl, hx, hy, hs, hxy => by
    have h0 := hs 0 (by omega)
    have e0 : u = v := Option.some.inj h0
    rw [List.length_cons, List.length_cons] at hl
    have ih := pkN_dif i a b x y (fun z hz => ha z (List.mem_cons_of_mem _ hz)) (fun z hz => hb z (List.mem_cons_of_mem _ hz)) (by omega) hx hy (fun j hj => hs (j + 1) (by omega)) hxy
    rw [pkN_cons, pkN_cons, e0, show a.length = b.length by omega]
    omega
theorem lets_inj {a b : List Nat} (ha : lets a) (hb : lets b) (h : pkN a = pkN b) : a = b := pkN_inj a.length (Nat.le_refl _) ha.i32 hb.i32 h
/-- the least word of a set, if there is any -/
def lst (S : List Nat → Prop) : Option (List Nat) → Prop
  | none => ∀ w, ¬ S w
  | some w => S w ∧ ∀ w', S w' → pkN w ≤ pkN w'
def bet : Option (List Nat) → List Nat → Option (List Nat)
  | none, w => some w
  | some b, w => if pkN w < pkN b then some w else some b
theorem lst_up {S S' : List Nat → Prop} {o : Option (List Nat)} (h : lst S o) (hs : ∀ w, S w ↔ S' w) : lst S' o := by
  have e : S = S' := funext (fun w => propext (hs w))
  rw [← e]
  exact h
theorem lst_add {S : List Nat → Prop} {o : Option (List Nat)} {w : List Nat} (h : lst S o) : lst (fun x => S x ∨ x = w) (bet o w) := by
  cases o with
  | none => exact ⟨Or.inr rfl, fun w' hw => hw.elim (fun z => absurd z (h w')) (fun z => by rw [z]; exact Nat.le_refl _)⟩
  | some b =>
    show lst _ (if pkN w < pkN b then some w else some b)
    by_cases z : pkN w < pkN b
    · rw [if_pos z]
      exact ⟨Or.inr rfl, fun w' hw => hw.elim (fun y => Nat.le_of_lt (Nat.lt_of_lt_of_le z (h.2 w' y))) (fun y => by rw [y]; exact Nat.le_refl _)⟩
    · rw [if_neg z]
      exact ⟨Or.inl h.1, fun w' hw => hw.elim (h.2 w') (fun y => by rw [y]; omega)⟩
/-- a set of which w is the least -/
theorem lst_adds {S R : List Nat → Prop} {o : Option (List Nat)} {w : List Nat} (h : lst S o) (hR : R w) (hm : ∀ w', R w' → pkN w ≤ pkN w') : lst (fun x => S x ∨ R x) (bet o w) := by
  have h1 := lst_add (w := w) h
  cases e : bet o w with
  | none =>
    rw [e] at h1
    exact absurd (Or.inr rfl) (h1 w)
  | some v =>
    rw [e] at h1
    refine ⟨h1.1.elim Or.inl (fun z => Or.inr (by rw [z]; exact hR)), fun w' hw => hw.elim (fun z => h1.2 w' (Or.inl z)) (fun z => Nat.le_trans (h1.2 w (Or.inr rfl)) (hm w' z))⟩
theorem lst_uni {S : List Nat → Prop} {o o' : Option (List Nat)} (hS : ∀ w, S w → lets w) (h : lst S o) (h' : lst S o') : o = o' := by
  cases o with
  | none =>
    cases o' with
    | none => rfl
    | some w => exact absurd h'.1 (h w)
  | some v =>
    cases o' with
    | none => exact absurd h.1 (h' v)
    | some w => rw [lets_inj (hS v h.1) (hS w h'.1) (Nat.le_antisymm (h.2 w h'.1) (h'.2 v h.1))]
/-- words of groups that cover a tail, the last one over its end -/
def cvS (gs : List (List Nat)) (m : Nat) : Nat → List Nat → List Nat → Prop
  | 0, _, _ => False
  | n + 1, t, w => ∃ l, isG gs m l ∧ ((∃ x, l = t ++ x ∧ w = l) ∨ (∃ s w', s ≠ [] ∧ t = l ++ s ∧ cvS gs m n s w' ∧ w = l ++ w'))
def cv (gs : List (List Nat)) (m : Nat) (t w : List Nat) : Prop := ∃ n, cvS gs m n t w
theorem cv_un {gs : List (List Nat)} {m : Nat} {t w : List Nat} : cv gs m t w ↔ ∃ l, isG gs m l ∧ ((∃ x, l = t ++ x ∧ w = l) ∨ (∃ s w', s ≠ [] ∧ t = l ++ s ∧ cv gs m s w' ∧ w = l ++ w')) := by
  constructor
  · rintro ⟨n, h⟩
    cases n with
    | zero => exact absurd h id
    | succ n =>
      obtain ⟨l, h1, h2 | ⟨s, w', a, b, c, e⟩⟩ := h
      · exact ⟨l, h1, Or.inl h2⟩
      · exact ⟨l, h1, Or.inr ⟨s, w', a, b, ⟨n, c⟩, e⟩⟩
  · rintro ⟨l, h1, h2 | ⟨s, w', a, b, ⟨n, c⟩, e⟩⟩
    · exact ⟨1, l, h1, Or.inl h2⟩
    · exact ⟨n + 1, l, h1, Or.inr ⟨s, w', a, b, c, e⟩⟩
theorem isG_ok {gs : List (List Nat)} {m : Nat} {l : List Nat} (ho : okg gs m) (h : isG gs m l) : okr l ∧ 0 < l.length := by
  obtain ⟨k, hk, _⟩ := h
  exact ⟨(ho.at hk).1, (ho.at hk).2.1⟩
theorem cvS_ok {gs : List (List Nat)} {m : Nat} (ho : okg gs m) : ∀ (n : Nat) (t w : List Nat), t ≠ [] → cvS gs m n t w → (∃ x, w = t ++ x ∧ x.length ≤ 6) ∧ lets w
  | 0, _, _, _, h => absurd h id
  | n + 1, t, w, ht, ⟨l, h1, h2⟩ => by
    obtain ⟨l1, l2⟩ := isG_ok ho h1
    rcases h2 with ⟨x, e1, e2⟩ | ⟨s, w', a, b, c, e⟩
    · refine ⟨⟨x, e2.trans e1, ?_⟩, by rw [e2]; exact l1.1⟩
      have q := congrArg List.length e1
      rw [List.length_append] at q
      have := l1.2
      have := List.length_pos_iff.mpr ht
      omega
    · obtain ⟨⟨x, x1, x2⟩, x3⟩ := cvS_ok ho n s w' a c
      refine ⟨⟨x, ?_, x2⟩, ?_⟩
      · rw [e, x1, b, List.append_assoc]
      · rw [e]
        exact lets.app l1.1 x3
theorem cv_ok {gs : List (List Nat)} {m : Nat} {t w : List Nat} (ho : okg gs m) (ht : t ≠ []) (h : cv gs m t w) : (∃ x, w = t ++ x ∧ x.length ≤ 6) ∧ lets w := by
  obtain ⟨n, hn⟩ := h
  exact cvS_ok ho n t w ht hn
/-- words that a reader of a kind gets wrong by its first group -/
def pfR (gs : List (List Nat)) (kd a b : Nat) : Prop := (kd = 0 ∧ (gs.getD a []).length < (gs.getD b []).length) ∨ (kd = 1 ∧ (gs.getD b []).length < (gs.getD a []).length) ∨ (kd = 2 ∧ b < a)
def fwP (gs : List (List Nat)) (m kd a b : Nat) (w : List Nat) : Prop := abC m a b ∧ pfR gs kd a b ∧ ((gs.getD b [] = (gs.getD a []).take (gs.getD b []).length ∧ w = gs.getD a []) ∨ ∃ t w', t ≠ [] ∧ gs.getD b [] = gs.getD a [] ++ t ∧ cv gs m t w' ∧ w = gs.getD a [] ++ w')
def FW (gs : List (List Nat)) (m kd : Nat) (w : List Nat) : Prop := ∃ a b, a < gs.length ∧ b < gs.length ∧ fwP gs m kd a b w
theorem FW_ok {gs : List (List Nat)} {m kd : Nat} {w : List Nat} (ho : okg gs m) (h : FW gs m kd w) : lets w ∧ 0 < w.length ∧ w.length ≤ 13 := by
  obtain ⟨a, b, ha, hb, _, _, h⟩ := h
  obtain ⟨a1, a2, _⟩ := ho.at (gS ha)
  obtain ⟨b1, b2, _⟩ := ho.at (gS hb)
  have a7 := a1.2
  have b7 := b1.2
  rcases h with ⟨_, e⟩ | ⟨t, w', t0, e1, c, e⟩
  · rw [e]
    exact ⟨a1.1, a2, by omega⟩
  · obtain ⟨⟨x, x1, x2⟩, x3⟩ := cv_ok ho t0 c
    have q1 := congrArg List.length e1
    have q2 := congrArg List.length x1
    rw [List.length_append] at q1 q2
    rw [e]
    refine ⟨lets.app a1.1 x3, ?_, ?_⟩
    · rw [List.length_append]
      omega
    · rw [List.length_append]
      omega
