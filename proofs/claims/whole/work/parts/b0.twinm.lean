/-! witness: rows of groups that say the same; labels of tails; pairs of beginnings of groups -/
def rdG (gs : List (List Nat)) (m : Nat) (A : List (List Nat)) : Prop := ∀ x ∈ A, isG gs m x
def Twn (gs : List (List Nat)) (m : Nat) (w : List Nat) : Prop := ∃ a A b B, isG gs m a ∧ rdG gs m A ∧ isG gs m b ∧ rdG gs m B ∧ a ≠ b ∧ w = a ++ A.flatten ∧ w = b ++ B.flatten
def LbS (gs : List (List Nat)) (m : Nat) : Nat → List Nat → List Nat → Prop
  | 0, t, w => t ≠ [] ∧ ∃ a, isG gs m a ∧ isG gs m (a ++ t) ∧ w = a ++ t
  | n + 1, t, w => t ≠ [] ∧ ((∃ g, isG gs m g ∧ LbS gs m n (g ++ t) w) ∨ ∃ t0 w0, LbS gs m n t0 w0 ∧ isG gs m (t0 ++ t) ∧ w = w0 ++ t)
def Lb (gs : List (List Nat)) (m : Nat) (t w : List Nat) : Prop := ∃ n, LbS gs m n t w
theorem Lb.base {gs : List (List Nat)} {m : Nat} {a t : List Nat} (ha : isG gs m a) (hb : isG gs m (a ++ t)) (h : t ≠ []) : Lb gs m t (a ++ t) := ⟨0, h, a, ha, hb, rfl⟩
theorem Lb.down {gs : List (List Nat)} {m : Nat} {g t w : List Nat} (hl : Lb gs m (g ++ t) w) (hg : isG gs m g) (h : t ≠ []) : Lb gs m t w := by
  obtain ⟨n, hn⟩ := hl
  exact ⟨n + 1, h, Or.inl ⟨g, hg, hn⟩⟩
theorem Lb.fwd {gs : List (List Nat)} {m : Nat} {t0 t w0 : List Nat} (hl : Lb gs m t0 w0) (hg : isG gs m (t0 ++ t)) (h : t ≠ []) : Lb gs m t (w0 ++ t) := by
  obtain ⟨n, hn⟩ := hl
  exact ⟨n + 1, h, Or.inr ⟨t0, w0, hn, hg, rfl⟩⟩
theorem Lb.ne {gs : List (List Nat)} {m : Nat} {t w : List Nat} (h : Lb gs m t w) : t ≠ [] := by
  obtain ⟨n, hn⟩ := h
  cases n with
  | zero => exact hn.1
  | succ n => exact hn.1
theorem Lb.ind {gs : List (List Nat)} {m : Nat} {P : List Nat → List Nat → Prop} (p0 : ∀ a t, isG gs m a → isG gs m (a ++ t) → t ≠ [] → P t (a ++ t)) (p1 : ∀ g t w, Lb gs m (g ++ t) w → P (g ++ t) w → isG gs m g → t ≠ [] → P t w) (p2 : ∀ t0 t w0, Lb gs m t0 w0 → P t0 w0 → isG gs m (t0 ++ t) → t ≠ [] → P t (w0 ++ t)) : ∀ {t w : List Nat}, Lb gs m t w → P t w := by
  have go : ∀ n t w, LbS gs m n t w → P t w := by
    intro n
    induction n with
    | zero =>
      intro t w ⟨h0, a, ha, hb, e⟩
      rw [e]
      exact p0 a t ha hb h0
    | succ n ih =>
      intro t w ⟨h0, h1⟩
      rcases h1 with ⟨g, hg, hn⟩ | ⟨t0, w0, hn, hg, e⟩
      · exact p1 g t w ⟨n, hn⟩ (ih _ _ hn) hg h0
      · rw [e]
        exact p2 t0 t w0 ⟨n, hn⟩ (ih _ _ hn) hg h0
  intro t w ⟨n, hn⟩
  exact go n t w hn
theorem rdG.snoc {gs : List (List Nat)} {m : Nat} {A : List (List Nat)} {x : List Nat} (h : rdG gs m A) (hx : isG gs m x) : rdG gs m (A ++ [x]) := fun y hy => (List.mem_append.mp hy).elim (h y) (fun z => by rw [List.mem_singleton.mp z]; exact hx)
theorem fl_snoc (A : List (List Nat)) (x : List Nat) : (A ++ [x]).flatten = A.flatten ++ x := by
  rw [List.flatten_append]
  show A.flatten ++ (x ++ []) = _
  rw [List.append_nil]
/-- a tail's label has two rows of groups, the one but for the tail -/
theorem Lb.rows {gs : List (List Nat)} {m : Nat} {t w : List Nat} (h : Lb gs m t w) : ∃ a A b B, isG gs m a ∧ rdG gs m A ∧ isG gs m b ∧ rdG gs m B ∧ a ≠ b ∧ w = (a ++ A.flatten) ++ t ∧ w = b ++ B.flatten := by
  refine Lb.ind (P := fun t w => ∃ a A b B, isG gs m a ∧ rdG gs m A ∧ isG gs m b ∧ rdG gs m B ∧ a ≠ b ∧ w = (a ++ A.flatten) ++ t ∧ w = b ++ B.flatten) ?_ ?_ ?_ h
  · intro a t ha hb h0
    refine ⟨a, [], a ++ t, [], ha, (fun x hx => by cases hx), hb, (fun x hx => by cases hx), fun z => ?_, ?_, ?_⟩
    · have := congrArg List.length z
      rw [List.length_append] at this
      exact h0 (List.eq_nil_of_length_eq_zero (by omega))
    · show _ = (a ++ []) ++ t
      rw [List.append_nil]
    · show _ = (a ++ t) ++ []
      rw [List.append_nil]
  · intro g t w _ ⟨a, A, b, B, h1, h2, h3, h4, h5, h6, h7⟩ hg h0
    refine ⟨a, A ++ [g], b, B, h1, h2.snoc hg, h3, h4, h5, ?_, h7⟩
    simp only [fl_snoc, h6, List.append_assoc]
  · intro t0 t w0 _ ⟨a, A, b, B, h1, h2, h3, h4, h5, h6, h7⟩ hg h0
    refine ⟨b, B, a, A ++ [t0 ++ t], h3, h4, h1, h2.snoc hg, h5.symm, by rw [h7], ?_⟩
    simp only [fl_snoc, h6, List.append_assoc]
theorem Lb.twn {gs : List (List Nat)} {m : Nat} {t w : List Nat} (h : Lb gs m t w) (ht : isG gs m t) : Twn gs m w := by
  obtain ⟨a, A, b, B, h1, h2, h3, h4, h5, h6, h7⟩ := h.rows
  exact ⟨a, A ++ [t], b, B, h1, h2.snoc ht, h3, h4, h5, by rw [fl_snoc, h6, List.append_assoc], h7⟩
theorem isG.ne {gs : List (List Nat)} {m : Nat} {l : List Nat} (ho : okg gs m) (h : isG gs m l) : l ≠ [] := fun z => by
  have := (isG_ok ho h).2
  rw [z] at this
  exact absurd this (Nat.lt_irrefl 0)
theorem rdG.tl {gs : List (List Nat)} {m : Nat} {g : List Nat} {A : List (List Nat)} (h : rdG gs m (g :: A)) : rdG gs m A := fun x hx => h x (List.mem_cons_of_mem _ hx)
theorem rdG.hd {gs : List (List Nat)} {m : Nat} {g : List Nat} {A : List (List Nat)} (h : rdG gs m (g :: A)) : isG gs m g := h g (List.mem_cons_self ..)
/-- two rows from a tail on: somewhere they meet -/
theorem lb_go {gs : List (List Nat)} {m : Nat} : ∀ (n : Nat) (t w : List Nat) (E F : List (List Nat)), E.length + F.length ≤ n → Lb gs m t w → rdG gs m E → rdG gs m F → E.flatten = t ++ F.flatten → ∃ w' z t', w ++ F.flatten = w' ++ z ∧ Lb gs m t' w' ∧ isG gs m t' := by
  intro n
  induction n with
  | zero =>
    intro t w E F hn hl hE hF he
    have e : E = [] := List.eq_nil_of_length_eq_zero (by omega)
    rw [e] at he
    exact absurd (List.append_eq_nil_iff.mp he.symm).1 hl.ne
  | succ n ih =>
    intro t w E F hn hl hE hF he
    cases E with
    | nil => exact absurd (List.append_eq_nil_iff.mp he.symm).1 hl.ne
    | cons g E =>
      have he' : g ++ E.flatten = t ++ F.flatten := he
      rw [List.length_cons] at hn
      rcases List.append_eq_append_iff.mp he' with ⟨c, e1, e2⟩ | ⟨c, e1, e2⟩
      · by_cases hc : c = []
        · rw [hc, List.append_nil] at e1
          exact ⟨w, F.flatten, t, rfl, hl, by rw [e1]; exact hE.hd⟩
        · rw [e1] at hl
          exact ih c w E F (by omega) (hl.down hE.hd hc) hE.tl hF e2
      · by_cases hc : c = []
        · rw [hc, List.append_nil] at e1
          exact ⟨w, F.flatten, t, rfl, hl, by rw [← e1]; exact hE.hd⟩
        · have hg : isG gs m (t ++ c) := by rw [← e1]; exact hE.hd
          obtain ⟨w', z, t', r1, r2⟩ := ih c (w ++ c) F E (by omega) (hl.fwd hg hc) hF hE.tl e2
          exact ⟨w', z, t', by rw [e2, ← r1, List.append_assoc], r2⟩
theorem Twn.lb {gs : List (List Nat)} {m : Nat} {w : List Nat} (h : Twn gs m w) : ∃ w' z t', w = w' ++ z ∧ Lb gs m t' w' ∧ isG gs m t' := by
  obtain ⟨a, A, b, B, h1, h2, h3, h4, h5, h6, h7⟩ := h
  rcases List.append_eq_append_iff.mp (h6.symm.trans h7) with ⟨c, e1, e2⟩ | ⟨c, e1, e2⟩
  · have hc : c ≠ [] := fun z => h5 (by rw [e1, z, List.append_nil])
    rw [e1] at h3
    obtain ⟨w', z, t', r1, r2⟩ := lb_go _ c (a ++ c) A B (Nat.le_refl _) (Lb.base h1 h3 hc) h2 h4 e2
    exact ⟨w', z, t', by rw [← r1, h7, e1], r2⟩
  · have hc : c ≠ [] := fun z => h5 (by rw [e1, z, List.append_nil])
    rw [e1] at h1
    obtain ⟨w', z, t', r1, r2⟩ := lb_go _ c (b ++ c) B A (Nat.le_refl _) (Lb.base h3 h1 hc) h4 h2 e2
    exact ⟨w', z, t', by rw [← r1, h6, e1], r2⟩
theorem rd_lets {gs : List (List Nat)} {m : Nat} (ho : okg gs m) : ∀ {A : List (List Nat)}, rdG gs m A → lets A.flatten
  | [], _ => fun x hx => (by cases hx)
  | a :: A, h => by
    show lets (a ++ A.flatten)
    exact lets.app (isG_ok ho h.hd).1.1 (rd_lets ho h.tl)
theorem Twn_lets {gs : List (List Nat)} {m : Nat} {w : List Nat} (ho : okg gs m) (h : Twn gs m w) : lets w := by
  obtain ⟨a, A, b, B, h1, h2, h3, h4, h5, h6, h7⟩ := h
  rw [h6]
  exact lets.app (isG_ok ho h1).1.1 (rd_lets ho h2)
theorem pkN_px (w z : List Nat) : pkN w ≤ pkN (w ++ z) := by
  rw [pkN_app]
  exact Nat.le_trans (Nat.le_mul_of_pos_right _ (Nat.pow_pos (by omega))) (Nat.le_add_right _ _)
theorem lst_twn {gs : List (List Nat)} {m : Nat} {S : List Nat → Prop} {o : Option (List Nat)} (h1 : ∀ w, S w → Twn gs m w) (h2 : ∀ w, Twn gs m w → ∃ w' z, w = w' ++ z ∧ S w') (h : lst S o) : lst (Twn gs m) o := by
  cases o with
  | none =>
    intro w hw
    obtain ⟨w', z, _, hS⟩ := h2 w hw
    exact h w' hS
  | some v =>
    refine ⟨h1 v h.1, fun w hw => ?_⟩
    obtain ⟨w', z, e, hS⟩ := h2 w hw
    rw [e]
    exact Nat.le_trans (h.2 w' hS) (pkN_px w' z)
theorem lst_lb {gs : List (List Nat)} {m : Nat} {o : Option (List Nat)} (h : lst (fun w => ∃ t, Lb gs m t w ∧ isG gs m t) o) : lst (Twn gs m) o :=
  lst_twn (fun _ ⟨_, a, b⟩ => a.twn b) (fun _ hw => by
    obtain ⟨w', z, t', e, a, b⟩ := hw.lb
    exact ⟨w', z, e, t', a, b⟩) h
/-- the tails with labels are those of the rounds -/
theorem Lb.rnd {gs : List (List Nat)} {m : Nat} {t w : List Nat} (h : Lb gs m t w) : ∃ j, (RSd gs m j).2 t := by
  have nx : ∀ t0 t, (∃ j, (RSd gs m j).2 t0) → nxR gs m t0 t → ∃ j, (RSd gs m j).2 t := fun t0 t ⟨j, hj⟩ hn => by
    by_cases z : (RSd gs m j).1 t
    · obtain ⟨i, _, hi⟩ := (RSd_1 j).mp z
      exact ⟨i, hi⟩
    · by_cases y : (RSd gs m j).2 t
      · exact ⟨j, y⟩
      · exact ⟨j + 1, ⟨t0, hj, hn⟩, z, y⟩
  refine Lb.ind (P := fun t _ => ∃ j, (RSd gs m j).2 t) ?_ ?_ ?_ h
  · intro a t ⟨ka, ga, ma⟩ ⟨kb, gb, mb⟩ h0
    refine ⟨0, h0, ka, kb, a, fun z => ?_, ga, gb, ma, mb⟩
    rw [z, gb] at ga
    have := congrArg List.length (Option.some.inj ga)
    rw [List.length_append] at this
    exact h0 (List.eq_nil_of_length_eq_zero (by omega))
  · intro g t w _ hP hg h0
    exact nx _ _ hP ⟨h0, g, hg, Or.inr rfl⟩
  · intro t0 t w0 _ hP hg h0
    exact nx _ _ hP ⟨h0, _, hg, Or.inl rfl⟩
theorem rnd_lb {gs : List (List Nat)} {m : Nat} : ∀ (j : Nat) (t : List Nat), (RSd gs m j).2 t → ∃ w, Lb gs m t w
  | 0, t, ⟨h0, a, b, la, _, ga, gb, ma, mb⟩ => ⟨la ++ t, Lb.base ⟨a, ga, ma⟩ ⟨b, gb, mb⟩ h0⟩
  | j + 1, t, ⟨⟨t0, h1, h0, l, hl, h2⟩, _⟩ => by
    obtain ⟨w, hw⟩ := rnd_lb j t0 h1
    rcases h2 with e | e
    · exact ⟨w ++ t, hw.fwd (by rw [← e]; exact hl) h0⟩
    · rw [e] at hw
      exact ⟨w, hw.down hl h0⟩
/-! pairs of beginnings of groups, letter by letter -/
def Suc (gs : List (List Nat)) (m : Nat) (x y : List Nat) (s : Nat) (x' y' : List Nat) : Prop := (x = y ∧ isI gs m (x ++ [s]) ∧ x' = x ++ [s] ∧ (y' = x ++ [s] ∨ (isG gs m (x ++ [s]) ∧ y' = []))) ∨ (x ≠ y ∧ ((isI gs m (x ++ [s]) ∧ isI gs m (y ++ [s]) ∧ x' = x ++ [s] ∧ y' = y ++ [s]) ∨ (isI gs m (x ++ [s]) ∧ isG gs m (y ++ [s]) ∧ x' = x ++ [s] ∧ y' = []) ∨ (isG gs m (x ++ [s]) ∧ isI gs m (y ++ [s]) ∧ x' = y ++ [s] ∧ y' = [])))
def Clo (gs : List (List Nat)) (m : Nat) (x y : List Nat) (s : Nat) : Prop := x ≠ y ∧ isG gs m (x ++ [s]) ∧ isG gs m (y ++ [s])
def RcS (gs : List (List Nat)) (m : Nat) : Nat → List Nat → List Nat → List Nat → Prop
  | 0, w, x, y => w = [] ∧ x = [] ∧ y = []
  | n + 1, w, x, y => ∃ w0 s x0 y0, RcS gs m n w0 x0 y0 ∧ w = w0 ++ [s] ∧ Suc gs m x0 y0 s x y
def RcT (gs : List (List Nat)) (m : Nat) (w x y : List Nat) : Prop := ∃ n, RcS gs m n w x y
theorem RcT.go {gs : List (List Nat)} {m s : Nat} {w x y x' y' : List Nat} (h : RcT gs m w x y) (hs : Suc gs m x y s x' y') : RcT gs m (w ++ [s]) x' y' := by
  obtain ⟨n, hn⟩ := h
  exact ⟨n + 1, w, s, x, y, hn, rfl, hs⟩
def CLw (gs : List (List Nat)) (m : Nat) (w : List Nat) : Prop := ∃ w0 s x y, RcT gs m w0 x y ∧ Clo gs m x y s ∧ w = w0 ++ [s]
def Kk (A B : List (List Nat)) : Prop := (A = [] ∧ B ≠ []) ∨ (A ≠ [] ∧ B = []) ∨ ∃ a A' b B', A = a :: A' ∧ B = b :: B' ∧ a ≠ b
theorem Kk.symm {A B : List (List Nat)} (h : Kk A B) : Kk B A := by
  rcases h with ⟨a, b⟩ | ⟨a, b⟩ | ⟨a, A', b, B', h1, h2, h3⟩
  · exact Or.inr (Or.inl ⟨b, a⟩)
  · exact Or.inl ⟨b, a⟩
  · exact Or.inr (Or.inr ⟨b, B', a, A', h2, h1, h3.symm⟩)
theorem hd_short {a x y w : List Nat} {A : List (List Nat)} {s : Nat} (h1 : w = (a :: A).flatten ++ x) (h2 : w = y) : a ≠ y ++ [s] := fun z => by
  have e1 := congrArg List.length h1
  rw [List.length_append] at e1
  have e3 : ((a :: A).flatten).length = a.length + A.flatten.length := List.length_append
  have e2 := congrArg List.length z
  rw [List.length_append] at e2
  have e4 : ([s] : List Nat).length = 1 := rfl
  rw [h2] at e1
  omega
theorem Kk.add {A B : List (List Nat)} {w x y : List Nat} {s : Nat} (h : Kk A B) (h1 : w = A.flatten ++ x) (h2 : w = B.flatten ++ y) : Kk A (B ++ [y ++ [s]]) := by
  rcases h with ⟨a, b⟩ | ⟨a, b⟩ | ⟨a, A', b, B', e1, e2, e3⟩
  · exact Or.inl ⟨a, by simp⟩
  · cases A with
    | nil => exact absurd rfl a
    | cons c A =>
      subst b
      exact Or.inr (Or.inr ⟨c, A, y ++ [s], [], rfl, rfl, hd_short h1 h2⟩)
  · subst e2
    exact Or.inr (Or.inr ⟨a, A', b, B' ++ [y ++ [s]], e1, rfl, e3⟩)
def RcI (gs : List (List Nat)) (m : Nat) (w x y : List Nat) : Prop := ∃ A B, rdG gs m A ∧ rdG gs m B ∧ w = A.flatten ++ x ∧ w = B.flatten ++ y ∧ ((A = [] ∧ B = [] ∧ x = y) ∨ (x ≠ y ∧ Kk A B))
theorem ne_snoc {x : List Nat} {s : Nat} : x ++ [s] ≠ [] := by simp
theorem RcI.go {gs : List (List Nat)} {m s : Nat} {w x y x' y' : List Nat} (h : RcI gs m w x y) (hs : Suc gs m x y s x' y') : RcI gs m (w ++ [s]) x' y' := by
  obtain ⟨A, B, h1, h2, h3, h4, h5⟩ := h
  have eA : w ++ [s] = A.flatten ++ (x ++ [s]) := by rw [h3, List.append_assoc]
  have eB : w ++ [s] = B.flatten ++ (y ++ [s]) := by rw [h4, List.append_assoc]
  have cA : w ++ [s] = (A ++ [x ++ [s]]).flatten ++ [] := by rw [fl_snoc, List.append_nil]; exact eA
  have cB : w ++ [s] = (B ++ [y ++ [s]]).flatten ++ [] := by rw [fl_snoc, List.append_nil]; exact eB
  rcases hs with ⟨e, i, ex, z⟩ | ⟨e, hs⟩
  · subst e
    subst ex
    have hAB : A = [] ∧ B = [] := h5.elim (fun q => ⟨q.1, q.2.1⟩) (fun q => absurd rfl q.1)
    obtain ⟨qa, qb⟩ := hAB
    subst qa
    subst qb
    rcases z with z | ⟨g, z⟩
    · subst z
      exact ⟨[], [], h1, h2, eA, eB, Or.inl ⟨rfl, rfl, rfl⟩⟩
    · subst z
      exact ⟨[], [x ++ [s]], h1, h2.snoc g, eA, cB, Or.inr ⟨ne_snoc, Or.inl ⟨rfl, by simp⟩⟩⟩
  · have hK : Kk A B := h5.elim (fun q => absurd q.2.2 e) (fun q => q.2)
    rcases hs with ⟨_, _, a, b⟩ | ⟨_, g, a, b⟩ | ⟨g, _, a, b⟩
    · subst a
      subst b
      exact ⟨A, B, h1, h2, eA, eB, Or.inr ⟨fun q => e (List.append_cancel_right q), hK⟩⟩
    · subst a
      subst b
      exact ⟨A, B ++ [y ++ [s]], h1, h2.snoc g, eA, cB, Or.inr ⟨ne_snoc, hK.add h3 h4⟩⟩
    · subst a
      subst b
      exact ⟨B, A ++ [x ++ [s]], h2, h1.snoc g, eB, cA, Or.inr ⟨ne_snoc, hK.symm.add h4 h3⟩⟩
theorem RcT.rows {gs : List (List Nat)} {m : Nat} {w x y : List Nat} (h : RcT gs m w x y) : RcI gs m w x y := by
  have go : ∀ n w x y, RcS gs m n w x y → RcI gs m w x y := by
    intro n
    induction n with
    | zero =>
      intro w x y ⟨a, b, c⟩
      subst a
      subst b
      subst c
      exact ⟨[], [], fun x hx => (by cases hx), fun x hx => (by cases hx), rfl, rfl, Or.inl ⟨rfl, rfl, rfl⟩⟩
    | succ n ih =>
      intro w x y ⟨w0, s, x0, y0, a, b, c⟩
      rw [b]
      exact (ih _ _ _ a).go c
  obtain ⟨n, hn⟩ := h
  exact go n w x y hn
theorem CLw.twn {gs : List (List Nat)} {m : Nat} {w : List Nat} (h : CLw gs m w) : Twn gs m w := by
  obtain ⟨w0, s, x, y, hr, ⟨hn, hx, hy⟩, e⟩ := h
  obtain ⟨A, B, h1, h2, h3, h4, h5⟩ := hr.rows
  have cA : w = (A ++ [x ++ [s]]).flatten := by rw [fl_snoc, e, h3, List.append_assoc]
  have cB : w = (B ++ [y ++ [s]]).flatten := by rw [fl_snoc, e, h4, List.append_assoc]
  have hK : Kk A B := h5.elim (fun q => absurd q.2.2 hn) (fun q => q.2)
  rcases hK with ⟨a, b⟩ | ⟨a, b⟩ | ⟨a, A', b, B', e1, e2, e3⟩
  · cases B with
    | nil => exact absurd rfl b
    | cons c B =>
      subst a
      exact ⟨x ++ [s], [], c, B ++ [y ++ [s]], hx, h1, h2.hd, h2.tl.snoc hy, (hd_short h4 h3).symm, cA, cB⟩
  · cases A with
    | nil => exact absurd rfl a
    | cons c A =>
      subst b
      exact ⟨c, A ++ [x ++ [s]], y ++ [s], [], h1.hd, h1.tl.snoc hx, hy, h2, hd_short h3 h4, cA, cB⟩
  · subst e1
    subst e2
    exact ⟨a, A' ++ [x ++ [s]], b, B' ++ [y ++ [s]], h1.hd, h1.tl.snoc hx, h2.hd, h2.tl.snoc hy, e3, cA, cB⟩
theorem isI_of {gs : List (List Nat)} {m : Nat} {x r : List Nat} (h : isG gs m (x ++ r)) (hr : r ≠ []) : isI gs m x := ⟨x ++ r, h, x.length, by rw [List.length_append]; have := List.length_pos_iff.mpr hr; omega, (List.take_left).symm⟩
theorem Rc_II {gs : List (List Nat)} {m s : Nat} {p x y : List Nat} (h : RcT gs m p x y ∨ RcT gs m p y x) (hn : x ≠ y) (hx : isI gs m (x ++ [s])) (hy : isI gs m (y ++ [s])) : RcT gs m (p ++ [s]) (x ++ [s]) (y ++ [s]) ∨ RcT gs m (p ++ [s]) (y ++ [s]) (x ++ [s]) :=
  h.elim (fun r => Or.inl (r.go (Or.inr ⟨hn, Or.inl ⟨hx, hy, rfl, rfl⟩⟩))) (fun r => Or.inr (r.go (Or.inr ⟨hn.symm, Or.inl ⟨hy, hx, rfl, rfl⟩⟩)))
theorem Rc_IG {gs : List (List Nat)} {m s : Nat} {p x y : List Nat} (h : RcT gs m p x y ∨ RcT gs m p y x) (hn : x ≠ y) (hx : isI gs m (x ++ [s])) (hy : isG gs m (y ++ [s])) : RcT gs m (p ++ [s]) (x ++ [s]) [] :=
  h.elim (fun r => r.go (Or.inr ⟨hn, Or.inr (Or.inl ⟨hx, hy, rfl, rfl⟩)⟩)) (fun r => r.go (Or.inr ⟨hn.symm, Or.inr (Or.inr ⟨hy, hx, rfl, rfl⟩)⟩))
theorem Rc_GG {gs : List (List Nat)} {m s : Nat} {p x y : List Nat} (h : RcT gs m p x y ∨ RcT gs m p y x) (hn : x ≠ y) (hx : isG gs m (x ++ [s])) (hy : isG gs m (y ++ [s])) : CLw gs m (p ++ [s]) :=
  h.elim (fun r => ⟨p, s, x, y, r, ⟨hn, hx, hy⟩, rfl⟩) (fun r => ⟨p, s, y, x, r, ⟨hn.symm, hy, hx⟩, rfl⟩)
theorem cl_go {gs : List (List Nat)} {m : Nat} (ho : okg gs m) : ∀ (n : Nat) (p x xr : List Nat) (A : List (List Nat)) (y yr : List Nat) (B : List (List Nat)), xr.length + A.flatten.length ≤ n → xr ≠ [] → yr ≠ [] → isG gs m (x ++ xr) → rdG gs m A → isG gs m (y ++ yr) → rdG gs m B → x ≠ y → (RcT gs m p x y ∨ RcT gs m p y x) → xr ++ A.flatten = yr ++ B.flatten → ∃ p' z, p ++ (xr ++ A.flatten) = p' ++ z ∧ CLw gs m p' := by
  intro n
  induction n with
  | zero =>
    intro p x xr A y yr B hn hx
    have := List.length_pos_iff.mpr hx
    omega
  | succ n ih =>
    intro p x xr A y yr B hn hx hy gx hA gy hB hne hr he
    cases xr with
    | nil => exact absurd rfl hx
    | cons s xr =>
      cases yr with
      | nil => exact absurd rfl hy
      | cons s' yr =>
        obtain ⟨e0, e1⟩ := List.cons.inj he
        subst e0
        have e1 : xr ++ A.flatten = yr ++ B.flatten := e1
        rw [List.length_cons] at hn
        have ax : x ++ s :: xr = (x ++ [s]) ++ xr := by rw [List.append_assoc]; rfl
        have ay : y ++ s :: yr = (y ++ [s]) ++ yr := by rw [List.append_assoc]; rfl
        have ap : ∀ r, p ++ (s :: xr ++ r) = (p ++ [s]) ++ (xr ++ r) := fun r => by rw [List.append_assoc]; rfl
        rw [ap]
        rw [ax] at gx
        rw [ay] at gy
        cases xr with
        | nil =>
          rw [List.append_nil] at gx
          cases yr with
          | nil =>
            rw [List.append_nil] at gy
            exact ⟨p ++ [s], _, rfl, Rc_GG hr hne gx gy⟩
          | cons v yr =>
            have iy := isI_of gy (fun z => by cases z)
            cases A with
            | nil => cases e1
            | cons g A =>
              have eg : g ++ A.flatten = (v :: yr) ++ B.flatten := e1
              have el : ((g :: A).flatten).length = g.length + A.flatten.length := List.length_append
              exact ih (p ++ [s]) [] g A (y ++ [s]) (v :: yr) B (by omega) (isG.ne ho hA.hd) (fun z => by cases z) hA.hd hA.tl gy hB ne_snoc.symm (Or.inr (Rc_IG hr.symm hne.symm iy gx)) eg
        | cons v xr =>
          have ix := isI_of gx (fun z => by cases z)
          cases yr with
          | nil =>
            rw [List.append_nil] at gy
            cases B with
            | nil => cases e1
            | cons g B =>
              have eg : (v :: xr) ++ A.flatten = g ++ B.flatten := e1
              exact ih (p ++ [s]) (x ++ [s]) (v :: xr) A [] g B (by omega) (fun z => by cases z) (isG.ne ho hB.hd) gx hA hB.hd hB.tl ne_snoc (Or.inl (Rc_IG hr hne ix gy)) eg
          | cons u yr =>
            have iy := isI_of gy (fun z => by cases z)
            exact ih (p ++ [s]) (x ++ [s]) (v :: xr) A (y ++ [s]) (u :: yr) B (by omega) (fun z => by cases z) (fun z => by cases z) gx hA gy hB (fun q => hne (List.append_cancel_right q)) (Rc_II hr hne ix iy) e1
theorem cl_st {gs : List (List Nat)} {m : Nat} (ho : okg gs m) : ∀ (n : Nat) (p xr yr : List Nat) (A B : List (List Nat)), xr.length ≤ n → xr ≠ [] → yr ≠ [] → isG gs m (p ++ xr) → isG gs m (p ++ yr) → xr ≠ yr → rdG gs m A → rdG gs m B → xr ++ A.flatten = yr ++ B.flatten → RcT gs m p p p → ∃ p' z, p ++ (xr ++ A.flatten) = p' ++ z ∧ CLw gs m p' := by
  intro n
  induction n with
  | zero =>
    intro p xr yr A B hn hx
    have := List.length_pos_iff.mpr hx
    omega
  | succ n ih =>
    intro p xr yr A B hn hx hy gx gy hne hA hB he hr
    cases xr with
    | nil => exact absurd rfl hx
    | cons s xr =>
      cases yr with
      | nil => exact absurd rfl hy
      | cons s' yr =>
        obtain ⟨e0, e1⟩ := List.cons.inj he
        subst e0
        have e1 : xr ++ A.flatten = yr ++ B.flatten := e1
        rw [List.length_cons] at hn
        have ax : p ++ s :: xr = (p ++ [s]) ++ xr := by rw [List.append_assoc]; rfl
        have ay : p ++ s :: yr = (p ++ [s]) ++ yr := by rw [List.append_assoc]; rfl
        have ap : ∀ r, p ++ (s :: xr ++ r) = (p ++ [s]) ++ (xr ++ r) := fun r => by rw [List.append_assoc]; rfl
        rw [ap]
        rw [ax] at gx
        rw [ay] at gy
        cases xr with
        | nil =>
          rw [List.append_nil] at gx
          cases yr with
          | nil => exact absurd rfl hne
          | cons v yr =>
            have iy := isI_of gy (fun z => by cases z)
            cases A with
            | nil => cases e1
            | cons g A =>
              have eg : g ++ A.flatten = (v :: yr) ++ B.flatten := e1
              exact cl_go ho _ (p ++ [s]) [] g A (p ++ [s]) (v :: yr) B (Nat.le_refl _) (isG.ne ho hA.hd) (fun z => by cases z) hA.hd hA.tl gy hB ne_snoc.symm (Or.inr (hr.go (Or.inl ⟨rfl, iy, rfl, Or.inr ⟨gx, rfl⟩⟩))) eg
        | cons v xr =>
          have ix := isI_of gx (fun z => by cases z)
          cases yr with
          | nil =>
            rw [List.append_nil] at gy
            cases B with
            | nil => cases e1
            | cons g B =>
              have eg : (v :: xr) ++ A.flatten = g ++ B.flatten := e1
              exact cl_go ho _ (p ++ [s]) (p ++ [s]) (v :: xr) A [] g B (Nat.le_refl _) (fun z => by cases z) (isG.ne ho hB.hd) gx hA hB.hd hB.tl ne_snoc (Or.inl (hr.go (Or.inl ⟨rfl, ix, rfl, Or.inr ⟨gy, rfl⟩⟩))) eg
          | cons u yr =>
            exact ih (p ++ [s]) (v :: xr) (u :: yr) A B (by omega) (fun z => by cases z) (fun z => by cases z) gx gy (fun q => hne (by rw [q])) hA hB e1 (hr.go (Or.inl ⟨rfl, ix, rfl, Or.inl rfl⟩))
theorem Twn.cl {gs : List (List Nat)} {m : Nat} {w : List Nat} (ho : okg gs m) (h : Twn gs m w) : ∃ w' z, w = w' ++ z ∧ CLw gs m w' := by
  obtain ⟨a, A, b, B, h1, h2, h3, h4, h5, h6, h7⟩ := h
  obtain ⟨p', z, r1, r2⟩ := cl_st ho _ [] a b A B (Nat.le_refl _) (isG.ne ho h1) (isG.ne ho h3) h1 h3 h5 h2 h4 (h6.symm.trans h7) ⟨0, rfl, rfl, rfl⟩
  exact ⟨p', z, h6.trans r1, r2⟩
theorem lst_cl {gs : List (List Nat)} {m : Nat} {o : Option (List Nat)} (ho : okg gs m) (h : lst (CLw gs m) o) : lst (Twn gs m) o := lst_twn (fun _ hw => hw.twn) (fun _ hw => hw.cl ho) h
