/-! tails, round by round, on the reference's side: ends in their order; a row of rounds -/
theorem pw_get {α : Type} {R : α → α → Prop} : ∀ {l : List α} {i j : Nat} {x y : α}, l.Pairwise R → l[i]? = some x → l[j]? = some y → i < j → R x y
  | [], i, j, x, y, _, hi, _, _ => by
    rw [List.getElem?_nil] at hi
    cases hi
  | a :: l, 0, 0, x, y, _, _, _, h => absurd h (by omega)
  | a :: l, i + 1, 0, x, y, _, _, _, h => absurd h (by omega)
  | a :: l, 0, j + 1, x, y, h, hi, hj, _ => by
    have e : a = x := Option.some.inj hi
    rw [← e]
    exact (List.pairwise_cons.mp h).1 y (List.mem_of_getElem? (i := j) hj)
  | a :: l, i + 1, j + 1, x, y, h, hi, hj, hij => pw_get (l := l) (i := i) (j := j) (List.pairwise_cons.mp h).2 hi hj (by omega)
theorem rwE_okr {gs : List (List Nat)} {m : Nat} (ho : okg gs m) (e : Nat × Nat) : okr (rwE gs e) := by
  unfold rwE
  by_cases z : e.1 < gs.length
  · exact (ho.at (gS z)).1.drop _
  · rw [List.getD_eq_getElem?_getD, List.getElem?_eq_none (by omega)]
    show okr (([] : List Nat).drop e.2)
    rw [List.drop_nil]
    exact ⟨fun x hx => (by cases hx), Nat.zero_le _⟩
theorem insE_srt {gs : List (List Nat)} {m : Nat} {e : Nat × Nat} (ho : okg gs m) : ∀ E, (E.map (rwE gs)).Pairwise (fun a b => kyl a < kyl b) → ((insE gs E e).map (rwE gs)).Pairwise (fun a b => kyl a < kyl b)
  | [], _ => List.pairwise_cons.mpr ⟨fun x hx => (by cases hx), List.Pairwise.nil⟩
  | f :: E, h => by
    obtain ⟨h1, h2⟩ := List.pairwise_cons.mp h
    unfold insE
    by_cases z : kyl (rwE gs f) < kyl (rwE gs e)
    · rw [if_pos z]
      refine List.pairwise_cons.mpr ⟨fun x hx => ?_, insE_srt ho E h2⟩
      obtain ⟨y, y1, y2⟩ := List.mem_map.mp hx
      rcases insE_in E y1 with w | w
      · rw [← y2, w]
        exact z
      · rw [← y2]
        exact h1 _ (List.mem_map.mpr ⟨y, w, rfl⟩)
    · rw [if_neg z]
      by_cases y : rwE gs e = rwE gs f
      · rw [if_pos y]
        exact h
      · rw [if_neg y]
        have lt : kyl (rwE gs e) < kyl (rwE gs f) := by
          have : ¬ kyl (rwE gs e) = kyl (rwE gs f) := fun w => y (kyl_inj (rwE_okr ho e) (rwE_okr ho f) w)
          omega
        refine List.pairwise_cons.mpr ⟨fun x hx => ?_, h⟩
        rcases List.mem_cons.mp hx with w | w
        · rw [w]
          exact lt
        · exact Nat.lt_trans lt (h1 x w)
theorem leI_srt {gs : List (List Nat)} {m g : Nat} (ho : okg gs m) : ∀ (e i : Nat) (E : List (Nat × Nat)), (E.map (rwE gs)).Pairwise (fun a b => kyl a < kyl b) → ((leI gs g e i E).map (rwE gs)).Pairwise (fun a b => kyl a < kyl b)
  | 0, _, _, h => h
  | e + 1, i, E, h => leI_srt ho e (i + 1) _ (insE_srt ho E h)
theorem leG_srt {gs : List (List Nat)} {m : Nat} (ho : okg gs m) : ∀ (e g : Nat) (E : List (Nat × Nat)), (E.map (rwE gs)).Pairwise (fun a b => kyl a < kyl b) → ((leG gs m e g E).map (rwE gs)).Pairwise (fun a b => kyl a < kyl b)
  | 0, _, _, h => h
  | e + 1, g, E, h => by
    show ((leG gs m e (g + 1) (if inm m g then _ else E)).map (rwE gs)).Pairwise _
    by_cases z : inm m g
    · rw [if_pos z]
      exact leG_srt ho e (g + 1) _ (leI_srt ho _ _ _ h)
    · rw [if_neg z]
      exact leG_srt ho e (g + 1) _ h
theorem ENs_srt {gs : List (List Nat)} {m : Nat} (ho : okg gs m) : ((ENs gs m).map (rwE gs)).Pairwise (fun a b => kyl a < kyl b) := leG_srt ho gs.length 0 [] List.Pairwise.nil
theorem ENs_inj {gs : List (List Nat)} {m t u : Nat} {e f : Nat × Nat} (ho : okg gs m) (ht : (ENs gs m)[t]? = some e) (hu : (ENs gs m)[u]? = some f) (h : rwE gs e = rwE gs f) : t = u := by
  have s := ENs_srt ho
  have et : ((ENs gs m).map (rwE gs))[t]? = some (rwE gs e) := by rw [List.getElem?_map, ht]; rfl
  have eu : ((ENs gs m).map (rwE gs))[u]? = some (rwE gs f) := by rw [List.getElem?_map, hu]; rfl
  rcases (show t < u ∨ t = u ∨ u < t by omega) with z | z | z
  · have : kyl (rwE gs e) < kyl (rwE gs f) := pw_get (R := fun a b => kyl a < kyl b) s et eu z
    rw [h] at this
    omega
  · exact z
  · have : kyl (rwE gs f) < kyl (rwE gs e) := pw_get (R := fun a b => kyl a < kyl b) s eu et z
    rw [h] at this
    omega
theorem ENs_in {gs : List (List Nat)} {m : Nat} : InE m (ENs gs m) := leG_in gs.length 0 [] (fun e he => (by cases he))
/-- what goes on from a round -/
def GoR (tl : Nat → Nat → Int32) (r N : Nat) (P : Nat → Nat → Prop) (s s' : List Nat × Int32) : Prop := s'.1.length = s.1.length ∧ (∀ u, u < N → (s.1.getD u 0 ≠ 0 → s'.1.getD u 0 = s.1.getD u 0) ∧ (s.1.getD u 0 = 0 → (s'.1.getD u 0 = r + 1 ∧ ∃ t g, P t g ∧ tl t g = nI u) ∨ (s'.1.getD u 0 = 0 ∧ ∀ t g, P t g → ¬ tl t g = nI u))) ∧ (¬ s.2 < 0 → s'.2 = s.2) ∧ (s.2 < 0 → (s'.2 = nI r ∧ ∃ t g, P t g ∧ tl t g = -2) ∨ (s'.2 = s.2 ∧ ∀ t g, P t g → ¬ tl t g = -2))
theorem GoR.up {tl : Nat → Nat → Int32} {r N : Nat} {P P' : Nat → Nat → Prop} {s s' : List Nat × Int32} (h : GoR tl r N P s s') (hp : ∀ t g, P t g ↔ P' t g) : GoR tl r N P' s s' := by
  have e : P = P' := funext (fun t => funext (fun g => propext (hp t g)))
  rw [← e]
  exact h
theorem getD_set {l : List Nat} {i u v : Nat} (hi : i < l.length) : (l.set i v).getD u 0 = if i = u then v else l.getD u 0 := by
  rw [List.getD_eq_getElem?_getD, List.getElem?_set]
  by_cases z : i = u
  · rw [if_pos z, if_pos hi, if_pos z]
    rfl
  · rw [if_neg z, if_neg z, ← List.getD_eq_getElem?_getD]
theorem nI_lt0 {n : Nat} (h : n < 2 ^ 31) : ¬ nI n < 0 := nI_pos h
theorem goR_step {tl : Nat → Nat → Int32} {r N t g : Nat} {P : Nat → Nat → Prop} {s0 s : List Nat × Int32} (hN : N ≤ 100) (hl : s0.1.length = N) (hr : r < 1000) (ho : okL N (tl t g)) (h : GoR tl r N P s0 s) : GoR tl r N (fun a b => P a b ∨ (a = t ∧ b = g)) s0 (goS tl r t g s) := by
  obtain ⟨h0, h1, h2, h3⟩ := h
  refine ⟨goS_len.trans h0, fun u hu => ?_, fun z => ?_, fun z => ?_⟩
  · obtain ⟨a1, a2⟩ := h1 u hu
    -- what one step does to the row
    have st : (tl t g = nI u ∧ s.1.getD u 0 = 0 ∧ (goS tl r t g s).1.getD u 0 = r + 1) ∨ (¬ (tl t g = nI u ∧ s.1.getD u 0 = 0) ∧ (goS tl r t g s).1.getD u 0 = s.1.getD u 0) := by
      unfold goS
      by_cases c : ¬ tl t g < 0 ∧ s.1.getD (tl t g).toNatClampNeg 0 = 0
      · have c' := c
        rw [if_pos c]
        rcases ho with w | w | ⟨v, v1, v2⟩
        · exact absurd (by rw [w]; decide) c.1
        · exact absurd (by rw [w]; decide) c.1
        · rw [v2, nI_clamp (by omega)] at c' ⊢
          rw [getD_set (by omega)]
          by_cases y : v = u
          · subst y
            rw [if_pos rfl]
            exact Or.inl ⟨rfl, c'.2, rfl⟩
          · rw [if_neg y]
            exact Or.inr ⟨fun x => y ((nI_eq (by omega) (by omega)).mp x.1), rfl⟩
      · rw [if_neg c]
        refine Or.inr ⟨fun x => c ?_, rfl⟩
        rw [x.1, nI_clamp (by omega)]
        exact ⟨nI_lt0 (by omega), x.2⟩
    refine ⟨fun z => ?_, fun z => ?_⟩
    · have e := a1 z
      rcases st with w | w
      · rw [e] at w
        exact absurd w.2.1 z
      · exact w.2.trans e
    · rcases a2 z with ⟨b1, t', g', b2, b3⟩ | ⟨b1, b2⟩
      · rcases st with w | w
        · omega
        · exact Or.inl ⟨w.2.trans b1, t', g', Or.inl b2, b3⟩
      · rcases st with w | w
        · exact Or.inl ⟨w.2.2, t, g, Or.inr ⟨rfl, rfl⟩, w.1⟩
        · refine Or.inr ⟨w.2.trans b1, fun t' g' hp => ?_⟩
          rcases hp with hp | ⟨hp1, hp2⟩
          · exact b2 t' g' hp
          · rw [hp1, hp2]
            exact fun x => w.1 ⟨x, b1⟩
  · have e := h2 z
    show (if tl t g = -2 ∧ s.2 < 0 then _ else s.2) = s0.2
    rw [if_neg (fun y => z (by rw [← e]; exact y.2))]
    exact e
  · rcases h3 z with ⟨b1, t', g', b2, b3⟩ | ⟨b1, b2⟩
    · refine Or.inl ⟨?_, t', g', Or.inl b2, b3⟩
      show (if tl t g = -2 ∧ s.2 < 0 then _ else s.2) = _
      rw [if_neg (fun y => nI_lt0 (n := r) (by omega) (by rw [← b1]; exact y.2))]
      exact b1
    · by_cases y : tl t g = -2
      · refine Or.inl ⟨?_, t, g, Or.inr ⟨rfl, rfl⟩, y⟩
        show (if tl t g = -2 ∧ s.2 < 0 then _ else s.2) = _
        rw [if_pos ⟨y, by rw [b1]; exact z⟩]
      · refine Or.inr ⟨?_, fun t' g' hp => ?_⟩
        · show (if tl t g = -2 ∧ s.2 < 0 then _ else s.2) = _
          rw [if_neg (fun x => y x.1)]
          exact b1
        · rcases hp with hp | ⟨hp1, hp2⟩
          · exact b2 t' g' hp
          · rw [hp1, hp2]
            exact y
theorem goG_R {tl : Nat → Nat → Int32} {r N n t : Nat} {s0 : List Nat × Int32} (hN : N ≤ 100) (hl : s0.1.length = N) (hr : r < 1000) (hr0 : 0 < r) (ht : t < N) (ho : ∀ g, g < n → okL N (tl t g)) : ∀ (e g : Nat) (P : Nat → Nat → Prop) (s : List Nat × Int32), g + e = n → GoR tl r N P s0 s → s0.1.getD t 0 = r → GoR tl r N (fun a b => P a b ∨ (a = t ∧ g ≤ b ∧ b < n)) s0 (goG tl r t e g s)
  | 0, g, P, s, hg, h, _ => h.up (fun a b => ⟨Or.inl, fun z => z.elim id (fun y => by omega)⟩)
  | e + 1, g, P, s, hg, h, h0 => by
    have e1 : s.1.getD t 0 = r := ((h.2.1 t ht).1 (by omega)).trans h0
    unfold goG
    rw [if_pos e1]
    have := goG_R hN hl hr hr0 ht ho e (g + 1) _ _ (by omega) (goR_step hN hl hr (ho g (by omega)) h) h0
    refine this.up (fun a b => ⟨fun z => ?_, fun z => ?_⟩)
    · rcases z with (z | z) | z
      · exact Or.inl z
      · exact Or.inr ⟨z.1, by omega, by omega⟩
      · exact Or.inr ⟨z.1, by omega, z.2.2⟩
    · rcases z with z | z
      · exact Or.inl (Or.inl z)
      · by_cases y : b = g
        · exact Or.inl (Or.inr ⟨z.1, y⟩)
        · exact Or.inr ⟨z.1, by omega, z.2.2⟩
theorem goT_R {tl : Nat → Nat → Int32} {r N n : Nat} {s0 : List Nat × Int32} (hN : N ≤ 100) (hl : s0.1.length = N) (hr : r < 1000) (hr0 : 0 < r) (ho : ∀ t g, t < N → g < n → okL N (tl t g)) : ∀ (e t : Nat) (P : Nat → Nat → Prop) (s : List Nat × Int32), t + e = N → GoR tl r N P s0 s → GoR tl r N (fun a b => P a b ∨ (s0.1.getD a 0 = r ∧ t ≤ a ∧ a < N ∧ b < n)) s0 (goT tl r n e t s)
  | 0, t, P, s, ht, h => h.up (fun a b => ⟨Or.inl, fun z => z.elim id (fun y => by omega)⟩)
  | e + 1, t, P, s, ht, h => by
    show GoR tl r N _ s0 (goT tl r n e (t + 1) (goG tl r t n 0 s))
    by_cases z : s0.1.getD t 0 = r
    · have h1 := goG_R hN hl hr hr0 (t := t) (by omega) (fun g hg => ho t g (by omega) hg) n 0 P s (by omega) h z
      refine (goT_R hN hl hr hr0 ho e (t + 1) _ _ (by omega) h1).up (fun a b => ⟨fun y => ?_, fun y => ?_⟩)
      · rcases y with (y | y) | y
        · exact Or.inl y
        · exact Or.inr ⟨by rw [y.1]; exact z, by omega, by omega, y.2.2⟩
        · exact Or.inr ⟨y.1, by omega, y.2.2⟩
      · rcases y with y | y
        · exact Or.inl (Or.inl y)
        · by_cases w : a = t
          · exact Or.inl (Or.inr ⟨w, Nat.zero_le _, y.2.2.2⟩)
          · exact Or.inr ⟨y.1, by omega, y.2.2⟩
    · have h1 : goG tl r t n 0 s = s := by
        have ne : ¬ s.1.getD t 0 = r := fun y => by
          obtain ⟨a1, a2⟩ := h.2.1 t (by omega)
          by_cases w : s0.1.getD t 0 = 0
          · rcases a2 w with q | q <;> omega
          · exact z ((a1 w).symm.trans y)
        cases n with
        | zero => rfl
        | succ n =>
          unfold goG
          rw [if_neg ne]
      rw [h1]
      refine (goT_R hN hl hr hr0 ho e (t + 1) P s (by omega) h).up (fun a b => ⟨fun y => ?_, fun y => ?_⟩)
      · rcases y with y | y
        · exact Or.inl y
        · exact Or.inr ⟨y.1, by omega, y.2.2⟩
      · rcases y with y | y
        · exact Or.inl y
        · by_cases w : a = t
          · rw [w] at y
            exact absurd y.1 z
          · exact Or.inr ⟨y.1, by omega, y.2.2⟩
/-- what is left of the t-th end and a group -/
def tlS (gs : List (List Nat)) (m t g : Nat) (v : Int32) : Prop := (¬ inm m g → v = -1) ∧ (inm m g → ∀ e l, (ENs gs m)[t]? = some e → gs[g]? = some l → (l = rwE gs e ∧ v = -2) ∨ (∃ u f, (ENs gs m)[u]? = some f ∧ rwE gs f ≠ [] ∧ (rwE gs e = l ++ rwE gs f ∨ l = rwE gs e ++ rwE gs f) ∧ v = nI u) ∨ (v = -1 ∧ ¬ l = (rwE gs e).take l.length ∧ ¬ rwE gs e = l.take (rwE gs e).length))
/-- behind so many rounds -/
def RelM (gs : List (List Nat)) (m q : Nat) (s : List Nat × Int32) : Prop := s.1.length = (ENs gs m).length ∧ (∀ t e, (ENs gs m)[t]? = some e → ∀ j, s.1.getD t 0 = j + 1 ↔ (j ≤ q ∧ (RSd gs m j).2 (rwE gs e))) ∧ ∃ db, dbT gs m q db ∧ s.2 = (match db with | none => -1 | some y => nI y.1) ∧ (∀ y, db = some y → y.1 < 1000)
theorem relM_step {gs : List (List Nat)} {m q : Nat} {tl : Nat → Nat → Int32} {s : List Nat × Int32} (ho : okg gs m) (hq : q < 99) (htl : ∀ t g, t < (ENs gs m).length → g < gs.length → okL (ENs gs m).length (tl t g) ∧ tlS gs m t g (tl t g)) (h : RelM gs m q s) : RelM gs m (q + 1) (goT tl (q + 1) gs.length (ENs gs m).length 0 s) := by
  obtain ⟨h0, h1, db, d1, d2, d3⟩ := h
  have N84 := ENs_len ho
  have G := goT_R (tl := tl) (r := q + 1) (N := (ENs gs m).length) (n := gs.length) (s0 := s) (by omega) h0 (by omega) (by omega) (fun t g a b => (htl t g a b).1) (ENs gs m).length 0 (fun _ _ => False) s (by omega) ⟨rfl, fun u hu => ⟨fun _ => rfl, fun z => Or.inr ⟨z, fun t g y => absurd y id⟩⟩, fun _ => rfl, fun _ => Or.inr ⟨rfl, fun t g y => absurd y id⟩⟩
  obtain ⟨g0, g1, g2, g3⟩ := G
  -- where the round's rows stand
  have at_ : ∀ x, (RSd gs m q).2 x → ∃ t e, (ENs gs m)[t]? = some e ∧ t < (ENs gs m).length ∧ rwE gs e = x ∧ s.1.getD t 0 = q + 1 := fun x hx => by
    obtain ⟨e, e1, e2⟩ := ENs_has (RSd_E ho q x (Or.inr hx))
    obtain ⟨t, ht⟩ := List.mem_iff_getElem?.mp e1
    exact ⟨t, e, ht, (List.getElem?_eq_some_iff.mp ht).1, e2, (h1 t e ht q).mpr ⟨Nat.le_refl _, by rw [e2]; exact hx⟩⟩
  have get : ∀ t, t < (ENs gs m).length → ∃ e, (ENs gs m)[t]? = some e := fun t ht => ⟨_, List.getElem?_eq_getElem ht⟩
  refine ⟨g0.trans h0, fun t e ht j => ?_, ?_⟩
  · have tl' := (List.getElem?_eq_some_iff.mp ht).1
    obtain ⟨a1, a2⟩ := g1 t tl'
    by_cases z : s.1.getD t 0 = 0
    · have no : ∀ j, j ≤ q → ¬ (RSd gs m j).2 (rwE gs e) := fun j hj hx => by
        have := (h1 t e ht j).mpr ⟨hj, hx⟩
        omega
      -- the row comes in the next round if it is hit
      have hit : (∃ a b, (False ∨ s.1.getD a 0 = q + 1 ∧ 0 ≤ a ∧ a < (ENs gs m).length ∧ b < gs.length) ∧ tl a b = nI t) ↔ (RSd gs m (q + 1)).2 (rwE gs e) := by
        constructor
        · rintro ⟨a, b, y, w⟩
          rcases y with y | ⟨y1, _, y2, y3⟩
          · exact absurd y id
          obtain ⟨e', he'⟩ := get a y2
          have rs := ((h1 a e' he' q).mp y1).2
          refine ⟨⟨_, rs, ?_⟩, fun v => ?_, no q (Nat.le_refl _)⟩
          · obtain ⟨t1, t2⟩ := (htl a b y2 y3).2
            by_cases ib : inm m b
            · rcases t2 ib e' _ he' (gS y3) with v | ⟨u, f, v1, v2, v3, v4⟩ | v
              · rw [v.2] at w
                exact absurd w.symm (by intro q1; have := nI_lt0 (n := t) (by omega); rw [q1] at this; exact this (by decide))
              · rw [w, nI_eq (by omega) (by have := (List.getElem?_eq_some_iff.mp v1).1; omega)] at v4
                subst v4
                rw [ht] at v1
                have : e = f := Option.some.inj v1
                subst this
                exact ⟨v2, _, ⟨b, gS y3, ib⟩, v3.symm⟩
              · rw [v.1] at w
                exact absurd w.symm (by intro q1; have := nI_lt0 (n := t) (by omega); rw [q1] at this; exact this (by decide))
            · rw [t1 ib] at w
              exact absurd w.symm (by intro q1; have := nI_lt0 (n := t) (by omega); rw [q1] at this; exact this (by decide))
          · obtain ⟨j', j1, j2⟩ := (RSd_1 q).mp v
            exact no j' (by omega) j2
        · rintro ⟨⟨x, x1, x0, l, ⟨b, b1, b2⟩, x2⟩, _, _⟩
          obtain ⟨a, e', w1, w2, w3, w4⟩ := at_ x x1
          have bl := gL b1
          refine ⟨a, b, Or.inr ⟨w4, Nat.zero_le _, w2, bl⟩, ?_⟩
          obtain ⟨_, t2⟩ := (htl a b w2 bl).2
          have nx0 : 0 < (rwE gs e).length := List.length_pos_iff.mpr x0
          have len2 := x2.imp (congrArg List.length) (congrArg List.length)
          rw [List.length_append, List.length_append] at len2
          rcases t2 b2 e' l w1 b1 with v | ⟨u, f, v1, v2, v3, v4⟩ | v
          · have := congrArg List.length v.1
            rw [w3] at this
            omega
          · rw [w3] at v3
            have f0 : 0 < (rwE gs f).length := List.length_pos_iff.mpr v2
            have same : rwE gs f = rwE gs e := by
              rcases x2 with p | p <;> rcases v3 with p' | p'
              · have q1 := congrArg List.length p
                have q2 := congrArg List.length p'
                rw [List.length_append] at q1 q2
                omega
              · rw [p] at p'
                exact (List.append_cancel_left p').symm
              · rw [p] at p'
                exact (List.append_cancel_left p').symm
              · have q1 := congrArg List.length p
                have q2 := congrArg List.length p'
                rw [List.length_append] at q1 q2
                omega
            rw [v4, ENs_inj ho v1 ht same]
          · rw [w3] at v
            rcases x2 with p | p
            · exact absurd (by rw [p, List.take_left]) v.2.2
            · exact absurd (by rw [p, List.take_left]) v.2.1
      rcases a2 z with ⟨b1, b2⟩ | ⟨b1, b2⟩
      · have hx := hit.mp b2
        rw [b1]
        refine ⟨fun y => ?_, fun ⟨y1, y2⟩ => ?_⟩
        · have : j = q + 1 := by omega
          rw [this]
          exact ⟨Nat.le_refl _, hx⟩
        · have := RSd_dis hx y2
          omega
      · rw [b1]
        refine ⟨fun y => by omega, fun ⟨y1, y2⟩ => ?_⟩
        by_cases w : j = q + 1
        · rw [w] at y2
          obtain ⟨a, b, c, d⟩ := hit.mpr y2
          exact absurd d (b2 a b c)
        · exact absurd y2 (no j (by omega))
    · rw [a1 z, h1 t e ht j]
      refine ⟨fun ⟨y1, y2⟩ => ⟨by omega, y2⟩, fun ⟨y1, y2⟩ => ⟨?_, y2⟩⟩
      obtain ⟨j', hj'⟩ : ∃ j', s.1.getD t 0 = j' + 1 := ⟨s.1.getD t 0 - 1, by omega⟩
      obtain ⟨k1, k2⟩ := (h1 t e ht j').mp hj'
      have := RSd_dis k2 y2
      omega
  · -- doubt
    have hit : (∃ a b, (False ∨ s.1.getD a 0 = q + 1 ∧ 0 ≤ a ∧ a < (ENs gs m).length ∧ b < gs.length) ∧ tl a b = -2) ↔ ∃ x, (RSd gs m q).2 x ∧ isG gs m x := by
      constructor
      · rintro ⟨a, b, y, w⟩
        rcases y with y | ⟨y1, _, y2, y3⟩
        · exact absurd y id
        obtain ⟨e', he'⟩ := get a y2
        refine ⟨rwE gs e', ((h1 a e' he' q).mp y1).2, ?_⟩
        obtain ⟨t1, t2⟩ := (htl a b y2 y3).2
        by_cases ib : inm m b
        · rcases t2 ib e' _ he' (gS y3) with v | ⟨u, f, v1, v2, v3, v4⟩ | v
          · exact ⟨b, by rw [gS y3, v.1], ib⟩
          · rw [w] at v4
            exact absurd v4.symm (by intro q1; have := nI_lt0 (n := u) (by have := (List.getElem?_eq_some_iff.mp v1).1; omega); rw [q1] at this; exact this (by decide))
          · rw [v.1] at w
            exact absurd w (by decide)
        · rw [t1 ib] at w
          exact absurd w (by decide)
      · rintro ⟨x, x1, b, b1, b2⟩
        obtain ⟨a, e', w1, w2, w3, w4⟩ := at_ x x1
        have bl := gL b1
        refine ⟨a, b, Or.inr ⟨w4, Nat.zero_le _, w2, bl⟩, ?_⟩
        obtain ⟨_, t2⟩ := (htl a b w2 bl).2
        rcases t2 b2 e' x w1 b1 with v | ⟨u, f, v1, v2, v3, v4⟩ | v
        · exact v.2
        · have f0 : 0 < (rwE gs f).length := List.length_pos_iff.mpr v2
          rw [w3] at v3
          rcases v3 with p | p
          all_goals
            have q1 := congrArg List.length p
            rw [List.length_append] at q1
            omega
        · rw [w3] at v
          exact absurd (List.take_length).symm v.2.1
    cases db with
    | none =>
      have s2 : s.2 = -1 := d2
      have neg : s.2 < 0 := by rw [s2]; decide
      rcases g3 neg with ⟨b1, b2⟩ | ⟨b1, b2⟩
      · refine ⟨some (q + 1, 0), ⟨by show 1 ≤ q + 1; omega, Nat.le_refl _, hit.mp b2, fun j x hj hx => d1 j x (by have : j + 1 < q + 1 := hj; omega) hx⟩, b1, fun y hy => ?_⟩
        have : (q + 1, 0) = y := Option.some.inj hy
        rw [← this]
        show q + 1 < 1000
        omega
      · refine ⟨none, fun j x hj hx hg => ?_, b1.trans s2, fun y hy => (by cases hy)⟩
        by_cases w : j = q
        · rw [w] at hx
          obtain ⟨a, b, c, d⟩ := hit.mpr ⟨x, hx, hg⟩
          exact b2 a b c d
        · exact d1 j x (by omega) hx hg
    | some y =>
      have s2 : s.2 = nI y.1 := d2
      have y9 := d3 y rfl
      have neg : ¬ s.2 < 0 := by
        rw [s2]
        exact nI_lt0 (by omega)
      exact ⟨some y, ⟨d1.1, by have := d1.2.1; omega, d1.2.2.1, d1.2.2.2⟩, (g2 neg).trans s2, d3⟩
