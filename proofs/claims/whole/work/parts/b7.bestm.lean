/-! witness on the reference's side: the best words of tails -/
abbrev BsT := Nat → Option (List Nat)
def bsU (B : BsT) (t : Nat) (w : List Nat) : BsT := fun u => if u = t then some w else B u
theorem bsU_eq (B : BsT) (t : Nat) (w : List Nat) : bsU B t w t = some w := if_pos rfl
theorem bsU_ne (B : BsT) {t u : Nat} (w : List Nat) (h : u ≠ t) : bsU B t w u = B u := if_neg h
def cst : Option (List Nat) → Nat
  | none => 32 ^ 800
  | some w => pkN w
def vlB (B : BsT) : Nat → Nat
  | 0 => 0
  | n + 1 => vlB B n + cst (B n)
theorem vlB_eq {B B' : BsT} : ∀ n, (∀ u, u < n → B' u = B u) → vlB B' n = vlB B n
  | 0, _ => rfl
  | n + 1, h => by
    show vlB B' n + cst (B' n) = vlB B n + cst (B n)
    rw [vlB_eq n (fun u hu => h u (by omega)), h n (Nat.lt_succ_self n)]
theorem vlB_lt {B : BsT} {t : Nat} {w : List Nat} (hw : cst (some w) < cst (B t)) : ∀ n, t < n → vlB (bsU B t w) n < vlB B n
  | 0, h => absurd h (Nat.not_lt_zero _)
  | n + 1, h => by
    show vlB (bsU B t w) n + cst (bsU B t w n) < vlB B n + cst (B n)
    by_cases y : n = t
    · subst y
      rw [vlB_eq (B := B) (B' := bsU B n w) n (fun u hu => bsU_ne B w (by omega)), bsU_eq]
      omega
    · rw [bsU_ne B w y]
      have := vlB_lt hw n (by omega)
      omega
theorem bfr_cst {o : Option (List Nat)} {w : List Nat} (lw : lets w) (h8 : w.length ≤ 800) (h : bfr o w) : cst (some w) < cst o := by
  cases o with
  | some b => exact h
  | none =>
    have h1 := pkN_lt lw.l32
    have h2 : 32 ^ w.length ≤ 32 ^ 800 := Nat.pow_le_pow_right (by omega) h8
    exact Nat.lt_of_lt_of_le h1 h2
theorem nbfr {o : Option (List Nat)} {w : List Nat} (h : ¬ bfr o w) : ∃ v, o = some v ∧ pkN v ≤ pkN w := by
  cases o with
  | none => exact absurd trivial h
  | some b => exact ⟨b, rfl, Nat.le_of_not_lt h⟩
theorem Lb.isl {gs : List (List Nat)} {m : Nat} {t w : List Nat} (ho : okg gs m) (h : Lb gs m t w) : lets w := by
  obtain ⟨a, A, b, B, h1, h2, h3, h4, h5, h6, h7⟩ := h.rows
  rw [h7]
  exact lets.app (isG_ok ho h3).1.1 (rd_lets ho h4)
def lbV (gs : List (List Nat)) (m : Nat) (B : BsT) (t : Nat) (w : List Nat) : Prop := ∃ V : List Nat, V.Nodup ∧ t ∈ V ∧ (∀ s ∈ V, s < (ENs gs m).length ∧ ∃ v, B s = some v ∧ pkN v ≤ pkN w) ∧ w.length ≤ 1 + 6 * V.length
def BOk (gs : List (List Nat)) (m : Nat) (B : BsT) : Prop := ∀ t w, B t = some w → (∃ e, (ENs gs m)[t]? = some e ∧ Lb gs m (rwE gs e) w) ∧ lbV gs m B t w
theorem BOk.len {gs : List (List Nat)} {m t : Nat} {B : BsT} {w : List Nat} (ho : okg gs m) (h : BOk gs m B) (hw : B t = some w) : w.length ≤ 505 := by
  obtain ⟨_, V, v1, _, v3, v4⟩ := h t w hw
  have h1 : V ⊆ List.range (ENs gs m).length := fun s hs => List.mem_range.mpr (v3 s hs).1
  have h2 := v1.length_le_of_subset h1
  rw [List.length_range] at h2
  have := ENs_len (gs := gs) (m := m) ho
  omega
theorem lbV.up {gs : List (List Nat)} {m t u : Nat} {B : BsT} {w w' : List Nat} (hb : bfr (B t) w) (h : lbV gs m B u w') : lbV gs m (bsU B t w) u w' := by
  obtain ⟨V, v1, v2, v3, v4⟩ := h
  refine ⟨V, v1, v2, fun s hs => ?_, v4⟩
  obtain ⟨a, v, b, c⟩ := v3 s hs
  refine ⟨a, ?_⟩
  by_cases y : s = t
  · subst y
    rw [b] at hb
    exact ⟨w, bsU_eq .., Nat.le_trans (Nat.le_of_lt hb) c⟩
  · exact ⟨v, (bsU_ne B w y).trans b, c⟩
theorem BOk.base {gs : List (List Nat)} {m t : Nat} {B : BsT} {w : List Nat} {e : Nat × Nat} (h : BOk gs m B) (ht : (ENs gs m)[t]? = some e) (hl : Lb gs m (rwE gs e) w) (h7 : w.length ≤ 7) (hb : bfr (B t) w) : BOk gs m (bsU B t w) := fun u w' hu => by
  by_cases y : u = t
  · subst y
    rw [bsU_eq] at hu
    cases hu
    refine ⟨⟨e, ht, hl⟩, [u], List.nodup_cons.mpr ⟨fun z => (by cases z), List.nodup_nil⟩, List.mem_singleton.mpr rfl, fun s hs => ?_, h7⟩
    rw [List.mem_singleton.mp hs]
    exact ⟨(List.getElem?_eq_some_iff.mp ht).1, w, bsU_eq .., Nat.le_refl _⟩
  · rw [bsU_ne B w y] at hu
    exact ⟨(h u w' hu).1, (h u w' hu).2.up hb⟩
theorem BOk.step {gs : List (List Nat)} {m t to : Nat} {B : BsT} {w x : List Nat} {f : Nat × Nat} (h : BOk gs m B) (hw : B t = some w) (ht : (ENs gs m)[to]? = some f) (hl : Lb gs m (rwE gs f) (w ++ x)) (h6 : x.length ≤ 6) (hb : bfr (B to) (w ++ x)) : BOk gs m (bsU B to (w ++ x)) := fun u w' hu => by
  by_cases y : u = to
  · subst y
    rw [bsU_eq] at hu
    cases hu
    obtain ⟨V, v1, v2, v3, v4⟩ := (h t w hw).2
    have px := pkN_px w x
    have nin : ¬ u ∈ V := fun z => by
      obtain ⟨_, v, b, c⟩ := v3 u z
      rw [b] at hb
      have hb' : pkN (w ++ x) < pkN v := hb
      omega
    refine ⟨⟨f, ht, hl⟩, u :: V, List.nodup_cons.mpr ⟨nin, v1⟩, List.mem_cons_self .., fun s hs => ?_, by rw [List.length_append, List.length_cons]; omega⟩
    rcases List.mem_cons.mp hs with z | z
    · subst z
      exact ⟨(List.getElem?_eq_some_iff.mp ht).1, _, bsU_eq .., Nat.le_refl _⟩
    · obtain ⟨a, v, b, c⟩ := v3 s z
      have ne : s ≠ u := fun q => nin (by rw [← q]; exact z)
      exact ⟨a, v, (bsU_ne B _ ne).trans b, by omega⟩
  · rw [bsU_ne B _ y] at hu
    exact ⟨(h u w' hu).1, (h u w' hu).2.up hb⟩
def bLe (B B' : BsT) : Prop := ∀ u v, B u = some v → ∃ v', B' u = some v' ∧ pkN v' ≤ pkN v
theorem bLe.rf (B : BsT) : bLe B B := fun _ v h => ⟨v, h, Nat.le_refl _⟩
theorem bLe.up {B : BsT} {t : Nat} {w : List Nat} (h : bfr (B t) w) : bLe B (bsU B t w) := fun u v hu => by
  by_cases y : u = t
  · subst y
    rw [hu] at h
    exact ⟨w, bsU_eq .., Nat.le_of_lt h⟩
  · exact ⟨v, (bsU_ne B w y).trans hu, Nat.le_refl _⟩
/-- a pair of groups is seen to; a tail and a group are -/
def clB (gs : List (List Nat)) (m : Nat) (B : BsT) (a b : Nat) : Prop := ∀ la lb, gs[a]? = some la → gs[b]? = some lb → a ≠ b → inm m a → inm m b → la = lb.take la.length → ∀ t e, (ENs gs m)[t]? = some e → rwE gs e = lb.drop la.length → ∃ v, B t = some v ∧ pkN v ≤ pkN lb
theorem clB.up {gs : List (List Nat)} {m a b : Nat} {B B' : BsT} (hl : bLe B B') (h : clB gs m B a b) : clB gs m B' a b := fun la lb h1 h2 h3 h4 h5 h6 t e h7 h8 => by
  obtain ⟨v, a1, a2⟩ := h la lb h1 h2 h3 h4 h5 h6 t e h7 h8
  obtain ⟨v', b1, b2⟩ := hl t v a1
  exact ⟨v', b1, Nat.le_trans b2 a2⟩
def clT (gs : List (List Nat)) (m : Nat) (B : BsT) (t g : Nat) : Prop := ∀ e l w, (ENs gs m)[t]? = some e → gs[g]? = some l → inm m g → B t = some w → ∀ u f, (ENs gs m)[u]? = some f → rwE gs f ≠ [] → (rwE gs e = l ++ rwE gs f ∨ l = rwE gs e ++ rwE gs f) → ∃ v, B u = some v ∧ pkN v ≤ pkN (w ++ l.drop (min l.length (rwE gs e).length))
theorem pkN_le_app {a b x : List Nat} (h : pkN a ≤ pkN b) : pkN (a ++ x) ≤ pkN (b ++ x) := by
  rw [pkN_app, pkN_app]
  have := Nat.mul_le_mul_right (32 ^ x.length) h
  omega
theorem isE_of {gs : List (List Nat)} {m : Nat} {a t : List Nat} (h : isG gs m (a ++ t)) (ha : 0 < a.length) (ht : t ≠ []) : ∃ (u : Nat) (f : Nat × Nat), (ENs gs m)[u]? = some f ∧ rwE gs f = t := by
  obtain ⟨k, gk, mk⟩ := h
  obtain ⟨f, f1, f2⟩ := ENs_has (gs := gs) (m := m) ⟨ht, k, a ++ t, a.length, gk, mk, ha, List.drop_left.symm⟩
  obtain ⟨u, hu⟩ := List.getElem?_of_mem f1
  exact ⟨u, f, hu, f2⟩
theorem best_all {gs : List (List Nat)} {m : Nat} {B : BsT} (ho : okg gs m) (h1 : ∀ a b, clB gs m B a b) (h2 : ∀ t g, clT gs m B t g) {r w : List Nat} (h : Lb gs m r w) : ∃ (u : Nat) (f : Nat × Nat) (v : List Nat), (ENs gs m)[u]? = some f ∧ rwE gs f = r ∧ B u = some v ∧ pkN v ≤ pkN w := by
  refine Lb.ind (P := fun r w => ∃ (u : Nat) (f : Nat × Nat) (v : List Nat), (ENs gs m)[u]? = some f ∧ rwE gs f = r ∧ B u = some v ∧ pkN v ≤ pkN w) ?_ ?_ ?_ h
  · intro a t ha hb h0
    have a0 := List.length_pos_iff.mpr (ha.ne ho)
    obtain ⟨u, f, hu, hf⟩ := isE_of hb a0 h0
    obtain ⟨ka, ga, ma⟩ := ha
    obtain ⟨kb, gb, mb⟩ := hb
    have nab : ka ≠ kb := fun z => by
      rw [z, gb] at ga
      have := congrArg List.length (Option.some.inj ga)
      rw [List.length_append] at this
      exact h0 (List.eq_nil_of_length_eq_zero (by omega))
    obtain ⟨v, v1, v2⟩ := h1 ka kb a (a ++ t) ga gb nab ma mb (List.take_left).symm u f hu (by rw [hf, List.drop_left])
    exact ⟨u, f, v, hu, hf, v1, v2⟩
  · intro g t w _ ⟨u, f, v, hu, hf, v1, v2⟩ hg h0
    obtain ⟨k, gk, mk⟩ := hg
    have lf : ∃ (u' : Nat) (f' : Nat × Nat), (ENs gs m)[u']? = some f' ∧ rwE gs f' = t := by
      obtain ⟨l, l1, l2, l3, _⟩ : ∃ l, gs[f.1]? = some l ∧ f.2 < l.length ∧ rwE gs f = l.drop f.2 ∧ inm m f.1 := by
        have hI := ENs_in f (List.mem_of_getElem? hu)
        have hr : rwE gs f ≠ [] := by
          rw [hf]
          intro z
          exact h0 (List.append_eq_nil_iff.mp z).2
        unfold rwE at hr
        cases e : gs[f.1]? with
        | none =>
          rw [List.getD_eq_getElem?_getD, e] at hr
          exact absurd (List.drop_nil) hr
        | some l =>
          refine ⟨l, rfl, ?_, by show (gs.getD f.1 []).drop f.2 = _; rw [gD e], hI.1⟩
          rw [gD e] at hr
          by_cases z : f.2 < l.length
          · exact z
          · exact absurd (List.drop_eq_nil_of_le (by omega)) hr
      have hI := ENs_in f (List.mem_of_getElem? hu)
      have et : t = l.drop (f.2 + g.length) := by
        rw [← List.drop_drop, ← l3, hf, List.drop_left]
      obtain ⟨f', f1, f2⟩ := ENs_has (gs := gs) (m := m) ⟨h0, f.1, l, f.2 + g.length, l1, hI.1, by omega, et⟩
      obtain ⟨u', hu'⟩ := List.getElem?_of_mem f1
      exact ⟨u', f', hu', f2⟩
    obtain ⟨u', f', hu', hf'⟩ := lf
    obtain ⟨v', w1, w2⟩ := h2 u k f g v hu gk mk v1 u' f' hu' (by rw [hf']; exact h0) (Or.inl (by rw [hf, hf']))
    have ed : g.drop (min g.length (rwE gs f).length) = [] := by
      rw [hf, List.length_append]
      exact List.drop_eq_nil_of_le (by omega)
    rw [ed, List.append_nil] at w2
    exact ⟨u', f', v', hu', hf', w1, Nat.le_trans w2 v2⟩
  · intro t0 t w0 hl0 ⟨u, f, v, hu, hf, v1, v2⟩ hg h0
    have t00 := List.length_pos_iff.mpr hl0.ne
    obtain ⟨u', f', hu', hf'⟩ := isE_of hg t00 h0
    obtain ⟨k, gk, mk⟩ := hg
    obtain ⟨v', w1, w2⟩ := h2 u k f (t0 ++ t) v hu gk mk v1 u' f' hu' (by rw [hf']; exact h0) (Or.inr (by rw [hf, hf']))
    have ed : (t0 ++ t).drop (min (t0 ++ t).length (rwE gs f).length) = t := by
      rw [hf, List.length_append, Nat.min_eq_right (by omega), List.drop_left]
    rw [ed] at w2
    exact ⟨u', f', v', hu', hf', w1, Nat.le_trans w2 (pkN_le_app v2)⟩
/-- what a step brings is a label -/
theorem step_lb {gs : List (List Nat)} {m g : Nat} {r r' l w : List Nat} (hw : Lb gs m r w) (hg : gs[g]? = some l) (hm : inm m g) (h0 : r' ≠ []) (hc : r = l ++ r' ∨ l = r ++ r') : Lb gs m r' (w ++ l.drop (min l.length r.length)) := by
  rcases hc with e | e
  · have ed : l.drop (min l.length r.length) = [] := by
      rw [e, List.length_append]
      exact List.drop_eq_nil_of_le (by omega)
    rw [ed, List.append_nil]
    rw [e] at hw
    exact hw.down ⟨g, hg, hm⟩ h0
  · have ed : l.drop (min l.length r.length) = r' := by
      rw [e, List.length_append, Nat.min_eq_right (by omega), List.drop_left]
    rw [ed]
    exact hw.fwd ⟨g, by rw [← e]; exact hg, hm⟩ h0
