/-! how many readings: by the first group, by the last one -/
def sm (f : Nat → Nat) : Nat → Nat
  | 0 => 0
  | n + 1 => sm f n + f n
theorem sm_congr {f g : Nat → Nat} : ∀ n, (∀ k, k < n → f k = g k) → sm f n = sm g n
  | 0, _ => rfl
  | n + 1, h => by
    show sm f n + f n = sm g n + g n
    rw [sm_congr n (fun k hk => h k (by omega)), h n (by omega)]
theorem sm_add (f g : Nat → Nat) : ∀ n, sm (fun k => f k + g k) n = sm f n + sm g n
  | 0 => rfl
  | n + 1 => by
    show sm (fun k => f k + g k) n + (f n + g n) = (sm f n + f n) + (sm g n + g n)
    rw [sm_add f g n]
    omega
theorem sm_zero : ∀ n, sm (fun _ => 0) n = 0
  | 0 => rfl
  | n + 1 => by
    show sm (fun _ => 0) n + 0 = 0
    rw [sm_zero n]
theorem sm_swap (f : Nat → Nat → Nat) (b : Nat) : ∀ a, sm (fun i => sm (fun j => f i j) b) a = sm (fun j => sm (fun i => f i j) a) b
  | 0 => (sm_zero b).symm
  | a + 1 => by
    show sm (fun i => sm (fun j => f i j) b) a + sm (fun j => f a j) b = sm (fun j => sm (fun i => f i j) a + f a j) b
    rw [sm_swap f b a, sm_add]
theorem sm_le {f : Nat → Nat} {k : Nat} : ∀ n, k < n → f k ≤ sm f n
  | 0, h => by omega
  | n + 1, h => by
    show f k ≤ sm f n + f n
    by_cases q : k = n
    · subst q
      omega
    · have := sm_le (f := f) (k := k) n (by omega)
      omega
theorem wsum_sm {f : Nat → Nat} {gs : List (List Nat)} {m : Nat} {w : List Nat} {p : Nat} : ∀ n, wsum f gs m w p n = sm (fun k => if ftb gs m w p k = true then f (gs.getD k []).length else 0) n
  | 0 => rfl
  | n + 1 => by
    show wsum f gs m w p n + _ = sm _ n + _
    rw [wsum_sm n]
/-- how many readings a word has -/
def rdc (gs : List (List Nat)) (m : Nat) (w : List Nat) : Nat := wy gs m w 0
theorem rdc_nil (gs : List (List Nat)) (m : Nat) : rdc gs m [] = 1 := wy_end gs m []
theorem wy_drop {gs : List (List Nat)} {m : Nat} (ho : okg gs m) : ∀ (n : Nat) (w : List Nat) (p : Nat), w.length - p ≤ n → p ≤ w.length → wy gs m w p = rdc gs m (w.drop p)
  | n, w, p, hn, hp => by
    by_cases q : p = w.length
    · rw [q, List.drop_length, rdc_nil, wy_end]
    · match n, hn with
      | 0, hn => omega
      | n + 1, hn =>
        unfold rdc
        rw [wy_rec ho (by omega), wy_rec ho (w := w.drop p) (p := 0) (by rw [List.length_drop]; omega), wsum_sm, wsum_sm]
        refine sm_congr _ (fun k hk => ?_)
        have e : ftb gs m (w.drop p) 0 k = ftb gs m w p k := by
          unfold ftb
          rw [List.drop_zero]
        rw [e]
        by_cases z : ftb gs m w p k = true
        · rw [if_pos z, if_pos z]
          have hl := ftb_le (by omega) z
          have gk : gs[k]? = some gs[k] := List.getElem?_eq_getElem hk
          have el : gs.getD k [] = gs[k] := by rw [List.getD_eq_getElem?_getD, gk]; rfl
          obtain ⟨a1, a2, a3⟩ := ho.at gk
          rw [el] at hl ⊢
          rw [wy_drop ho n w (p + gs[k].length) (by omega) hl, wy_drop ho n (w.drop p) (0 + gs[k].length) (by rw [List.length_drop]; omega) (by rw [List.length_drop]; omega), List.drop_drop, Nat.zero_add]
        · rw [if_neg z, if_neg z]
def preB (gs : List (List Nat)) (m : Nat) (w : List Nat) (k : Nat) : Bool := decide (inm m k ∧ (gs.getD k []).length ≤ w.length ∧ gs.getD k [] = w.take (gs.getD k []).length)
def sufB (gs : List (List Nat)) (m : Nat) (w : List Nat) (k : Nat) : Bool := decide (inm m k ∧ (gs.getD k []).length ≤ w.length ∧ gs.getD k [] = w.drop (w.length - (gs.getD k []).length))
def eqB (gs : List (List Nat)) (m : Nat) (w : List Nat) (k : Nat) : Bool := decide (inm m k ∧ gs.getD k [] = w)
def bothB (gs : List (List Nat)) (m : Nat) (w : List Nat) (k j : Nat) : Bool := decide (inm m k ∧ inm m j ∧ (gs.getD k []).length + (gs.getD j []).length ≤ w.length ∧ gs.getD k [] = w.take (gs.getD k []).length ∧ gs.getD j [] = w.drop (w.length - (gs.getD j []).length))
theorem preB_i {gs : List (List Nat)} {m : Nat} {w : List Nat} {k : Nat} : preB gs m w k = true ↔ inm m k ∧ (gs.getD k []).length ≤ w.length ∧ gs.getD k [] = w.take (gs.getD k []).length := decide_eq_true_iff
theorem sufB_i {gs : List (List Nat)} {m : Nat} {w : List Nat} {k : Nat} : sufB gs m w k = true ↔ inm m k ∧ (gs.getD k []).length ≤ w.length ∧ gs.getD k [] = w.drop (w.length - (gs.getD k []).length) := decide_eq_true_iff
theorem eqB_i {gs : List (List Nat)} {m : Nat} {w : List Nat} {k : Nat} : eqB gs m w k = true ↔ inm m k ∧ gs.getD k [] = w := decide_eq_true_iff
theorem bothB_i {gs : List (List Nat)} {m : Nat} {w : List Nat} {k j : Nat} : bothB gs m w k j = true ↔ inm m k ∧ inm m j ∧ (gs.getD k []).length + (gs.getD j []).length ≤ w.length ∧ gs.getD k [] = w.take (gs.getD k []).length ∧ gs.getD j [] = w.drop (w.length - (gs.getD j []).length) := decide_eq_true_iff
theorem ftb_pre {gs : List (List Nat)} {m : Nat} {w : List Nat} {k : Nat} : ftb gs m w 0 k = true ↔ preB gs m w k = true := by
  unfold ftb
  rw [List.drop_zero, Bool.and_eq_true, decide_eq_true_iff, decide_eq_true_iff, cpl_len, preB_i]
  constructor
  · rintro ⟨a, b⟩
    have := congrArg List.length b
    rw [List.length_take] at this
    exact ⟨a, by omega, b⟩
  · rintro ⟨a, _, b⟩
    exact ⟨a, b⟩
theorem rdc_first {gs : List (List Nat)} {m : Nat} {w : List Nat} (ho : okg gs m) (hw : 0 < w.length) : rdc gs m w = sm (fun k => if preB gs m w k = true then rdc gs m (w.drop (gs.getD k []).length) else 0) gs.length := by
  show wy gs m w 0 = _
  rw [wy_rec ho hw, wsum_sm]
  refine sm_congr _ (fun k hk => ?_)
  by_cases z : ftb gs m w 0 k = true
  · have z' := ftb_pre.mp z
    have z2 := (preB_i.mp z').2.1
    rw [if_pos z, if_pos z', wy_drop ho _ w _ (Nat.le_refl _) (by rw [Nat.zero_add]; exact z2), Nat.zero_add]
  · rw [if_neg z, if_neg (fun y => z (ftb_pre.mpr y))]
theorem gl0 {gs : List (List Nat)} {m : Nat} (ho : okg gs m) : ∀ k, k < gs.length → 0 < (gs.getD k []).length := fun k hk => by
  have gk : gs[k]? = some gs[k] := List.getElem?_eq_getElem hk
  have el : gs.getD k [] = gs[k] := by rw [List.getD_eq_getElem?_getD, gk]; rfl
  obtain ⟨a1, a2, a3⟩ := ho.at gk
  rw [el]
  exact a2
theorem rdc_last {gs : List (List Nat)} {m : Nat} (ho : okg gs m) : ∀ (n : Nat) (w : List Nat), w.length ≤ n → 0 < w.length → rdc gs m w = sm (fun j => if sufB gs m w j = true then rdc gs m (w.take (w.length - (gs.getD j []).length)) else 0) gs.length
  | 0, w, hn, hw => by omega
  | n + 1, w, hn, hw => by
    rw [rdc_first ho hw]
    have l0 := gl0 ho
    have hL : ∀ k, k < gs.length → (if preB gs m w k = true then rdc gs m (w.drop (gs.getD k []).length) else 0) = (if eqB gs m w k = true then 1 else 0) + sm (fun j => if bothB gs m w k j = true then rdc gs m ((w.drop (gs.getD k []).length).take (w.length - (gs.getD k []).length - (gs.getD j []).length)) else 0) gs.length := fun k hk => by
      have hk0 := l0 k hk
      by_cases z : preB gs m w k = true
      · rw [if_pos z]
        obtain ⟨z1, z2, z3⟩ := preB_i.mp z
        by_cases y : (gs.getD k []).length = w.length
        · rw [if_pos (eqB_i.mpr ⟨z1, by rw [z3, y, List.take_length]⟩)]
          rw [sm_congr (g := fun _ => 0) _ (fun j hj => by have := l0 j hj; rw [if_neg (fun u => by have := (bothB_i.mp u).2.2.1; omega)]), sm_zero, y, List.drop_length, rdc_nil]
        · rw [if_neg (fun u => y (congrArg List.length (eqB_i.mp u).2)), Nat.zero_add, rdc_last ho n (w.drop (gs.getD k []).length) (by rw [List.length_drop]; omega) (by rw [List.length_drop]; omega)]
          refine sm_congr _ (fun j hj => ?_)
          have hj0 := l0 j hj
          rw [List.length_drop]
          have e : sufB gs m (w.drop (gs.getD k []).length) j = true ↔ bothB gs m w k j = true := by
            rw [sufB_i, bothB_i, List.length_drop, List.drop_drop]
            constructor
            · rintro ⟨a, b, c⟩
              rw [show (gs.getD k []).length + (w.length - (gs.getD k []).length - (gs.getD j []).length) = w.length - (gs.getD j []).length by omega] at c
              exact ⟨z1, a, by omega, z3, c⟩
            · rintro ⟨_, a, b, _, c⟩
              rw [show (gs.getD k []).length + (w.length - (gs.getD k []).length - (gs.getD j []).length) = w.length - (gs.getD j []).length by omega]
              exact ⟨a, by omega, c⟩
          by_cases u : bothB gs m w k j = true
          · rw [if_pos u, if_pos (e.mpr u)]
          · rw [if_neg u, if_neg (fun v => u (e.mp v))]
      · rw [if_neg z, if_neg (fun u => z (by obtain ⟨u1, u2⟩ := eqB_i.mp u; exact preB_i.mpr ⟨u1, by rw [u2]; exact Nat.le_refl _, by rw [u2, List.take_length]⟩)), Nat.zero_add]
        rw [sm_congr (g := fun _ => 0) _ (fun j hj => by rw [if_neg (fun u => z (by obtain ⟨u1, u2, u3, u4, u5⟩ := bothB_i.mp u; exact preB_i.mpr ⟨u1, by omega, u4⟩))]), sm_zero]
    have hR : ∀ j, j < gs.length → (if sufB gs m w j = true then rdc gs m (w.take (w.length - (gs.getD j []).length)) else 0) = (if eqB gs m w j = true then 1 else 0) + sm (fun k => if bothB gs m w k j = true then rdc gs m ((w.drop (gs.getD k []).length).take (w.length - (gs.getD k []).length - (gs.getD j []).length)) else 0) gs.length := fun j hj => by
      have hj0 := l0 j hj
      by_cases z : sufB gs m w j = true
      · rw [if_pos z]
        obtain ⟨z1, z2, z3⟩ := sufB_i.mp z
        by_cases y : (gs.getD j []).length = w.length
        · rw [if_pos (eqB_i.mpr ⟨z1, by rw [z3, y, Nat.sub_self, List.drop_zero]⟩)]
          rw [sm_congr (g := fun _ => 0) _ (fun k hk => by have := l0 k hk; rw [if_neg (fun u => by have := (bothB_i.mp u).2.2.1; omega)]), sm_zero, y, Nat.sub_self, List.take_zero, rdc_nil]
        · rw [if_neg (fun u => y (congrArg List.length (eqB_i.mp u).2)), Nat.zero_add, rdc_first ho (by rw [List.length_take]; omega)]
          refine sm_congr _ (fun k hk => ?_)
          have hk0 := l0 k hk
          have e : preB gs m (w.take (w.length - (gs.getD j []).length)) k = true ↔ bothB gs m w k j = true := by
            rw [preB_i, bothB_i, List.length_take, List.take_take]
            constructor
            · rintro ⟨a, b, c⟩
              rw [show min (gs.getD k []).length (w.length - (gs.getD j []).length) = (gs.getD k []).length by omega] at c
              exact ⟨a, z1, by omega, c, z3⟩
            · rintro ⟨a, _, b, c, _⟩
              rw [show min (gs.getD k []).length (w.length - (gs.getD j []).length) = (gs.getD k []).length by omega]
              exact ⟨a, by omega, c⟩
          by_cases u : bothB gs m w k j = true
          · rw [if_pos u, if_pos (e.mpr u), List.drop_take]
            rw [show w.length - (gs.getD j []).length - (gs.getD k []).length = w.length - (gs.getD k []).length - (gs.getD j []).length by omega]
          · rw [if_neg u, if_neg (fun v => u (e.mp v))]
      · rw [if_neg z, if_neg (fun u => z (by obtain ⟨u1, u2⟩ := eqB_i.mp u; exact sufB_i.mpr ⟨u1, by rw [u2]; exact Nat.le_refl _, by rw [u2, Nat.sub_self, List.drop_zero]⟩)), Nat.zero_add]
        rw [sm_congr (g := fun _ => 0) _ (fun k hk => by rw [if_neg (fun u => z (by obtain ⟨u1, u2, u3, u4, u5⟩ := bothB_i.mp u; exact sufB_i.mpr ⟨u2, by omega, u5⟩))]), sm_zero]
    rw [sm_congr _ hL, sm_congr _ hR, sm_add, sm_add, sm_swap]
/-- one group more never makes readings fewer -/
theorem rdc_app {gs : List (List Nat)} {m j : Nat} {w l : List Nat} (ho : okg gs m) (gj : gs[j]? = some l) (hj : inm m j) : rdc gs m w ≤ rdc gs m (w ++ l) := by
  obtain ⟨a1, a2, a3⟩ := ho.at gj
  have hlt := (List.getElem?_eq_some_iff.mp gj).1
  have el : gs.getD j [] = l := by rw [List.getD_eq_getElem?_getD, gj]; rfl
  rw [rdc_last ho _ (w ++ l) (Nat.le_refl _) (by rw [List.length_append]; omega)]
  refine Nat.le_trans ?_ (sm_le _ hlt)
  have e : sufB gs m (w ++ l) j = true := by
    rw [sufB_i, el, List.length_append, show w.length + l.length - l.length = w.length by omega]
    exact ⟨hj, by omega, (List.drop_left' rfl).symm⟩
  rw [if_pos e, el, List.length_append, show w.length + l.length - l.length = w.length by omega, List.take_left' rfl]
  exact Nat.le_refl _
