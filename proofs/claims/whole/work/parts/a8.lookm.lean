/-! how far one must look ahead: passes over the tails till none moves -/
def upF (f : List Nat → Nat) (r : List Nat) (v : Nat) : List Nat → Nat := fun x => if x = r then v else f x
def rsO (l r : List Nat) : Option (List Nat) := if r = l.take r.length ∧ r.length < l.length then some (l.drop r.length) else if l = r.take l.length ∧ l.length < r.length then some (r.drop l.length) else none
def lkV (gs : List (List Nat)) (m : Nat) (r : List Nat) (k : Nat) (f : List Nat → Nat) : Nat := if inm m k then cpl (gs.getD k []) r + (rsO (gs.getD k []) r).elim 0 f else 0
def lkS (gs : List (List Nat)) (m : Nat) (r : List Nat) (k : Nat) (s : (List Nat → Nat) × Bool) : (List Nat → Nat) × Bool := if s.1 r < lkV gs m r k s.1 then (upF s.1 r (lkV gs m r k s.1), true) else s
def lkK (gs : List (List Nat)) (m : Nat) (r : List Nat) : Nat → Nat → (List Nat → Nat) × Bool → (List Nat → Nat) × Bool
  | 0, _, s => s
  | e + 1, k, s => lkK gs m r e (k + 1) (lkS gs m r k s)
def lkT (gs : List (List Nat)) (m : Nat) : List (List Nat) → (List Nat → Nat) × Bool → (List Nat → Nat) × Bool
  | [], s => s
  | r :: L, s => lkT gs m L (lkK gs m r gs.length 0 s)
def lkP (gs : List (List Nat)) (m : Nat) (L : List (List Nat)) : Nat → (List Nat → Nat) × Bool → (List Nat → Nat) × Bool
  | 0, s => s
  | p + 1, s => if s.2 = false then s else lkP gs m L p (lkT gs m L (s.1, false))
def DvR (gs : List (List Nat)) (m : Nat) (r : List Nat) : Prop := ∃ j, (RSd gs m j).2 r
def PreF (gs : List (List Nat)) (m : Nat) (V : List Nat → Nat) : Prop := ∀ r, DvR gs m r → ∀ k, k < gs.length → lkV gs m r k V ≤ V r
theorem DvR_nx {gs : List (List Nat)} {m : Nat} {r s : List Nat} (hr : DvR gs m r) (h : nxR gs m r s) : DvR gs m s := by
  obtain ⟨j, hj⟩ := hr
  by_cases h1 : (RSd gs m j).1 s
  · obtain ⟨i, _, hi⟩ := (RSd_1 j).mp h1
    exact ⟨i, hi⟩
  · by_cases h2 : (RSd gs m j).2 s
    · exact ⟨j, h2⟩
    · exact ⟨j + 1, ⟨r, hj, h⟩, h1, h2⟩
theorem DvR_E {gs : List (List Nat)} {m : Nat} {r : List Nat} (ho : okg gs m) (h : DvR gs m r) : isE gs m r := by
  obtain ⟨j, hj⟩ := h
  exact RSd_E ho j r (Or.inr hj)
theorem rsO_c {l r s : List Nat} (h : rsO l r = some s) : s ≠ [] ∧ ((l = r ++ s ∧ cpl l r = r.length) ∨ (r = l ++ s ∧ cpl l r = l.length)) := by
  unfold rsO at h
  by_cases z : r = l.take r.length ∧ r.length < l.length
  · rw [if_pos z] at h
    have e : l.drop r.length = s := Option.some.inj h
    refine ⟨fun y => ?_, Or.inl ⟨by rw [← e]; exact tak_app z.1, by rw [cpl_comm]; exact (cpl_len r l).mpr z.1⟩⟩
    have := congrArg List.length e
    rw [y, List.length_drop] at this
    have h0 : ([] : List Nat).length = 0 := rfl
    omega
  · rw [if_neg z] at h
    by_cases y : l = r.take l.length ∧ l.length < r.length
    · rw [if_pos y] at h
      have e : r.drop l.length = s := Option.some.inj h
      refine ⟨fun w => ?_, Or.inr ⟨by rw [← e]; exact tak_app y.1, (cpl_len l r).mpr y.1⟩⟩
      have := congrArg List.length e
      rw [w, List.length_drop] at this
      have h0 : ([] : List Nat).length = 0 := rfl
      omega
    · rw [if_neg y] at h
      cases h
theorem rsO_nx {gs : List (List Nat)} {m k : Nat} {r s : List Nat} (hk : k < gs.length) (hin : inm m k) (h : rsO (gs.getD k []) r = some s) : nxR gs m r s := by
  obtain ⟨h0, h1⟩ := rsO_c h
  exact ⟨h0, _, ⟨k, gS hk, hin⟩, h1.imp And.left And.left⟩
theorem lkV_mono {gs : List (List Nat)} {m k : Nat} {r : List Nat} {f V : List Nat → Nat} (hk : k < gs.length) (hr : DvR gs m r) (h : ∀ s, DvR gs m s → f s ≤ V s) : lkV gs m r k f ≤ lkV gs m r k V := by
  unfold lkV
  by_cases z : inm m k
  · rw [if_pos z, if_pos z]
    cases e : rsO (gs.getD k []) r with
    | none => exact Nat.le_refl _
    | some s => exact Nat.add_le_add_left (h s (DvR_nx hr (rsO_nx hk z e))) _
  · rw [if_neg z, if_neg z]
    exact Nat.le_refl _
theorem lkS_V {gs : List (List Nat)} {m k : Nat} {r : List Nat} {V : List Nat → Nat} {s : (List Nat → Nat) × Bool} (hV : PreF gs m V) (hk : k < gs.length) (hr : DvR gs m r) (h : ∀ x, DvR gs m x → s.1 x ≤ V x) : ∀ x, DvR gs m x → (lkS gs m r k s).1 x ≤ V x := by
  intro x hx
  unfold lkS
  by_cases z : s.1 r < lkV gs m r k s.1
  · rw [if_pos z]
    show upF s.1 r _ x ≤ _
    unfold upF
    by_cases y : x = r
    · rw [if_pos y, y]
      exact Nat.le_trans (lkV_mono hk hr h) (hV r hr k hk)
    · rw [if_neg y]
      exact h x hx
  · rw [if_neg z]
    exact h x hx
theorem lkK_V {gs : List (List Nat)} {m : Nat} {r : List Nat} {V : List Nat → Nat} (hV : PreF gs m V) (hr : DvR gs m r) : ∀ (e k : Nat) (s : (List Nat → Nat) × Bool), k + e ≤ gs.length → (∀ x, DvR gs m x → s.1 x ≤ V x) → ∀ x, DvR gs m x → (lkK gs m r e k s).1 x ≤ V x
  | 0, _, _, _, h => h
  | e + 1, k, s, hk, h => lkK_V hV hr e (k + 1) _ (by omega) (lkS_V hV (by omega) hr h)
theorem lkT_V {gs : List (List Nat)} {m : Nat} {V : List Nat → Nat} (hV : PreF gs m V) : ∀ (L : List (List Nat)) (s : (List Nat → Nat) × Bool), (∀ r ∈ L, DvR gs m r) → (∀ x, DvR gs m x → s.1 x ≤ V x) → ∀ x, DvR gs m x → (lkT gs m L s).1 x ≤ V x
  | [], _, _, h => h
  | r :: L, s, hL, h => lkT_V hV L _ (fun x hx => hL x (List.mem_cons_of_mem _ hx)) (lkK_V hV (hL r (List.mem_cons_self ..)) gs.length 0 s (by omega) h)
/-- a pass that doesn't move leaves all as it was -/
theorem lkS_f {gs : List (List Nat)} {m k : Nat} {r : List Nat} {s : (List Nat → Nat) × Bool} (h : (lkS gs m r k s).2 = false) : lkS gs m r k s = s ∧ lkV gs m r k s.1 ≤ s.1 r := by
  unfold lkS at h ⊢
  by_cases z : s.1 r < lkV gs m r k s.1
  · rw [if_pos z] at h
    cases h
  · rw [if_neg z]
    exact ⟨rfl, by omega⟩
theorem lkK_f {gs : List (List Nat)} {m : Nat} {r : List Nat} : ∀ (e k : Nat) (s : (List Nat → Nat) × Bool), (lkK gs m r e k s).2 = false → lkK gs m r e k s = s ∧ ∀ j, k ≤ j → j < k + e → lkV gs m r j s.1 ≤ s.1 r
  | 0, _, _, _ => ⟨rfl, fun j a b => by omega⟩
  | e + 1, k, s, h => by
    obtain ⟨h1, h2⟩ := lkK_f e (k + 1) _ h
    have h3 : (lkS gs m r k s).2 = false := by
      have : (lkK gs m r (e + 1) k s) = lkS gs m r k s := h1
      rw [this] at h
      exact h
    obtain ⟨h4, h5⟩ := lkS_f h3
    rw [h4] at h1 h2
    refine ⟨?_, fun j a b => ?_⟩
    · show lkK gs m r e (k + 1) (lkS gs m r k s) = s
      rw [h4]
      exact h1
    · by_cases y : j = k
      · rw [y]
        exact h5
      · exact h2 j (by omega) (by omega)
theorem lkT_f {gs : List (List Nat)} {m : Nat} : ∀ (L : List (List Nat)) (s : (List Nat → Nat) × Bool), (lkT gs m L s).2 = false → lkT gs m L s = s ∧ ∀ r ∈ L, ∀ k, k < gs.length → lkV gs m r k s.1 ≤ s.1 r
  | [], _, _ => ⟨rfl, fun r hr => (by cases hr)⟩
  | r :: L, s, h => by
    obtain ⟨h1, h2⟩ := lkT_f L _ h
    have h3 : (lkK gs m r gs.length 0 s).2 = false := by
      have : (lkT gs m (r :: L) s) = lkK gs m r gs.length 0 s := h1
      rw [this] at h
      exact h
    obtain ⟨h4, h5⟩ := lkK_f _ _ _ h3
    rw [h4] at h1 h2
    refine ⟨?_, fun x hx k hk => ?_⟩
    · show lkT gs m L (lkK gs m r gs.length 0 s) = s
      rw [h4]
      exact h1
    · rcases List.mem_cons.mp hx with y | y
      · rw [y]
        exact h5 k (Nat.zero_le _) (by omega)
      · exact h2 x y k hk
theorem lkS_n {gs : List (List Nat)} {m k : Nat} {r : List Nat} {s : (List Nat → Nat) × Bool} (h : lkV gs m r k s.1 ≤ s.1 r) : lkS gs m r k s = s := by
  unfold lkS
  rw [if_neg (by omega)]
theorem lkK_n {gs : List (List Nat)} {m : Nat} {r : List Nat} : ∀ (e k : Nat) (s : (List Nat → Nat) × Bool), k + e ≤ gs.length → (∀ j, j < gs.length → lkV gs m r j s.1 ≤ s.1 r) → lkK gs m r e k s = s
  | 0, _, _, _, _ => rfl
  | e + 1, k, s, hk, h => by
    show lkK gs m r e (k + 1) (lkS gs m r k s) = s
    rw [lkS_n (h k (by omega))]
    exact lkK_n e (k + 1) s (by omega) h
theorem lkT_n {gs : List (List Nat)} {m : Nat} : ∀ (L : List (List Nat)) (s : (List Nat → Nat) × Bool), (∀ r ∈ L, ∀ j, j < gs.length → lkV gs m r j s.1 ≤ s.1 r) → lkT gs m L s = s
  | [], _, _ => rfl
  | r :: L, s, h => by
    show lkT gs m L (lkK gs m r gs.length 0 s) = s
    rw [lkK_n gs.length 0 s (by omega) (h r (List.mem_cons_self ..))]
    exact lkT_n L s (fun x hx => h x (List.mem_cons_of_mem _ hx))
/-- how many rows lie below one -/
def hgt (L : List (List Nat)) (V : List Nat → Nat) (r : List Nat) : Nat := (L.filter (fun s => decide (V s < V r))).length
theorem hgt_lt {V : List Nat → Nat} {r s : List Nat} (h : V s < V r) : ∀ (L : List (List Nat)), s ∈ L → hgt L V s < hgt L V r := by
  have mono : ∀ L : List (List Nat), hgt L V s ≤ hgt L V r := by
    intro L
    induction L with
    | nil => exact Nat.le_refl _
    | cons x L ih =>
      unfold hgt at ih ⊢
      rw [List.filter_cons, List.filter_cons]
      by_cases z : V x < V s
      · rw [if_pos (decide_eq_true z), if_pos (decide_eq_true (Nat.lt_trans z h))]
        exact Nat.succ_le_succ ih
      · rw [if_neg (fun w => z (of_decide_eq_true w))]
        by_cases y : V x < V r
        · rw [if_pos (decide_eq_true y)]
          exact Nat.le_succ_of_le ih
        · rw [if_neg (fun w => y (of_decide_eq_true w))]
          exact ih
  intro L
  induction L with
  | nil => exact fun h => (by cases h)
  | cons x L ih =>
    intro hs
    unfold hgt at ih mono ⊢
    rw [List.filter_cons, List.filter_cons]
    rcases List.mem_cons.mp hs with y | y
    · subst y
      rw [if_neg (fun w => Nat.lt_irrefl _ (of_decide_eq_true w)), if_pos (decide_eq_true h)]
      exact Nat.lt_succ_of_le (mono L)
    · have i := ih y
      by_cases z : V x < V s
      · rw [if_pos (decide_eq_true z), if_pos (decide_eq_true (Nat.lt_trans z h))]
        exact Nat.succ_lt_succ i
      · rw [if_neg (fun w => z (of_decide_eq_true w))]
        by_cases v : V x < V r
        · rw [if_pos (decide_eq_true v)]
          exact Nat.lt_succ_of_lt i
        · rw [if_neg (fun w => v (of_decide_eq_true w))]
          exact i
theorem hgt_len {V : List Nat → Nat} {r : List Nat} : ∀ {L : List (List Nat)}, r ∈ L → hgt L V r < L.length := by
  intro L h
  have : ∀ (L : List (List Nat)), hgt L V r ≤ L.length := fun L => List.length_filter_le _ _
  induction L with
  | nil => cases h
  | cons x L ih =>
    unfold hgt at ih this ⊢
    rw [List.filter_cons, List.length_cons]
    rcases List.mem_cons.mp h with y | y
    · subst y
      rw [if_neg (fun w => Nat.lt_irrefl _ (of_decide_eq_true w))]
      exact Nat.lt_succ_of_le (this L)
    · have i := ih y
      by_cases v : V x < V r
      · rw [if_pos (decide_eq_true v)]
        exact Nat.succ_lt_succ i
      · rw [if_neg (fun w => v (of_decide_eq_true w))]
        exact Nat.lt_succ_of_lt i
def CovL (gs : List (List Nat)) (m : Nat) (L : List (List Nat)) : Prop := ∀ r, r ∈ L ↔ DvR gs m r
theorem edge_lt {gs : List (List Nat)} {m k : Nat} {V : List Nat → Nat} {L : List (List Nat)} {r s : List Nat} (ho : okg gs m) (hV : PreF gs m V) (hL : CovL gs m L) (hr : r ∈ L) (hk : k < gs.length) (hin : inm m k) (h : rsO (gs.getD k []) r = some s) : hgt L V s < hgt L V r := by
  have dr := (hL r).mp hr
  have ds := DvR_nx dr (rsO_nx hk hin h)
  refine hgt_lt ?_ L ((hL s).mpr ds)
  have p := hV r dr k hk
  unfold lkV at p
  rw [if_pos hin, h] at p
  have c : 0 < cpl (gs.getD k []) r := by
    obtain ⟨_, h1 | h1⟩ := rsO_c h
    · rw [h1.2]
      exact List.length_pos_iff.mpr (DvR_E ho dr).1
    · rw [h1.2]
      exact (ho.at (gS hk)).2.1
  have p2 : cpl (gs.getD k []) r + V s ≤ V r := p
  omega
def Loc (gs : List (List Nat)) (m : Nat) (L : List (List Nat)) (V : List Nat → Nat) (p : Nat) (f : List Nat → Nat) : Prop := ∀ r ∈ L, hgt L V r < p → ∀ k, k < gs.length → lkV gs m r k f ≤ f r
theorem lkS_c {gs : List (List Nat)} {m k0 p : Nat} {V : List Nat → Nat} {L : List (List Nat)} {r0 : List Nat} {s : (List Nat → Nat) × Bool} (hk0 : k0 < gs.length) (h : Loc gs m L V p s.1) : ∀ x ∈ L, hgt L V x < p → r0 ∈ L → (lkS gs m r0 k0 s).1 x = s.1 x := by
  intro x hx hp h0
  unfold lkS
  by_cases z : s.1 r0 < lkV gs m r0 k0 s.1
  · rw [if_pos z]
    show upF s.1 r0 _ x = _
    unfold upF
    by_cases y : x = r0
    · subst y
      have := h x hx hp k0 hk0
      omega
    · rw [if_neg y]
  · rw [if_neg z]
theorem lkS_m {gs : List (List Nat)} {m k0 : Nat} {r0 : List Nat} {s : (List Nat → Nat) × Bool} : ∀ x, s.1 x ≤ (lkS gs m r0 k0 s).1 x := by
  intro x
  unfold lkS
  by_cases z : s.1 r0 < lkV gs m r0 k0 s.1
  · rw [if_pos z]
    show _ ≤ upF s.1 r0 _ x
    unfold upF
    by_cases y : x = r0
    · rw [if_pos y, y]
      omega
    · rw [if_neg y]
      exact Nat.le_refl _
  · rw [if_neg z]
    exact Nat.le_refl _
theorem lkS_keep {gs : List (List Nat)} {m k0 p : Nat} {V : List Nat → Nat} {L : List (List Nat)} {r0 : List Nat} {s : (List Nat → Nat) × Bool} (ho : okg gs m) (hV : PreF gs m V) (hL : CovL gs m L) (h0 : r0 ∈ L) (hk0 : k0 < gs.length) (h : Loc gs m L V p s.1) : ∀ r ∈ L, hgt L V r ≤ p → ∀ k, k < gs.length → (lkV gs m r k (lkS gs m r0 k0 s).1 = lkV gs m r k s.1) := by
  intro r hr hp k hk
  unfold lkV
  by_cases z : inm m k
  · rw [if_pos z, if_pos z]
    cases e : rsO (gs.getD k []) r with
    | none => rfl
    | some x =>
      have lt := edge_lt ho hV hL hr hk z e
      show _ + (lkS gs m r0 k0 s).1 x = _ + s.1 x
      rw [lkS_c hk0 h x ((hL x).mpr (DvR_nx ((hL r).mp hr) (rsO_nx hk z e))) (by omega) h0]
  · rw [if_neg z, if_neg z]
theorem lkS_loc {gs : List (List Nat)} {m k0 p : Nat} {V : List Nat → Nat} {L : List (List Nat)} {r0 : List Nat} {s : (List Nat → Nat) × Bool} (ho : okg gs m) (hV : PreF gs m V) (hL : CovL gs m L) (h0 : r0 ∈ L) (hk0 : k0 < gs.length) (h : Loc gs m L V p s.1) : Loc gs m L V p (lkS gs m r0 k0 s).1 := fun r hr hp k hk => by
  rw [lkS_keep ho hV hL h0 hk0 h r hr (by omega) k hk]
  exact Nat.le_trans (h r hr hp k hk) (lkS_m r)
theorem lkS_at {gs : List (List Nat)} {m k0 p : Nat} {V : List Nat → Nat} {L : List (List Nat)} {r0 : List Nat} {s : (List Nat → Nat) × Bool} (ho : okg gs m) (hV : PreF gs m V) (hL : CovL gs m L) (h0 : r0 ∈ L) (hk0 : k0 < gs.length) (h : Loc gs m L V p s.1) (hp : hgt L V r0 ≤ p) : lkV gs m r0 k0 (lkS gs m r0 k0 s).1 ≤ (lkS gs m r0 k0 s).1 r0 := by
  rw [lkS_keep ho hV hL h0 hk0 h r0 h0 hp k0 hk0]
  unfold lkS
  by_cases z : s.1 r0 < lkV gs m r0 k0 s.1
  · rw [if_pos z]
    show _ ≤ upF s.1 r0 _ r0
    unfold upF
    rw [if_pos rfl]
    exact Nat.le_refl _
  · rw [if_neg z]
    omega
theorem lkK_loc {gs : List (List Nat)} {m p : Nat} {V : List Nat → Nat} {L : List (List Nat)} {r0 : List Nat} (ho : okg gs m) (hV : PreF gs m V) (hL : CovL gs m L) (h0 : r0 ∈ L) : ∀ (e k : Nat) (s : (List Nat → Nat) × Bool), k + e ≤ gs.length → Loc gs m L V p s.1 → Loc gs m L V p (lkK gs m r0 e k s).1 ∧ (∀ r ∈ L, hgt L V r ≤ p → ∀ j, j < gs.length → lkV gs m r j s.1 ≤ s.1 r → lkV gs m r j (lkK gs m r0 e k s).1 ≤ (lkK gs m r0 e k s).1 r) ∧ (hgt L V r0 ≤ p → ∀ j, k ≤ j → j < k + e → lkV gs m r0 j (lkK gs m r0 e k s).1 ≤ (lkK gs m r0 e k s).1 r0)
  | 0, _, _, _, h => ⟨h, fun r _ _ j _ w => w, fun _ j a b => by omega⟩
  | e + 1, k, s, hk, h => by
    have h1 := lkS_loc ho hV hL h0 (k0 := k) (by omega) h
    obtain ⟨i1, i2, i3⟩ := lkK_loc ho hV hL h0 e (k + 1) _ (by omega) h1
    refine ⟨i1, fun r hr hp j hj w => i2 r hr hp j hj ?_, fun hp j a b => ?_⟩
    · rw [lkS_keep ho hV hL h0 (by omega) h r hr hp j hj]
      exact Nat.le_trans w (lkS_m r)
    · by_cases y : j = k
      · subst y
        exact i2 r0 h0 hp j (by omega) (lkS_at ho hV hL h0 (by omega) h hp)
      · exact i3 hp j (by omega) (by omega)
theorem lkT_loc {gs : List (List Nat)} {m p : Nat} {V : List Nat → Nat} {L : List (List Nat)} (ho : okg gs m) (hV : PreF gs m V) (hL : CovL gs m L) : ∀ (R : List (List Nat)) (s : (List Nat → Nat) × Bool), (∀ r ∈ R, r ∈ L) → Loc gs m L V p s.1 → Loc gs m L V p (lkT gs m R s).1 ∧ (∀ r ∈ L, hgt L V r ≤ p → ∀ j, j < gs.length → lkV gs m r j s.1 ≤ s.1 r → lkV gs m r j (lkT gs m R s).1 ≤ (lkT gs m R s).1 r) ∧ (∀ r ∈ R, hgt L V r ≤ p → ∀ j, j < gs.length → lkV gs m r j (lkT gs m R s).1 ≤ (lkT gs m R s).1 r)
  | [], _, _, h => ⟨h, fun r _ _ j _ w => w, fun r hr => (by cases hr)⟩
  | r0 :: R, s, hR, h => by
    have h0 := hR r0 (List.mem_cons_self ..)
    obtain ⟨k1, k2, k3⟩ := lkK_loc ho hV hL h0 gs.length 0 s (by omega) h
    obtain ⟨i1, i2, i3⟩ := lkT_loc ho hV hL R _ (fun x hx => hR x (List.mem_cons_of_mem _ hx)) k1
    refine ⟨i1, fun r hr hp j hj w => i2 r hr hp j hj (k2 r hr hp j hj w), fun r hr hp j hj => ?_⟩
    rcases List.mem_cons.mp hr with y | y
    · subst y
      exact i2 r h0 hp j hj (k3 hp j (Nat.zero_le _) (by omega))
    · exact i3 r y hp j hj
theorem lkP_stop {gs : List (List Nat)} {m : Nat} {V : List Nat → Nat} {L : List (List Nat)} (ho : okg gs m) (hV : PreF gs m V) (hL : CovL gs m L) : ∀ (P p : Nat) (f : List Nat → Nat), Loc gs m L V p f → L.length + 1 ≤ P + p → 1 ≤ P → (lkP gs m L P (f, true)).2 = false
  | 0, _, _, _, _, h => absurd h (by omega)
  | P + 1, p, f, h, hp, _ => by
    show (if (true : Bool) = false then _ else lkP gs m L P (lkT gs m L (f, false))).2 = false
    rw [if_neg (by decide)]
    obtain ⟨t1, t2, t3⟩ := lkT_loc ho hV hL L (f, false) (fun _ w => w) h
    cases e : (lkT gs m L (f, false)).2 with
    | false =>
      cases P with
      | zero => exact e
      | succ P =>
        have q : lkP gs m L (P + 1) (lkT gs m L (f, false)) = lkT gs m L (f, false) := if_pos e
        rw [q]
        exact e
    | true =>
      have hlt : p < L.length := by
        by_cases z : p < L.length
        · exact z
        · have all : ∀ r ∈ L, ∀ j, j < gs.length → lkV gs m r j (f, false).1 ≤ (f, false).1 r := fun r hr j hj => h r hr (by have := hgt_len (V := V) hr; omega) j hj
          have := lkT_n L (f, false) all
          rw [this] at e
          cases e
      have ep : lkT gs m L (f, false) = ((lkT gs m L (f, false)).1, true) := by
        rw [← e]
      rw [ep]
      exact lkP_stop ho hV hL P (p + 1) _ (fun r hr hp' j hj => t3 r hr (by omega) j hj) (by omega) (by omega)
theorem lkP_res {gs : List (List Nat)} {m : Nat} {L : List (List Nat)} (hL : CovL gs m L) : ∀ (P : Nat) (s : (List Nat → Nat) × Bool), (s.2 = false → PreF gs m s.1) → (∀ V, PreF gs m V → ∀ x, DvR gs m x → s.1 x ≤ V x) → ((lkP gs m L P s).2 = false → PreF gs m (lkP gs m L P s).1) ∧ ∀ V, PreF gs m V → ∀ x, DvR gs m x → (lkP gs m L P s).1 x ≤ V x
  | 0, _, h1, h2 => ⟨h1, h2⟩
  | P + 1, s, h1, h2 => by
    unfold lkP
    by_cases z : s.2 = false
    · rw [if_pos z]
      exact ⟨h1, h2⟩
    · rw [if_neg z]
      refine lkP_res hL P _ (fun y => ?_) (fun V hV => lkT_V hV L _ (fun r hr => (hL r).mp hr) (h2 V hV))
      obtain ⟨a, b⟩ := lkT_f L _ y
      rw [a]
      exact fun r hr k hk => b r ((hL r).mpr hr) k hk
/-- two rows of the same tails come to the same -/
theorem lkP_same {gs : List (List Nat)} {m P P' : Nat} {L L' : List (List Nat)} (ho : okg gs m) (hL : CovL gs m L) (hL' : CovL gs m L') (hP : L.length + 1 ≤ P) (hP' : L'.length + 1 ≤ P') : (lkP gs m L P (fun _ => 0, true)).2 = (lkP gs m L' P' (fun _ => 0, true)).2 ∧ ((lkP gs m L P (fun _ => 0, true)).2 = false → ∀ x, DvR gs m x → (lkP gs m L P (fun _ => 0, true)).1 x = (lkP gs m L' P' (fun _ => 0, true)).1 x) := by
  have r1 := lkP_res hL P (fun _ => 0, true) (fun h => (by cases h)) (fun V _ x _ => Nat.zero_le _)
  have r2 := lkP_res hL' P' (fun _ => 0, true) (fun h => (by cases h)) (fun V _ x _ => Nat.zero_le _)
  have s1 : ∀ V, PreF gs m V → (lkP gs m L P (fun _ => 0, true)).2 = false := fun V hV => lkP_stop ho hV hL P 0 _ (fun r _ h => absurd h (by omega)) (by omega) (by omega)
  have s2 : ∀ V, PreF gs m V → (lkP gs m L' P' (fun _ => 0, true)).2 = false := fun V hV => lkP_stop ho hV hL' P' 0 _ (fun r _ h => absurd h (by omega)) (by omega) (by omega)
  refine ⟨?_, fun h x hx => ?_⟩
  · cases e : (lkP gs m L P (fun _ => 0, true)).2 with
    | false => rw [s2 _ (r1.1 e)]
    | true =>
      cases e' : (lkP gs m L' P' (fun _ => 0, true)).2 with
      | true => rfl
      | false =>
        rw [s1 _ (r2.1 e')] at e
        cases e
  · have p1 := r1.1 h
    have p2 := r2.1 (s2 _ p1)
    exact Nat.le_antisymm (r1.2 _ p2 x hx) (r2.2 _ p1 x hx)
/-- numbers stay small -/
theorem lkV_b {gs : List (List Nat)} {m k B : Nat} {r : List Nat} {f : List Nat → Nat} (ho : okg gs m) (hk : k < gs.length) (h : ∀ x, f x ≤ B) : lkV gs m r k f ≤ B + 7 := by
  unfold lkV
  by_cases z : inm m k
  · rw [if_pos z]
    have c := cpl_le (gs.getD k []) r
    have l7 := ((ho.at (gS hk)).1).2
    cases e : rsO (gs.getD k []) r with
    | none =>
      show _ + 0 ≤ _
      omega
    | some s =>
      have := h s
      show _ + f s ≤ _
      omega
  · rw [if_neg z]
    exact Nat.zero_le _
theorem lkS_b {gs : List (List Nat)} {m k B : Nat} {r : List Nat} {s : (List Nat → Nat) × Bool} (ho : okg gs m) (hk : k < gs.length) (h : ∀ x, s.1 x ≤ B) : ∀ x, (lkS gs m r k s).1 x ≤ B + 7 := by
  intro x
  have := h x
  unfold lkS
  by_cases z : s.1 r < lkV gs m r k s.1
  · rw [if_pos z]
    show upF s.1 r _ x ≤ _
    unfold upF
    by_cases y : x = r
    · rw [if_pos y]
      exact lkV_b ho hk h
    · rw [if_neg y]
      omega
  · rw [if_neg z]
    omega
theorem lkK_b {gs : List (List Nat)} {m : Nat} {r : List Nat} (ho : okg gs m) : ∀ (e k B : Nat) (s : (List Nat → Nat) × Bool), k + e ≤ gs.length → (∀ x, s.1 x ≤ B) → ∀ x, (lkK gs m r e k s).1 x ≤ B + 7 * e
  | 0, _, _, _, _, h => h
  | e + 1, k, B, s, hk, h => fun x => by
    have := lkK_b ho (r := r) e (k + 1) (B + 7) (lkS gs m r k s) (by omega) (lkS_b ho (k := k) (r := r) (by omega) h) x
    show (lkK gs m r e (k + 1) (lkS gs m r k s)).1 x ≤ _
    omega
theorem lkT_b {gs : List (List Nat)} {m : Nat} (ho : okg gs m) : ∀ (L : List (List Nat)) (B : Nat) (s : (List Nat → Nat) × Bool), (∀ x, s.1 x ≤ B) → ∀ x, (lkT gs m L s).1 x ≤ B + 98 * L.length
  | [], _, _, h => h
  | r :: L, B, s, h => fun x => by
    have h14 := ho.1
    have h1 := lkK_b ho (r := r) gs.length 0 B s (by omega) h
    have := lkT_b ho L (B + 98) _ (fun y => Nat.le_trans (h1 y) (by omega)) x
    show (lkT gs m L (lkK gs m r gs.length 0 s)).1 x ≤ _
    rw [List.length_cons]
    omega
