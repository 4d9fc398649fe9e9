/-! marks stand at a group's ends, its core has 1 .. 6 letters: so at all times -/
def mke (l : List Nat) : Prop := ∃ a b, l = List.replicate a 27 ++ cor l ++ List.replicate b 27
def okC (gs : List (List Nat)) : Prop := ∀ l ∈ gs, 0 < (cor l).length ∧ (cor l).length ≤ 6 ∧ mke l
def unlD (gs : List (List Nat)) : Prop := unlC gs ∧ okC gs
theorem cor_no {l : List Nat} {x : Nat} (h : x ∈ cor l) : x ≠ 27 := of_decide_eq_true (List.mem_filter.mp h).2
theorem mke_mkl {x : Int32} {l : List Nat} (h0 : 0 < (cor l).length) : mke (mkl x l) ↔ mke l := by
  unfold mke
  rw [cor_mkl]
  unfold mkl
  by_cases e : x = 1
  · rw [if_pos e]
    constructor
    · rintro ⟨a, b, h⟩
      cases a with
      | zero =>
        rw [List.replicate_zero, List.nil_append] at h
        cases hc : cor l with
        | nil => rw [hc] at h0; exact absurd h0 (by decide)
        | cons y r =>
          rw [hc, List.cons_append] at h
          injection h with h1 h2
          exact absurd h1.symm (cor_no (hc ▸ List.mem_cons_self))
      | succ a =>
        rw [List.replicate_succ, List.cons_append, List.cons_append] at h
        injection h with h1 h2
        exact ⟨a, b, h2⟩
    · rintro ⟨a, b, h⟩
      refine ⟨a + 1, b, ?_⟩
      rw [List.replicate_succ, List.cons_append, List.cons_append, ← h]
  · rw [if_neg e]
    constructor
    · rintro ⟨a, b, h⟩
      cases b with
      | zero =>
        rw [List.replicate_zero, List.append_nil] at h
        exfalso
        have hn : cor l ≠ [] := fun q => by rw [q] at h0; exact absurd h0 (by decide)
        have h1 : (l ++ [27]).getLast (by simp) = (List.replicate a 27 ++ cor l).getLast (by simp [hn]) := by
          congr 1
        rw [List.getLast_append_of_ne_nil _ (by simp), List.getLast_append_of_ne_nil _ hn] at h1
        exact cor_no (List.getLast_mem hn) h1.symm
      | succ b =>
        rw [List.replicate_succ', ← List.append_assoc] at h
        exact ⟨a, b, (List.append_inj' h rfl).1⟩
    · rintro ⟨a, b, h⟩
      refine ⟨a, b + 1, ?_⟩
      rw [List.replicate_succ', ← List.append_assoc, ← h]
theorem cor_mkr {x : Int32} {s t : Nat} {l : List Nat} : cor (mkr x s t l) = cor l := by
  unfold mkr
  by_cases q : inm s t ∧ l.length < 7
  · rw [if_pos q, cor_mkl]
  · rw [if_neg q]
theorem mke_mkr {x : Int32} {s t : Nat} {l : List Nat} (h0 : 0 < (cor l).length) : mke (mkr x s t l) ↔ mke l := by
  unfold mkr
  by_cases q : inm s t ∧ l.length < 7
  · rw [if_pos q, mke_mkl h0]
  · rw [if_neg q]
theorem okC_mkg {x : Int32} {s : Nat} {gs : List (List Nat)} : okC (mkg x s gs) ↔ okC gs := by
  constructor
  · intro h l hl
    obtain ⟨t, ht⟩ := List.getElem?_of_mem hl
    have hm : (mkg x s gs)[t]? = some (mkr x s t l) := by
      unfold mkg
      rw [List.getElem?_mapIdx, ht]
      rfl
    have := h _ (List.mem_of_getElem? hm)
    rw [cor_mkr] at this
    exact ⟨this.1, this.2.1, (mke_mkr this.1).mp this.2.2⟩
  · intro h l hl
    obtain ⟨t, ht⟩ := List.getElem?_of_mem hl
    obtain ⟨a, ha, e⟩ := mkg_at ht
    have := h _ (List.mem_of_getElem? ha)
    rw [e, cor_mkr]
    exact ⟨this.1, this.2.1, (mke_mkr this.1).mpr this.2.2⟩
theorem unlD_mkg {x : Int32} {s : Nat} {gs : List (List Nat)} : unlD (mkg x s gs) ↔ unlD gs := and_congr unlC_mkg okC_mkg
theorem unlD.unlk {gs : List (List Nat)} (h : unlD gs) : unlk gs := h.1.unlk
theorem Did.unlD {x : Int32} {s m0 m : Nat} {g0 gs : List (List Nat)} (h : Did x s g0 m0 gs m) : unlD gs ↔ unlD g0 := by
  rcases h with ⟨_, e, _⟩ | ⟨_, e, _⟩
  · rw [e]
  · rw [e, unlD_mkg]
theorem unlD_hlg {x : Int32} {s : Nat} {gs : List (List Nat)} : unlD (hlg x s gs) ↔ unlD gs := by
  unfold hlg
  by_cases y : x = 2
  · rw [if_pos y]
  · rw [if_neg y, unlD_mkg]
