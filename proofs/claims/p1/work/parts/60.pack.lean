/-! rows of letters in one long: five bits a letter -/
theorem nI_mulN (a b : Nat) : nI a * nI b = nI (a * b) := by
  unfold nI
  rw [Int32.ofNat_mul]
theorem lN_u (n : Nat) : (lN n).toUInt64 = UInt64.ofNat n := rfl
theorem lN_of_u (n : Nat) : (UInt64.ofNat n).toInt64 = lN n := rfl
theorem l_ushr {n s : Nat} (hn : n < 2 ^ 63) (hs : s < 64) : ((lN n).toUInt64 >>> ((nI s).toInt64.toUInt64 &&& Int64.toUInt64 63)).toInt64 = lN (n / 2 ^ s) := by
  rw [nI_l (by omega), lN_u, lN_u, ← lN_of_u]
  congr 1
  apply UInt64.toNat_inj.mp
  rw [UInt64.toNat_shiftRight, UInt64.toNat_and, UInt64.toNat_ofNat', UInt64.toNat_ofNat', UInt64.toNat_ofNat']
  have h1 : Int64.toUInt64 63 = 63 := rfl
  rw [h1]
  have h2 : (63 : UInt64).toNat = 2 ^ 6 - 1 := rfl
  rw [h2, Nat.and_two_pow_sub_one_eq_mod, Nat.mod_eq_of_lt (show s < 2 ^ 64 by omega), Nat.mod_eq_of_lt (show s < 2 ^ 6 by omega), Nat.mod_eq_of_lt hs, Nat.mod_eq_of_lt (show n < 2 ^ 64 by omega), Nat.shiftRight_eq_div_pow, Nat.mod_eq_of_lt (Nat.lt_of_le_of_lt (Nat.div_le_self _ _) (by omega))]
theorem l_and {n s : Nat} (hn : n < 2 ^ 63) (hs : s < 63) : lN n &&& lN (2 ^ s - 1) = lN (n % 2 ^ s) := by
  have h2 : 2 ^ s ≤ 2 ^ 63 := Nat.pow_le_pow_right (by decide) (by omega)
  apply Int64.toBitVec_inj.mp
  apply BitVec.eq_of_toNat_eq
  rw [Int64.toBitVec_and, BitVec.toNat_and]
  unfold lN
  rw [Int64.toBitVec_ofNat', Int64.toBitVec_ofNat', Int64.toBitVec_ofNat', BitVec.toNat_ofNat, BitVec.toNat_ofNat, BitVec.toNat_ofNat, Nat.mod_eq_of_lt (show n < 2 ^ 64 by omega), Nat.mod_eq_of_lt (show 2 ^ s - 1 < 2 ^ 64 by omega), Nat.and_two_pow_sub_one_eq_mod, Nat.mod_eq_of_lt (show n % 2 ^ s < 2 ^ 64 from Nat.lt_of_le_of_lt (Nat.mod_le _ _) (by omega))]
theorem smod64 : ∀ s : Nat, s < 64 → ((BitVec.ofNat 64 s).smod 64#64).toNat = s := by decide
theorem l_shl {n s : Nat} (hs : s < 64) : lN n <<< ((nI s).toInt64 &&& 63) = lN (n * 2 ^ s) := by
  rw [nI_l (by omega)]
  apply Int64.toBitVec_inj.mp
  apply BitVec.eq_of_toNat_eq
  rw [Int64.toBitVec_shiftLeft]
  have e : (lN s &&& 63) = lN s := by
    have := l_and (n := s) (s := 6) (by omega) (by decide)
    rw [Nat.mod_eq_of_lt (by omega)] at this
    exact this
  rw [e]
  unfold lN
  rw [Int64.toBitVec_ofNat', Int64.toBitVec_ofNat', Int64.toBitVec_ofNat']
  simp [Nat.shiftLeft_eq]
  rw [smod64 s hs]
theorem lN_inj {a b : Nat} (ha : a < 2 ^ 63) (hb : b < 2 ^ 63) : lN a = lN b ↔ a = b := by
  constructor
  · intro h
    have h1 := congrArg (fun x : Int64 => x.toBitVec.toNat) h
    unfold lN at h1
    simp only [Int64.toBitVec_ofNat', BitVec.toNat_ofNat] at h1
    rw [Nat.mod_eq_of_lt (by omega), Nat.mod_eq_of_lt (by omega)] at h1
    exact h1
  · rintro rfl
    rfl
theorem lg_cmp0 (x y : Int64) : lg_cmp x y = 0 ↔ x = y := by
  constructor
  · intro h
    unfold lg_cmp at h
    split at h
    · exact absurd h (by decide)
    · split at h
      next e => exact e
      · exact absurd h (by decide)
  · rintro rfl
    exact lg_cmp_self x
theorem nI_and31 (n : Nat) : nI n &&& (31 : Int32) = nI (n % 32) := by
  apply Int32.toBitVec_inj.mp
  apply BitVec.eq_of_toNat_eq
  rw [Int32.toBitVec_and, BitVec.toNat_and]
  unfold nI
  rw [Int32.toBitVec_ofNat', Int32.toBitVec_ofNat', BitVec.toNat_ofNat, BitVec.toNat_ofNat]
  have h2 : (31 : Int32).toBitVec.toNat = 2 ^ 5 - 1 := rfl
  rw [h2, Nat.and_two_pow_sub_one_eq_mod]
  omega
/-- the number of a row -/
def pkN (l : List Nat) : Nat := l.foldl (fun a x => 32 * a + x) 0
theorem foldl_pk (l : List Nat) (a : Nat) : l.foldl (fun a x => 32 * a + x) a = a * 32 ^ l.length + pkN l := by
  induction l generalizing a with
  | nil => simp [pkN]
  | cons x l ih =>
    unfold pkN
    rw [List.foldl_cons, List.foldl_cons, ih, ih (32 * 0 + x), List.length_cons, Nat.pow_succ]
    simp only [Nat.mul_zero, Nat.zero_add, Nat.add_mul]
    rw [Nat.add_assoc, show 32 * a * 32 ^ l.length = a * (32 ^ l.length * 32) by rw [Nat.mul_comm (32 ^ l.length) 32, ← Nat.mul_assoc, Nat.mul_comm a 32]]
theorem pkN_app (l m : List Nat) : pkN (l ++ m) = pkN l * 32 ^ m.length + pkN m := by
  unfold pkN
  rw [List.foldl_append, foldl_pk]
  rfl
theorem pkN_nil : pkN [] = 0 := rfl
theorem pkN_one (x : Nat) : pkN [x] = x := by simp [pkN]
theorem pkN_lt {l : List Nat} (h : ∀ x ∈ l, x < 32) : pkN l < 32 ^ l.length := by
  induction l with
  | nil => simp [pkN]
  | cons x l ih =>
    have e := pkN_app [x] l
    rw [List.singleton_append, pkN_one] at e
    rw [e, List.length_cons, Nat.pow_succ]
    have h1 := ih (fun y hy => h y (List.mem_cons_of_mem _ hy))
    have h2 := h x List.mem_cons_self
    have h3 : x * 32 ^ l.length + 32 ^ l.length ≤ 32 ^ l.length * 32 := by
      rw [← Nat.succ_mul, Nat.mul_comm]
      exact Nat.mul_le_mul_left _ h2
    omega
theorem pkN_split (l : List Nat) (k : Nat) : pkN l = pkN (l.take k) * 32 ^ (l.drop k).length + pkN (l.drop k) := by
  rw [← pkN_app, List.take_append_drop]
theorem pkN_div {l : List Nat} (h : ∀ x ∈ l, x < 32) (k : Nat) : pkN l / 32 ^ (l.length - k) = pkN (l.take k) := by
  have e := pkN_split l k
  have hd : (l.drop k).length = l.length - k := List.length_drop
  have h1 := pkN_lt (l := l.drop k) (fun x hx => h x (List.mem_of_mem_drop hx))
  rw [hd] at e h1
  rw [e, Nat.add_comm, Nat.add_mul_div_right _ _ (Nat.pow_pos (by decide)), Nat.div_eq_of_lt h1, Nat.zero_add]
theorem pkN_mod {l : List Nat} (h : ∀ x ∈ l, x < 32) (k : Nat) : pkN l % 32 ^ (l.length - k) = pkN (l.drop k) := by
  have e := pkN_split l k
  have hd : (l.drop k).length = l.length - k := List.length_drop
  have h1 := pkN_lt (l := l.drop k) (fun x hx => h x (List.mem_of_mem_drop hx))
  rw [hd] at e h1
  rw [e, Nat.add_comm, Nat.add_mul_mod_self_right, Nat.mod_eq_of_lt h1]
theorem pkN_snoc (l : List Nat) (x : Nat) : pkN (l ++ [x]) = 32 * pkN l + x := by
  rw [pkN_app, pkN_one, Nat.mul_comm]
  rfl
theorem nil_or_snoc (m : List Nat) : m = [] ∨ ∃ l x, m = l ++ [x] := by
  rcases List.eq_nil_or_concat m with h | ⟨l, x, h⟩
  · exact Or.inl h
  · exact Or.inr ⟨l, x, by rw [h, List.concat_eq_append]⟩
theorem pkN_inj : ∀ (n : Nat) {l m : List Nat}, l.length ≤ n → (∀ x ∈ l, 0 < x ∧ x < 32) → (∀ x ∈ m, 0 < x ∧ x < 32) → pkN l = pkN m → l = m := by
  have nil : ∀ m : List Nat, (∀ x ∈ m, 0 < x ∧ x < 32) → 0 = pkN m → m = [] := by
    intro m hm h
    rcases nil_or_snoc m with rfl | ⟨m', y, rfl⟩
    · rfl
    · rw [pkN_snoc] at h
      have := (hm y (by simp)).1
      omega
  intro n
  induction n with
  | zero =>
    intro l m hl h1 h2 h
    have e : l = [] := List.length_eq_zero_iff.mp (by omega)
    subst e
    exact (nil m h2 h).symm
  | succ n ih =>
    intro l m hl h1 h2 h
    rcases nil_or_snoc l with rfl | ⟨l', x, rfl⟩
    · exact (nil m h2 h).symm
    · rcases nil_or_snoc m with rfl | ⟨m', y, rfl⟩
      · exact nil _ h1 h.symm
      · rw [pkN_snoc, pkN_snoc] at h
        have hx := h1 x (by simp)
        have hy := h2 y (by simp)
        have e1 : x = y := by omega
        have e2 : pkN l' = pkN m' := by omega
        rw [List.length_append] at hl
        have := ih (l := l') (m := m') (by simp at hl; omega) (fun z hz => h1 z (by simp [hz])) (fun z hz => h2 z (by simp [hz])) e2
        rw [this, e1]
theorem pkN_nth {l : List Nat} (h : ∀ x ∈ l, x < 32) {i x : Nat} (hi : l[i]? = some x) : pkN l / 32 ^ (l.length - 1 - i) % 32 = x := by
  have hl := (List.getElem?_eq_some_iff.mp hi).1
  have e := pkN_div h (i + 1)
  rw [show l.length - (i + 1) = l.length - 1 - i by omega] at e
  rw [e]
  have e2 : l.take (i + 1) = l.take i ++ [x] := by
    rw [List.take_succ, hi]
    rfl
  rw [e2, pkN_snoc]
  have := h x (List.mem_of_getElem? hi)
  omega
/-- rows that groups, tails and words are made of -/
def okr (l : List Nat) : Prop := (∀ x ∈ l, 0 < x ∧ x < 28) ∧ l.length ≤ 7
theorem okr.lt {l : List Nat} (h : okr l) : ∀ x ∈ l, x < 32 := fun x hx => by have := (h.1 x hx).2; omega
theorem okr.in32 {l : List Nat} (h : okr l) : ∀ x ∈ l, 0 < x ∧ x < 32 := fun x hx => by have := h.1 x hx; omega
theorem pw32 (k : Nat) : 32 ^ k = 2 ^ (5 * k) := by rw [Nat.pow_mul]
theorem okr.pk {l : List Nat} (h : okr l) : pkN l < 2 ^ 35 := by
  have h1 := pkN_lt h.lt
  rw [pw32] at h1
  exact Nat.lt_of_lt_of_le h1 (Nat.pow_le_pow_right (by decide) (by have := h.2; omega))
theorem okr.take {l : List Nat} (h : okr l) (k : Nat) : okr (l.take k) := ⟨fun x hx => h.1 x (List.mem_of_mem_take hx), by have := h.2; rw [List.length_take]; omega⟩
theorem okr.drop {l : List Nat} (h : okr l) (k : Nat) : okr (l.drop k) := ⟨fun x hx => h.1 x (List.mem_of_mem_drop hx), by have := h.2; rw [List.length_drop]; omega⟩
def pk (l : List Nat) : Int64 := lN (pkN l)
theorem pk_inj {l m : List Nat} (hl : okr l) (hm : okr m) : pk l = pk m ↔ l = m := by
  unfold pk
  rw [lN_inj (by have := hl.pk; omega) (by have := hm.pk; omega)]
  exact ⟨fun h => pkN_inj l.length (Nat.le_refl _) hl.in32 hm.in32 h, fun h => by rw [h]⟩
