/-! choices of some out of so many, in their order -/
theorem inm_s {s i : Nat} : inm s (i + 1) ↔ inm (s / 2) i := by
  rw [inm_tb, inm_tb, Nat.testBit_succ]
theorem inm_z {s : Nat} : inm s 0 ↔ s % 2 = 1 := by
  rw [inm_tb, Nat.testBit_zero, decide_eq_true_iff]
theorem rv_of : ∀ {n s t j : Nat}, j < n → inm s j → ¬ inm t j → (∀ i, i < j → (inm s i ↔ inm t i)) → rv n t < rv n s
  | 0, _, _, _, h, _, _, _ => absurd h (by omega)
  | n + 1, s, t, 0, _, h1, h2, _ => by
    rw [inm_z] at h1 h2
    have a := rv_lt n (t / 2)
    unfold rv
    rw [h1, show t % 2 = 0 by omega]
    omega
  | n + 1, s, t, j + 1, h, h1, h2, h3 => by
    rw [inm_s] at h1 h2
    have ih := rv_of (n := n) (s := s / 2) (t := t / 2) (j := j) (by omega) h1 h2 (fun i hi => by
      rw [← inm_s, ← inm_s]
      exact h3 (i + 1) (by omega))
    have e := h3 0 (by omega)
    rw [inm_z, inm_z] at e
    have e' : s % 2 = t % 2 := by
      by_cases z : s % 2 = 1
      · rw [z, e.mp z]
      · have : ¬ t % 2 = 1 := fun w => z (e.mpr w)
        omega
    unfold rv
    rw [e']
    omega
theorem pop_cg {a b : Nat} : ∀ {n : Nat}, (∀ i, i < n → (inm a i ↔ inm b i)) → pop a n = pop b n
  | 0, _ => rfl
  | n + 1, h => by
    have ih := pop_cg (a := a) (b := b) (n := n) (fun i hi => h i (by omega))
    have e := h n (by omega)
    unfold inm at e
    unfold pop
    rw [ih]
    have h1 : a / 2 ^ n % 2 < 2 := Nat.mod_lt _ (by decide)
    have h2 : b / 2 ^ n % 2 < 2 := Nat.mod_lt _ (by decide)
    by_cases z : a / 2 ^ n % 2 = 1
    · rw [z, e.mp z]
    · have : ¬ b / 2 ^ n % 2 = 1 := fun w => z (e.mpr w)
      omega
theorem pop_or {x j : Nat} (hx : ¬ inm x j) : ∀ {n : Nat}, j < n → pop (x ||| 2 ^ j) n = pop x n + 1
  | 0, h => absurd h (by omega)
  | n + 1, h => by
    by_cases z : j = n
    · subst z
      have e1 : pop (x ||| 2 ^ j) j = pop x j := pop_cg (fun i hi => by
        rw [inm_or, inm_pow]
        exact ⟨fun w => w.elim id (fun y => absurd y (by omega)), Or.inl⟩)
      have e2 : (x ||| 2 ^ j) / 2 ^ j % 2 = 1 := (inm_or (a := x) (b := 2 ^ j) (k := j)).mpr (Or.inr (inm_pow.mpr rfl))
      have e3 : x / 2 ^ j % 2 = 0 := by
        have h1 : x / 2 ^ j % 2 < 2 := Nat.mod_lt _ (by decide)
        have : ¬ x / 2 ^ j % 2 = 1 := hx
        omega
      unfold pop
      rw [e1, e2, e3]
    · have ih := pop_or (x := x) hx (n := n) (by omega)
      have e : inm (x ||| 2 ^ j) n ↔ inm x n := by
        rw [inm_or, inm_pow]
        exact ⟨fun w => w.elim id (fun y => absurd y.symm z), Or.inl⟩
      unfold inm at e
      unfold pop
      rw [ih]
      have h1 : (x ||| 2 ^ j) / 2 ^ n % 2 < 2 := Nat.mod_lt _ (by decide)
      have h2 : x / 2 ^ n % 2 < 2 := Nat.mod_lt _ (by decide)
      by_cases y : x / 2 ^ n % 2 = 1
      · rw [y, e.mpr y]
      · have : ¬ (x ||| 2 ^ j) / 2 ^ n % 2 = 1 := fun w => y (e.mp w)
        omega
def Inc (n k : Nat) (c : Nat → Nat) : Prop := (∀ i, i + 1 < k → c i < c (i + 1)) ∧ ∀ i, i < k → c i < n
theorem Inc.gap {n k : Nat} {c : Nat → Nat} (h : Inc n k c) {i : Nat} : ∀ {j : Nat}, i + j < k → c i + j ≤ c (i + j)
  | 0, _ => Nat.le_refl _
  | j + 1, hj => by
    have ih := h.gap (i := i) (j := j) (by omega)
    have := h.1 (i + j) (by omega)
    have e : i + (j + 1) = i + j + 1 := by omega
    rw [e]
    omega
theorem Inc.up {n k : Nat} {c : Nat → Nat} (h : Inc n k c) {i : Nat} (hi : i < k) : c i + (k - i) ≤ n := by
  have a := h.gap (i := i) (j := k - 1 - i) (by omega)
  have b := h.2 (i + (k - 1 - i)) (by omega)
  omega
theorem Inc.lo {n k : Nat} {c : Nat → Nat} (h : Inc n k c) {i : Nat} (hi : i < k) : i ≤ c i := by
  have a := h.gap (i := 0) (j := i) (by omega)
  rw [Nat.zero_add] at a
  omega
theorem Inc.len {n k : Nat} {c : Nat → Nat} (h : Inc n k c) : k ≤ n := by
  by_cases z : k = 0
  · omega
  · have := h.up (i := 0) (by omega)
    omega
def LX (k : Nat) (c c' : Nat → Nat) : Prop := ∃ j, j < k ∧ (∀ i, i < j → c i = c' i) ∧ c j < c' j
def Agr (k : Nat) (c c' : Nat → Nat) : Prop := ∀ i, i < k → c i = c' i
theorem lx_tot (c c' : Nat → Nat) : ∀ k, Agr k c c' ∨ LX k c c' ∨ LX k c' c
  | 0 => Or.inl (fun i hi => absurd hi (by omega))
  | k + 1 => by
    rcases lx_tot c c' k with h | ⟨j, a, b, e⟩ | ⟨j, a, b, e⟩
    · rcases Nat.lt_trichotomy (c k) (c' k) with w | w | w
      · exact Or.inr (Or.inl ⟨k, by omega, h, w⟩)
      · refine Or.inl (fun i hi => ?_)
        by_cases z : i = k
        · rw [z, w]
        · exact h i (by omega)
      · exact Or.inr (Or.inr ⟨k, by omega, fun i hi => (h i hi).symm, w⟩)
    · exact Or.inr (Or.inl ⟨j, by omega, b, e⟩)
    · exact Or.inr (Or.inr ⟨j, by omega, b, e⟩)
theorem lx_le {k : Nat} {c c' : Nat → Nat} (h : ∀ i, i < k → c' i ≤ c i) : Agr k c' c ∨ LX k c' c := by
  rcases lx_tot c' c k with w | w | ⟨j, a, _, e⟩
  · exact Or.inl w
  · exact Or.inr w
  · have := h j a
    omega
def nxc (c : Nat → Nat) (i t : Nat) : Nat := if t < i then c t else c i + 1 + (t - i)
theorem Inc_nxc {n k i : Nat} {c : Nat → Nat} (h : Inc n k c) (hi : i < k) (hl : c i < n - k + i) : Inc n k (nxc c i) := by
  have hk := h.len
  constructor
  · intro t ht
    unfold nxc
    by_cases z : t + 1 < i
    · rw [if_pos (by omega), if_pos z]
      exact h.1 t ht
    · by_cases y : t + 1 = i
      · rw [if_pos (by omega), if_neg (by omega)]
        have := h.1 t ht
        rw [y] at this
        omega
      · rw [if_neg (by omega), if_neg (by omega)]
        omega
  · intro t ht
    unfold nxc
    by_cases z : t < i
    · rw [if_pos z]
      exact h.2 t ht
    · rw [if_neg z]
      omega
theorem lx_nxc {k i : Nat} {c : Nat → Nat} (hi : i < k) : LX k c (nxc c i) := ⟨i, hi, fun t ht => by
  unfold nxc
  rw [if_pos ht], by
  unfold nxc
  rw [if_neg (by omega)]
  omega⟩
theorem lx_next {n k i : Nat} {c c' : Nat → Nat} (hi : i < k) (hm : ∀ t, i < t → t < k → c t = n - k + t) (h' : Inc n k c') (hk : k ≤ n) (hx : LX k c' (nxc c i)) : Agr k c' c ∨ LX k c' c := by
  obtain ⟨j, a, b, e⟩ := hx
  unfold nxc at b e
  by_cases z : j < i
  · rw [if_pos z] at e
    refine Or.inr ⟨j, a, fun t ht => ?_, e⟩
    have := b t ht
    rw [if_pos (by omega)] at this
    exact this
  · rw [if_neg z] at e
    have ag : ∀ t, t < i → c' t = c t := fun t ht => by
      have := b t (by omega)
      rw [if_pos ht] at this
      exact this
    by_cases y : j = i
    · subst y
      rw [Nat.sub_self] at e
      by_cases w : c' j = c j
      · refine lx_le (fun t ht => ?_)
        by_cases v : t < j
        · rw [ag t v]
          exact Nat.le_refl _
        · by_cases u : t = j
          · rw [u, w]
            exact Nat.le_refl _
          · rw [hm t (by omega) ht]
            have := h'.up ht
            omega
      · exact Or.inr ⟨j, a, ag, by omega⟩
    · have q := b i (by omega)
      rw [if_neg (by omega), Nat.sub_self] at q
      have := h'.gap (i := i) (j := j - i) (by omega)
      rw [show i + (j - i) = j by omega] at this
      omega
theorem lx_last {n k : Nat} {c c' : Nat → Nat} (hm : ∀ t, t < k → c t = n - k + t) (h' : Inc n k c') : Agr k c' c ∨ LX k c' c := lx_le (fun t ht => by
  rw [hm t ht]
  have := h'.up ht
  have := h'.len
  omega)
theorem lx_first {n k : Nat} {c c' : Nat → Nat} (hc : ∀ t, t < k → c t = t) (h' : Inc n k c') : ¬ LX k c' c := fun ⟨j, a, _, e⟩ => by
  rw [hc j a] at e
  have := h'.lo a
  omega
/-- the set that is chosen -/
def mkc (N : List Nat) (c : Nat → Nat) : Nat → Nat
  | 0 => 0
  | k + 1 => mkc N c k ||| 2 ^ (N.getD (c k) 0)
theorem inm_mkc {N : List Nat} {c : Nat → Nat} : ∀ {k j : Nat}, inm (mkc N c k) j ↔ ∃ i, i < k ∧ N.getD (c i) 0 = j
  | 0, j => ⟨fun h => absurd h inm_0, fun ⟨i, a, _⟩ => absurd a (by omega)⟩
  | k + 1, j => by
    unfold mkc
    rw [inm_or, inm_pow, inm_mkc]
    constructor
    · rintro (⟨i, a, b⟩ | e)
      · exact ⟨i, by omega, b⟩
      · exact ⟨k, by omega, e.symm⟩
    · rintro ⟨i, a, b⟩
      by_cases z : i = k
      · exact Or.inr (by rw [← b, z])
      · exact Or.inl ⟨i, by omega, b⟩
def Asc (N : List Nat) : Prop := (∀ a b, a < b → b < N.length → N.getD a 0 < N.getD b 0) ∧ ∀ a, a < N.length → N.getD a 0 < 14
theorem Asc.inj {N : List Nat} (h : Asc N) {a b : Nat} (ha : a < N.length) (hb : b < N.length) (e : N.getD a 0 = N.getD b 0) : a = b := by
  rcases Nat.lt_trichotomy a b with w | w | w
  · have := h.1 a b w hb
    omega
  · exact w
  · have := h.1 b a w ha
    omega
theorem mkc_new {N : List Nat} {c : Nat → Nat} (hN : Asc N) {k : Nat} (hc : Inc N.length (k + 1) c) : ¬ inm (mkc N c k) (N.getD (c k) 0) := by
  rw [inm_mkc]
  rintro ⟨i, a, b⟩
  have e := hN.inj (hc.2 i (by omega)) (hc.2 k (by omega)) b
  have := hc.gap (i := i) (j := k - i) (by omega)
  rw [show i + (k - i) = k by omega] at this
  omega
theorem pop_mkc {N : List Nat} {c : Nat → Nat} (hN : Asc N) : ∀ {k : Nat}, Inc N.length k c → pop (mkc N c k) 14 = k
  | 0, _ => pop_zero 14
  | k + 1, h => by
    have ih := pop_mkc hN (c := c) (k := k) ⟨fun i hi => h.1 i (by omega), fun i hi => h.2 i (by omega)⟩
    unfold mkc
    rw [pop_or (mkc_new hN h) (hN.2 _ (h.2 k (by omega))), ih]
theorem mkc_lt {N : List Nat} {c : Nat → Nat} (hN : Asc N) {k : Nat} (h : Inc N.length k c) : mkc N c k < 2 ^ 14 := lt_inm (fun j hj => by
  obtain ⟨i, a, b⟩ := inm_mkc.mp hj
  rw [← b]
  exact hN.2 _ (h.2 i a))
theorem mkc_agr {N : List Nat} {c c' : Nat → Nat} : ∀ {k : Nat}, Agr k c c' → mkc N c k = mkc N c' k
  | 0, _ => rfl
  | k + 1, h => by
    unfold mkc
    rw [mkc_agr (k := k) (fun i hi => h i (by omega)), h k (by omega)]
theorem rv_mkc {N : List Nat} {c c' : Nat → Nat} (hN : Asc N) {k : Nat} (h : Inc N.length k c) (h' : Inc N.length k c') (hx : LX k c c') : rv 14 (mkc N c' k) < rv 14 (mkc N c k) := by
  obtain ⟨j, a, b, e⟩ := hx
  have low : ∀ {c1 : Nat → Nat} (_ : Inc N.length k c1), c j ≤ c1 j → ∀ {t : Nat}, t < k → N.getD (c1 t) 0 < N.getD (c j) 0 → t < j := fun {c1} hi hle {t} ht hl => by
    refine Nat.lt_of_not_le (fun w => ?_)
    have g := hi.gap (i := j) (j := t - j) (by omega)
    rw [show j + (t - j) = t by omega] at g
    by_cases z : c j = c1 t
    · rw [z] at hl
      omega
    · have := hN.1 (c j) (c1 t) (by omega) (hi.2 t ht)
      omega
  refine rv_of (j := N.getD (c j) 0) (hN.2 _ (h.2 j a)) (inm_mkc.mpr ⟨j, a, rfl⟩) (fun q => ?_) (fun i hi => ?_)
  · obtain ⟨t, t1, t2⟩ := inm_mkc.mp q
    have e1 := hN.inj (h'.2 t t1) (h.2 j a) t2
    by_cases z : t < j
    · have := b t z
      have g := h.gap (i := t) (j := j - t) (by omega)
      rw [show t + (j - t) = j by omega] at g
      omega
    · have g := h'.gap (i := j) (j := t - j) (by omega)
      rw [show j + (t - j) = t by omega] at g
      omega
  · rw [inm_mkc, inm_mkc]
    constructor
    · rintro ⟨t, t1, t2⟩
      have := low h (Nat.le_refl _) t1 (by omega)
      exact ⟨t, t1, by rw [← b t this]; exact t2⟩
    · rintro ⟨t, t1, t2⟩
      have := low h' (Nat.le_of_lt e) t1 (by omega)
      exact ⟨t, t1, by rw [b t this]; exact t2⟩
theorem mkc_ex {N : List Nat} {s : Nat} (hN : Asc N) (hs : ∀ j, inm s j → ∃ i, i < N.length ∧ N.getD i 0 = j) : ∃ k c, Inc N.length k c ∧ mkc N c k = s := by
  have key : ∀ p, p ≤ N.length → ∃ k c, Inc p k c ∧ ∀ j, inm (mkc N c k) j ↔ inm s j ∧ ∃ i, i < p ∧ N.getD i 0 = j := by
    intro p
    induction p with
    | zero =>
      intro _
      refine ⟨0, fun _ => 0, ⟨fun i hi => absurd hi (by omega), fun i hi => absurd hi (by omega)⟩, fun j => ⟨fun h => absurd h inm_0, fun ⟨_, i, a, _⟩ => absurd a (by omega)⟩⟩
    | succ p ih =>
      intro hp
      obtain ⟨k, c, h1, h2⟩ := ih (by omega)
      by_cases z : inm s (N.getD p 0)
      · refine ⟨k + 1, fun i => if i < k then c i else p, ⟨fun i hi => ?_, fun i hi => ?_⟩, fun j => ?_⟩
        · show (if i < k then c i else p) < (if i + 1 < k then c (i + 1) else p)
          by_cases y : i + 1 < k
          · rw [if_pos (by omega), if_pos y]
            exact h1.1 i y
          · rw [if_pos (by omega), if_neg y]
            exact h1.2 i (by omega)
        · show (if i < k then c i else p) < p + 1
          by_cases y : i < k
          · rw [if_pos y]
            have := h1.2 i y
            omega
          · rw [if_neg y]
            omega
        · have e : mkc N (fun i => if i < k then c i else p) k = mkc N c k := mkc_agr (fun i hi => if_pos hi)
          show inm (mkc N (fun i => if i < k then c i else p) k ||| 2 ^ (N.getD (if k < k then c k else p) 0)) j ↔ _
          rw [if_neg (by omega), e, inm_or, inm_pow, h2]
          constructor
          · rintro (⟨a, i, b, e'⟩ | w)
            · exact ⟨a, i, by omega, e'⟩
            · exact ⟨by rw [w]; exact z, p, by omega, w.symm⟩
          · rintro ⟨a, i, b, e'⟩
            by_cases y : i = p
            · exact Or.inr (by rw [← e', y])
            · exact Or.inl ⟨a, i, by omega, e'⟩
      · refine ⟨k, c, ⟨h1.1, fun i hi => by have := h1.2 i hi; omega⟩, fun j => ?_⟩
        rw [h2]
        constructor
        · rintro ⟨a, i, b, e⟩
          exact ⟨a, i, by omega, e⟩
        · rintro ⟨a, i, b, e⟩
          by_cases y : i = p
          · rw [y] at e
            exact absurd (by rw [e]; exact a) z
          · exact ⟨a, i, by omega, e⟩
  obtain ⟨k, c, h1, h2⟩ := key N.length (Nat.le_refl _)
  exact ⟨k, c, h1, inm_ext (fun j => by
    rw [h2]
    exact ⟨And.left, fun z => ⟨z, hs j z⟩⟩)⟩
