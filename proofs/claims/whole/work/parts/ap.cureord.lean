/-! cures: sets of groups in their order; which set cures; rows but for their marks -/
def lowb : Nat → Nat → Nat
  | 0, _ => 0
  | n + 1, y => if y % 2 = 1 then 1 else 2 * lowb n (y / 2)
theorem low_128 : ∀ a, a < 128 → ∀ b, b < 128 → nI (128 * a + b) &&& -nI (128 * a + b) = nI (lowb 14 (128 * a + b)) := by decide +kernel
theorem low_nI {y : Nat} (hy : y < 2 ^ 14) : nI y &&& -nI y = nI (lowb 14 y) := by
  have := low_128 (y / 128) (by omega) (y % 128) (by omega)
  rw [show 128 * (y / 128) + y % 128 = y by omega] at this
  exact this
def rv : Nat → Nat → Nat
  | 0, _ => 0
  | n + 1, s => (s % 2) * 2 ^ n + rv n (s / 2)
theorem rv_lt : ∀ n s, rv n s < 2 ^ n
  | 0, s => by
    show 0 < 2 ^ 0
    decide
  | n + 1, s => by
    have := rv_lt n (s / 2)
    have h2 : s % 2 = 0 ∨ s % 2 = 1 := by omega
    unfold rv
    rcases h2 with e | e <;> rw [e, Nat.pow_succ] <;> omega
theorem rv_inj : ∀ {n s t : Nat}, s < 2 ^ n → t < 2 ^ n → rv n s = rv n t → s = t
  | 0, s, t, hs, ht, _ => by rw [Nat.pow_zero] at hs ht; omega
  | n + 1, s, t, hs, ht, h => by
    unfold rv at h
    have a := rv_lt n (s / 2)
    have b := rv_lt n (t / 2)
    rw [Nat.pow_succ] at hs ht
    have h2 : s % 2 = 0 ∨ s % 2 = 1 := by omega
    have h3 : t % 2 = 0 ∨ t % 2 = 1 := by omega
    have e : s % 2 = t % 2 ∧ rv n (s / 2) = rv n (t / 2) := by
      rcases h2 with e | e <;> rcases h3 with e' | e' <;> rw [e, e'] at h ⊢ <;> omega
    have := rv_inj (by omega) (by omega) e.2
    omega
theorem low_rv : ∀ {n s t : Nat}, s < 2 ^ n → t < 2 ^ n → s ≠ t → (lowb n (s ^^^ t) &&& s ≠ 0 ↔ rv n t < rv n s)
  | 0, s, t, hs, ht, h => by rw [Nat.pow_zero] at hs ht; omega
  | n + 1, s, t, hs, ht, h => by
    rw [Nat.pow_succ] at hs ht
    have a := rv_lt n (s / 2)
    have b := rv_lt n (t / 2)
    unfold rv lowb
    have h2 : s % 2 = 0 ∨ s % 2 = 1 := by omega
    have h3 : t % 2 = 0 ∨ t % 2 = 1 := by omega
    have hd : (s ^^^ t) / 2 = s / 2 ^^^ t / 2 := Nat.xor_div_two
    have hm : (s ^^^ t) % 2 = (s % 2 + t % 2) % 2 := by
      have e := Nat.xor_mod_two_eq_one (a := s) (b := t)
      rcases h2 with e1 | e1 <;> rcases h3 with e2 | e2 <;> rw [e1, e2] at e ⊢
      · have : ¬ (s ^^^ t) % 2 = 1 := fun w => (e.mp w) Iff.rfl
        omega
      · exact e.mpr (by decide)
      · exact e.mpr (by decide)
      · have : ¬ (s ^^^ t) % 2 = 1 := fun w => (e.mp w) Iff.rfl
        omega
    by_cases z : s % 2 = t % 2
    · rw [if_neg (by omega), hd, z]
      have ne : s / 2 ≠ t / 2 := by omega
      have r := low_rv (n := n) (by omega) (by omega) ne
      have e : 2 * lowb n (s / 2 ^^^ t / 2) &&& s = 2 * (lowb n (s / 2 ^^^ t / 2) &&& s / 2) := by
        generalize lowb n (s / 2 ^^^ t / 2) = l
        apply Nat.eq_of_testBit_eq
        intro i
        cases i with
        | zero => rw [Nat.testBit_and, Nat.testBit_zero, Nat.testBit_zero, Nat.testBit_zero, show 2 * l % 2 = 0 by omega, show 2 * (l &&& s / 2) % 2 = 0 by omega]; rfl
        | succ i => rw [Nat.testBit_and, Nat.testBit_succ, Nat.testBit_succ, Nat.testBit_succ, show 2 * l / 2 = l by omega, show 2 * (l &&& s / 2) / 2 = (l &&& s / 2) by omega, Nat.testBit_and]
      rw [e]
      constructor
      · intro q
        have := r.mp (by omega)
        omega
      · intro q
        have := r.mpr (by omega)
        omega
    · rw [if_pos (by omega)]
      have e : 1 &&& s = s % 2 := Nat.one_and_eq_mod_two s
      rw [e]
      rcases h2 with e | e <;> rcases h3 with e' | e' <;> rw [e, e'] at z ⊢ <;> omega
/-- smaller sets first; of sets alike in size, the one that has the first group where they differ -/
def ck (s : Nat) : Nat := pop s 14 * 2 ^ 14 + (2 ^ 14 - 1 - rv 14 s)
theorem ck_inj {s t : Nat} (hs : s < 2 ^ 14) (ht : t < 2 ^ 14) (h : ck s = ck t) : s = t := by
  unfold ck at h
  have a := rv_lt 14 s
  have b := rv_lt 14 t
  exact rv_inj hs ht (by omega)
theorem ck_lt {s t : Nat} : ck s < ck t ↔ pop s 14 < pop t 14 ∨ (pop s 14 = pop t 14 ∧ rv 14 t < rv 14 s) := by
  unfold ck
  have a := rv_lt 14 s
  have b := rv_lt 14 t
  omega
def sbs (s c : Nat) : Prop := ∀ k, inm s k → inm c k
theorem sbs_and {s c : Nat} : sbs s c ↔ s &&& c = s := by
  constructor
  · intro h
    exact inm_ext (fun k => by
      rw [inm_and]
      exact ⟨And.left, fun z => ⟨z, h k z⟩⟩)
  · intro h k z
    rw [← h, inm_and] at z
    exact z.2
theorem lt_inm : ∀ {n s : Nat}, (∀ k, inm s k → k < n) → s < 2 ^ n := by
  intro n s h
  apply Nat.lt_pow_two_of_testBit
  intro i hi
  cases e : s.testBit i with
  | false => rfl
  | true =>
    have := h i (inm_tb.mpr e)
    omega
theorem sbs_lt {s c n : Nat} (hc : c < 2 ^ n) (h : sbs s c) : s < 2 ^ n := lt_inm (fun k z => inm_lt hc (h k z))
/-- the groups that can be chosen -/
def canN (gs : List (List Nat)) (m : Nat) : Nat → Nat
  | 0 => 0
  | k + 1 => if inm m k ∧ (gs.getD k []).length ≤ 6 then canN gs m k ||| 2 ^ k else canN gs m k
def can (gs : List (List Nat)) (m : Nat) : Nat := canN gs m gs.length
theorem inm_canN {gs : List (List Nat)} {m : Nat} : ∀ {n k : Nat}, inm (canN gs m n) k ↔ k < n ∧ inm m k ∧ (gs.getD k []).length ≤ 6
  | 0, k => by
    unfold canN
    exact ⟨fun z => absurd z inm_0, fun z => absurd z.1 (by omega)⟩
  | n + 1, k => by
    have ih := inm_canN (gs := gs) (m := m) (n := n) (k := k)
    unfold canN
    by_cases z : inm m n ∧ (gs.getD n []).length ≤ 6
    · rw [if_pos z, inm_or, ih, inm_pow]
      constructor
      · rintro (w | w)
        · exact ⟨by omega, w.2⟩
        · rw [w]
          exact ⟨by omega, z⟩
      · intro w
        by_cases e : k = n
        · exact Or.inr e
        · exact Or.inl ⟨by omega, w.2⟩
    · rw [if_neg z, ih]
      constructor
      · intro w
        exact ⟨by omega, w.2⟩
      · intro w
        have e : k ≠ n := fun e => z (by rw [← e]; exact w.2)
        exact ⟨by omega, w.2⟩
theorem canN_lt {gs : List (List Nat)} {m n : Nat} : canN gs m n < 2 ^ n := lt_inm (fun _ z => (inm_canN.mp z).1)
theorem can_sub {gs : List (List Nat)} {m s : Nat} (h : sbs s (can gs m)) : (∀ k, inm s k → inm m k ∧ k < gs.length ∧ (gs.getD k []).length ≤ 6) ∧ s < 2 ^ gs.length := ⟨fun k z => by
  obtain ⟨a, b, c⟩ := inm_canN.mp (h k z)
  exact ⟨b, a, c⟩, sbs_lt canN_lt h⟩
/-- what is read once a set is marked behind (way 0), marked ahead (1), left out (2) -/
def hlg (x : Int32) (s : Nat) (gs : List (List Nat)) : List (List Nat) := if x = 2 then gs else mkg x s gs
def hlm (x : Int32) (s m : Nat) : Nat := if x = 2 then m ^^^ s else m
def Hls (x : Int32) (gs : List (List Nat)) (m s : Nat) : Prop := Prt (hlg x s gs) (hlm x s m)
def CuB (P : Nat → Prop) (u : Nat) : Option Nat → Prop
  | none => ∀ s, s < u → ¬ P s
  | some b => b < u ∧ P b ∧ ∀ s, s < u → P s → ck b ≤ ck s
def cuP (x : Int32) (gs : List (List Nat)) (m s : Nat) : Prop := sbs s (can gs m) ∧ Hls x gs m s
/-- the cure: none, or the first set that cures -/
def IsCu (x : Int32) (gs : List (List Nat)) (m : Nat) (o : Option Nat) : Prop := CuB (cuP x gs m) (2 ^ gs.length) o
theorem CuB.uni {P : Nat → Prop} {u : Nat} (hu : u ≤ 2 ^ 14) : ∀ {o o' : Option Nat}, CuB P u o → CuB P u o' → o = o'
  | none, none, _, _ => rfl
  | none, some b, h, h' => absurd h'.2.1 (h b h'.1)
  | some b, none, h, h' => absurd h.2.1 (h' b h.1)
  | some b, some b', h, h' => by
    have h1 := h.2.2 b' h'.1 h'.2.1
    have h2 := h'.2.2 b h.1 h.2.1
    have h3 := h.1
    have h4 := h'.1
    rw [ck_inj (by omega) (by omega) (Nat.le_antisymm h1 h2)]
def oN : Option Nat → Int32
  | none => -1
  | some s => nI s
/-- a row without its marks -/
def cor (l : List Nat) : List Nat := l.filter (fun x => decide (x ≠ 27))
def unlC (gs : List (List Nat)) : Prop := unlk (gs.map cor)
theorem cor_at {gs : List (List Nat)} {i : Nat} : (gs.map cor).getD i [] = cor (gs.getD i []) := by
  rw [List.getD_eq_getElem?_getD, List.getD_eq_getElem?_getD, List.getElem?_map]
  cases gs[i]? <;> rfl
theorem unlC.unlk {gs : List (List Nat)} (h : unlC gs) : unlk gs := fun i j hi hj e => h i j (by rw [List.length_map]; exact hi) (by rw [List.length_map]; exact hj) (by rw [cor_at, cor_at, e])
theorem cor_mkl {x : Int32} {l : List Nat} : cor (mkl x l) = cor l := by
  unfold mkl
  by_cases e : x = 1
  · rw [if_pos e]
    rfl
  · rw [if_neg e]
    unfold cor
    rw [List.filter_append, show [27].filter (fun x => decide (x ≠ 27)) = [] from rfl, List.append_nil]
theorem cor_mkg {x : Int32} {s : Nat} {gs : List (List Nat)} : (mkg x s gs).map cor = gs.map cor := by
  apply List.ext_getElem?
  intro i
  unfold mkg
  rw [List.getElem?_map, List.getElem?_map, List.getElem?_mapIdx]
  cases gs[i]? with
  | none => rfl
  | some l =>
    show some (cor (mkr x s i l)) = some (cor l)
    unfold mkr
    by_cases z : inm s i ∧ l.length < 7
    · rw [if_pos z, cor_mkl]
    · rw [if_neg z]
theorem unlC_mkg {x : Int32} {s : Nat} {gs : List (List Nat)} : unlC (mkg x s gs) ↔ unlC gs := by
  unfold unlC
  rw [cor_mkg]
theorem and_nots {a c : Nat} (ha : a < 2 ^ 31) (hc : c < 2 ^ 31) : nI a &&& (nI c ^^^ (-1 : Int32)) = 0 ↔ sbs a c := by
  have key : nI a &&& (nI c ^^^ (-1 : Int32)) = nI a ^^^ (nI a &&& nI c) := by
    generalize nI a = a
    generalize nI c = c
    apply Int32.toBitVec_inj.mp
    rw [Int32.toBitVec_and, Int32.toBitVec_xor, Int32.toBitVec_xor, Int32.toBitVec_and, show (-1 : Int32).toBitVec = BitVec.allOnes 32 from by decide]
    generalize a.toBitVec = p
    generalize c.toBitVec = q
    apply BitVec.eq_of_getLsbD_eq
    intro i hi
    rw [BitVec.getLsbD_and, BitVec.getLsbD_xor, BitVec.getLsbD_xor, BitVec.getLsbD_and, BitVec.getLsbD_allOnes]
    rw [show decide (i < 32) = true from decide_eq_true hi]
    generalize p.getLsbD i = u
    generalize q.getLsbD i = v
    cases u <;> cases v <;> decide
  have hl : a &&& c < 2 ^ 31 := Nat.lt_of_le_of_lt Nat.and_le_left ha
  rw [key, nI_andN (by omega) (by omega), nI_xorN (by omega) (by omega), sbs_and]
  constructor
  · intro h
    have h' := (nI_eq (a := a ^^^ (a &&& c)) (b := 0) (Nat.xor_lt_two_pow ha hl) (by omega)).mp h
    exact (inm_ext (fun k => by
      have := congrArg (fun v => inm v k) h'
      have e : ¬ inm (a ^^^ (a &&& c)) k := by rw [h']; exact inm_0
      rw [inm_xor] at e
      exact Classical.not_not.mp e)).symm
  · intro h
    rw [h, Nat.xor_self]
    rfl
