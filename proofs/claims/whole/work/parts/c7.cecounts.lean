/-! words: how many words of so many letters more, with readings, with one; the edges of a state -/
def oneN (n : Nat) : Nat := if n = 0 then 0 else 1
def onlyN (n : Nat) : Nat := if n = 1 then 1 else 0
def cnF (f : Nat → Nat) (gs : List (List Nat)) (m : Nat) : Nat → List Nat → Nat
  | 0, v => f (rdc gs m v)
  | n + 1, v => sm (fun i => cnF f gs m n (v ++ [i + 1])) 27
def f2 (f : Nat → Nat) : Prop := f 0 = 0 ∧ (∀ a b, min 2 a = min 2 b → f a = f b) ∧ ∀ a, f a ≤ 1
theorem f2_one : f2 oneN := ⟨rfl, fun a b h => by unfold oneN; by_cases y : a = 0 <;> by_cases z : b = 0 <;> simp only [y, z, if_true, if_false] <;> omega, fun a => by unfold oneN; split <;> omega⟩
theorem f2_only : f2 onlyN := ⟨rfl, fun a b h => by unfold onlyN; by_cases y : a = 1 <;> by_cases z : b = 1 <;> simp only [y, z, if_true, if_false] <;> omega, fun a => by unfold onlyN; split <;> omega⟩
theorem cnF_key {f : Nat → Nat} {gs : List (List Nat)} {m : Nat} (hf : f2 f) (ho : okg gs m) (hu : unlk gs) : ∀ n v v', (∀ d, d < 7 → dg gs m v d = dg gs m v' d) → dpX gs m v 6 = dpX gs m v' 6 → cnF f gs m n v = cnF f gs m n v'
  | 0, v, v', h, _ => hf.2.1 _ _ (by rw [← dg_0, ← dg_0]; exact h 0 (by omega))
  | n + 1, v, v', h, hx => sm_congr 27 (fun i _ => by
    obtain ⟨a, b⟩ := dg_step ho hu h hx (i + 1)
    exact cnF_key hf ho hu n _ _ a b)
theorem cnF_ky {f : Nat → Nat} {N gs : List (List Nat)} {m n : Nat} {v v' : List Nat} (hf : f2 f) (ho : okg gs m) (hu : unlk gs) (hN : okN N) (hi : ∀ x, isI gs m x → x ∈ N) (h : kyW N gs m v = kyW N gs m v') : cnF f gs m n v = cnF f gs m n v' := by
  obtain ⟨a, b⟩ := kyW_inj ho hN hi h
  exact cnF_key hf ho hu n v v' a b
theorem cnF_0 {f : Nat → Nat} {gs : List (List Nat)} {m : Nat} (hf : f2 f) (ho : okg gs m) (hu : unlk gs) : ∀ n v, (∀ z, rdc gs m (v ++ z) = 0) → cnF f gs m n v = 0
  | 0, v, h => by
    have := h []
    rw [List.append_nil] at this
    show f (rdc gs m v) = 0
    rw [this]
    exact hf.1
  | n + 1, v, h => by
    refine (sm_congr 27 (fun i _ => cnF_0 hf ho hu n _ (fun z => ?_))).trans (sm_zero 27)
    rw [List.append_assoc]
    exact h _
theorem cnF_k0 {f : Nat → Nat} {N gs : List (List Nat)} {m n : Nat} {v : List Nat} (hf : f2 f) (ho : okg gs m) (hu : unlk gs) (h : kyW N gs m v = 0) : cnF f gs m n v = 0 := cnF_0 hf ho hu n v (fun z => dg_dead ho hu z v (kyW_0 h))
theorem sm_bd {f : Nat → Nat} {b : Nat} : ∀ n, (∀ i, i < n → f i ≤ b) → sm f n ≤ n * b
  | 0, _ => Nat.zero_le _
  | n + 1, h => by
    have a := sm_bd (f := f) (b := b) n (fun i hi => h i (by omega))
    have c := h n (Nat.lt_succ_self n)
    show sm f n + f n ≤ (n + 1) * b
    rw [Nat.succ_mul]
    omega
theorem cnF_le {f : Nat → Nat} {gs : List (List Nat)} {m : Nat} (hf : f2 f) : ∀ n v, cnF f gs m n v ≤ 27 ^ n
  | 0, v => hf.2.2 _
  | n + 1, v => by
    have := sm_bd (f := fun i => cnF f gs m n (v ++ [i + 1])) 27 (fun i _ => cnF_le hf n _)
    show sm _ 27 ≤ 27 ^ (n + 1)
    rw [Nat.pow_succ]
    omega
theorem cnF_b {f : Nat → Nat} {gs : List (List Nat)} {m n : Nat} (hf : f2 f) (hn : n ≤ 10) (v : List Nat) : cnF f gs m n v < 2 ^ 60 := by
  have h1 := cnF_le (gs := gs) (m := m) hf n v
  have h2 : (27 : Nat) ^ n ≤ 27 ^ 10 := Nat.pow_le_pow_right (by omega) hn
  have h3 : (27 : Nat) ^ 10 < 2 ^ 60 := by decide
  omega
/-- the edges of a state, letter by letter -/
def EL (N gs : List (List Nat)) (m : Nat) (V : List (List Nat)) (v : List Nat) : Nat → List (Nat × Nat) → Prop
  | 0, es => es = []
  | n + 1, es => ∃ es', EL N gs m V v n es' ∧ ((kyW N gs m (v ++ [n + 1]) = 0 ∧ es = es') ∨ (kyW N gs m (v ++ [n + 1]) ≠ 0 ∧ ∃ (t : Nat) (u : List Nat), V[t]? = some u ∧ kyW N gs m u = kyW N gs m (v ++ [n + 1]) ∧ u.length ≤ v.length + 1 ∧ es = es' ++ [(n + 1, t)]))
theorem EL.up {N gs : List (List Nat)} {m : Nat} {V W : List (List Nat)} {v : List Nat} : ∀ {n : Nat} {es : List (Nat × Nat)}, EL N gs m V v n es → EL N gs m (V ++ W) v n es
  | 0, _, h => h
  | n + 1, es, ⟨es', h1, h2⟩ => ⟨es', EL.up h1, h2.imp id (fun ⟨a, t, u, b, c⟩ => ⟨a, t, u, get_app b, c⟩)⟩
theorem EL.len {N gs : List (List Nat)} {m : Nat} {V : List (List Nat)} {v : List Nat} : ∀ {n : Nat} {es : List (Nat × Nat)}, EL N gs m V v n es → es.length ≤ n
  | 0, es, h => by
    have h : es = [] := h
    rw [h]
    exact Nat.le_refl _
  | n + 1, es, ⟨es', h1, h2⟩ => by
    have := EL.len h1
    rcases h2 with ⟨_, e⟩ | ⟨_, t, u, _, _, _, e⟩
    · rw [e]
      omega
    · rw [e, List.length_append]
      exact Nat.succ_le_succ this
theorem ky_unused {N gs : List (List Nat)} {m c : Nat} {v : List Nat} (ho : okg gs m) (hu : unlk gs) (hN : okN N) (hi : ∀ x, isI gs m x ∨ isG gs m x → x ∈ N) (h : ∀ x, ¬ x ++ [c] ∈ N) : kyW N gs m (v ++ [c]) = 0 := by
  refine kyW_n0 hN (fun d hd => ?_)
  cases d with
  | zero =>
    rw [← clS_7 ho hu]
    have cl : ∀ d, clS gs m v c d = 0 := by
      intro d
      induction d with
      | zero => rfl
      | succ d ih =>
        show iteP _ _ _ = 0
        rw [iteP_f (fun p => h _ (hi _ (Or.inr p)))]
        exact ih
    exact cl 7
  | succ d => exact dg_n1 (Or.inr (fun p => h _ (hi _ (Or.inl p))))
theorem kyW_nil {N gs : List (List Nat)} {m : Nat} (hN : okN N) : kyW N gs m [] = 1 := by
  have z : ∀ d, 0 < d → dg gs m [] d = 0 := fun d hd => iteP_f (fun p => absurd p.1 (by show ¬ d ≤ 0; omega))
  have e : ∀ n, dpX gs m [] n = [] := by
    intro n
    induction n with
    | zero => rfl
    | succ n ih =>
      show iteL _ _ _ = []
      rw [iteL_f (fun q => q (z (n + 1) (by omega)))]
      exact ih
  have e0 : dg gs m [] 0 = 1 := by
    rw [dg_0, rdc_nil]
    rfl
  unfold kyW
  rw [e, nix_at hN.1 hN.2.1, dgs_7, e0, z 1 (by omega), z 2 (by omega), z 3 (by omega), z 4 (by omega), z 5 (by omega), z 6 (by omega)]
def capE (E : Nat) : Prop := ∃ e, e ≤ 12 ∧ E = 256 * 2 ^ e
theorem pw12 : ∀ e, e ≤ 12 → 256 ≤ 256 * 2 ^ e ∧ 256 * 2 ^ e ≤ 1048576 ∧ (e ≤ 11 ∨ 256 * 2 ^ e = 1048576) := by decide
theorem capE.le {E : Nat} (h : capE E) : 256 ≤ E ∧ E ≤ 1048576 := by
  obtain ⟨a, h1, h2⟩ := h
  have := pw12 a h1
  omega
theorem capE.dbl {E : Nat} (h : capE E) (hlt : E < 1048576) : capE (2 * E) := by
  obtain ⟨a, h1, h2⟩ := h
  have := pw12 a h1
  exact ⟨a + 1, by omega, by rw [h2, Nat.pow_succ]; omega⟩
/-- what stands of the census while it is built -/
def BIv (N gs : List (List Nat)) (m c : Nat) (h : PH) (ad : Nat → Nat) (K M E : Nat) (V : List (List Nat)) (ed : List (Nat × Nat)) : Prop := CeS h c ad K M E ∧ CeV h c ad N gs m V ∧ CeT h ad M N gs m V ∧ (capK K ∧ capM M ∧ capE E) ∧ V.length ≤ K ∧ 4 * V.length ≤ 3 * M ∧ CeEd h c ad E ed ∧ V[0]? = some [] ∧ (∀ (t t' : Nat) (u u' : List Nat), t ≤ t' → V[t]? = some u → V[t']? = some u' → u.length ≤ u'.length) ∧ ∀ u ∈ V, u.length ≤ 10
def WcK (c : Nat) (ad : Nat → Nat) (x k : Nat) : Prop := (x = c ∧ (k = 4 ∨ k = 9)) ∨ ∃ f, f < 9 ∧ f ≠ 4 ∧ x = ad f
theorem WcK.W {c x k : Nat} {ad : Nat → Nat} (h : WcK c ad x k) : Wce c ad x := h.imp (fun z => z.1) id
def BFr (h0 : PH) (ad0 : Nat → Nat) (K0 M0 E0 c : Nat) (h : PH) (ad : Nat → Nat) (K M E : Nat) : Prop := Ge c (WcK c ad0) h0 h ∧ Acc h0 h K0 M0 E0 K M E ∧ ∀ f, ad f = ad0 f ∨ h_ct h0 ≤ ad f
def BEd (N gs : List (List Nat)) (m : Nat) (V : List (List Nat)) (ed : List (Nat × Nat)) (F : Nat → Nat) (s : Nat) : Prop := (∀ (s' : Nat) (v : List Nat), s' < s → V[s']? = some v → F s' ≤ F (s' + 1) ∧ F (s' + 1) ≤ ed.length ∧ (v.length < 10 → EL N gs m V v 27 ((ed.drop (F s')).take (F (s' + 1) - F s'))) ∧ (v.length = 10 → F (s' + 1) = F s')) ∧ F s = ed.length ∧ ed.length ≤ 27 * s
theorem slice_app {ed es : List (Nat × Nat)} {a b : Nat} (h : b ≤ ed.length) : ((ed ++ es).drop a).take (b - a) = (ed.drop a).take (b - a) := by
  by_cases y : a ≤ ed.length
  · rw [List.drop_append_of_le_length y, List.take_append_of_le_length (by rw [List.length_drop]; omega)]
  · rw [show b - a = 0 by omega]
    rfl
