/-! words on the reference's side: at most 4000 words of one length end with a group of 7 letters -/
def rdF (S : List (List Nat)) : Nat → Nat → List (List Nat)
  | 0, l => if l = 0 then [[]] else []
  | k + 1, l => if l = 0 then [[]] else S.flatMap (fun g => if 0 < g.length ∧ g.length ≤ l then (rdF S k (l - g.length)).map (g ++ ·) else [])
theorem flat_len {α β : Type} {f : α → List β} {b : Nat} : ∀ S : List α, (∀ g ∈ S, (f g).length ≤ b) → (S.flatMap f).length ≤ S.length * b
  | [], _ => by
    show 0 ≤ _
    exact Nat.zero_le _
  | g :: r, h => by
    rw [List.flatMap_cons, List.length_append, List.length_cons]
    have h1 := h g (List.mem_cons_self ..)
    have h2 := flat_len (f := f) (b := b) r (fun x hx => h x (List.mem_cons_of_mem _ hx))
    rw [Nat.add_mul, Nat.one_mul]
    omega
theorem rdF_len (S : List (List Nat)) : ∀ k l, (rdF S k l).length ≤ S.length ^ l
  | 0, l => by
    unfold rdF
    by_cases y : l = 0
    · rw [if_pos y, y]
      exact Nat.le_refl _
    · rw [if_neg y]
      exact Nat.zero_le _
  | k + 1, l => by
    unfold rdF
    by_cases y : l = 0
    · rw [if_pos y, y]
      exact Nat.le_refl _
    · rw [if_neg y]
      refine Nat.le_trans (flat_len (b := S.length ^ (l - 1)) S (fun g hg => ?_)) ?_
      · have s0 : 0 < S.length := List.length_pos_of_mem hg
        by_cases z : 0 < g.length ∧ g.length ≤ l
        · rw [if_pos z, List.length_map]
          exact Nat.le_trans (rdF_len S k (l - g.length)) (Nat.pow_le_pow_right s0 (by omega))
        · rw [if_neg z]
          exact Nat.zero_le _
      · have : S.length ^ l = S.length ^ (l - 1) * S.length := by
          rw [← Nat.pow_succ]
          congr 1
          omega
        rw [this, Nat.mul_comm]
        exact Nat.le_refl _
theorem sm_ex {f : Nat → Nat} : ∀ n, sm f n ≠ 0 → ∃ k, k < n ∧ f k ≠ 0
  | 0, h => absurd rfl h
  | n + 1, h => by
    by_cases y : f n = 0
    · have h' : sm f n ≠ 0 := fun q => h (by show sm f n + f n = 0; omega)
      obtain ⟨k, k1, k2⟩ := sm_ex n h'
      exact ⟨k, by omega, k2⟩
    · exact ⟨n, Nat.lt_succ_self n, y⟩
theorem rdF_mem {gs S : List (List Nat)} {m : Nat} (ho : okg gs m) (hS : ∀ g ∈ gs, g.length < 7 → g ∈ S) : ∀ k (z : List Nat), z.length ≤ k → z.length < 7 → rdc gs m z ≠ 0 → z ∈ rdF S k z.length
  | 0, z, h, _, _ => by
    have e : z = [] := List.eq_nil_of_length_eq_zero (by omega)
    rw [e]
    exact List.mem_singleton.mpr rfl
  | k + 1, z, h, h7, hr => by
    unfold rdF
    by_cases y : z.length = 0
    · rw [if_pos y]
      exact List.mem_singleton.mpr (List.eq_nil_of_length_eq_zero y)
    · rw [if_neg y]
      rw [rdc_first ho (by omega)] at hr
      obtain ⟨j, j1, j2⟩ := sm_ex _ hr
      by_cases b : preB gs m z j = true
      · rw [if_pos b] at j2
        obtain ⟨b1, b2, b3⟩ := preB_i.mp b
        have gj := gS (gs := gs) j1
        have g0 := (ho.at gj).2.1
        generalize gs.getD j [] = g at gj g0 b2 b3 j2
        refine List.mem_flatMap.mpr ⟨g, hS g (List.mem_of_getElem? gj) (by omega), ?_⟩
        rw [if_pos ⟨g0, b2⟩]
        have hl : (z.drop g.length).length = z.length - g.length := List.length_drop ..
        have ih := rdF_mem ho hS k (z.drop g.length) (by omega) (by omega) j2
        rw [hl] at ih
        refine List.mem_map.mpr ⟨_, ih, ?_⟩
        have := List.take_append_drop g.length z
        rw [← b3] at this
        exact this
      · rw [if_neg b] at j2
        exact absurd rfl j2
theorem p4000 : ∀ s, s < 15 → ∀ a, a < 15 → s + a ≤ 14 → ∀ l, l < 4 → a * s ^ l ≤ 4000 := by decide +kernel
theorem split7 : ∀ gs : List (List Nat), (∀ g ∈ gs, g.length ≤ 7) → (gs.filter (fun g => decide (g.length < 7))).length + (gs.filter (fun g => decide (g.length = 7))).length = gs.length
  | [], _ => rfl
  | g :: r, h => by
    have ih := split7 r (fun x hx => h x (List.mem_cons_of_mem _ hx))
    have h7 := h g (List.mem_cons_self ..)
    by_cases y : g.length < 7
    · have y2 : ¬ g.length = 7 := by omega
      rw [List.filter_cons_of_pos (by simp [y]), List.filter_cons_of_neg (by simp [y2]), List.length_cons, List.length_cons]
      omega
    · have y2 : g.length = 7 := by omega
      rw [List.filter_cons_of_neg (by simp [y]), List.filter_cons_of_pos (by simp [y2]), List.length_cons, List.length_cons]
      omega
theorem few7 {N gs : List (List Nat)} {m L : Nat} {V : List (List Nat)} (ho : okg gs m) (hm : ∀ x, x ∈ N ↔ x = [] ∨ isI gs m x ∨ isG gs m x) (hn : V.Nodup) (hL : L ≤ 10) (h0 : ∀ v ∈ V, v.length = L ∧ dpM N gs m v 7 = 7) : V.length ≤ 4000 := by
  have h14 := ho.1
  have sp := split7 gs (fun g hg => by
    obtain ⟨i, hi⟩ := List.mem_iff_getElem?.mp hg
    exact (ho.at hi).1.2)
  generalize hS : gs.filter (fun g => decide (g.length < 7)) = S at sp
  generalize hG : gs.filter (fun g => decide (g.length = 7)) = G at sp
  have h1 : V ⊆ G.flatMap (fun g => (rdF S 3 (L - 7)).map (· ++ g)) := fun v hv => by
    obtain ⟨v1, v2⟩ := h0 v hv
    obtain ⟨_, a2, _⟩ := dpM_is (N := N) (gs := gs) (m := m) (v := v) 7
    rw [v2] at a2
    have a4 := a2 (by omega)
    have ll := lsD_len a4.1
    have hg : isG gs m (lsD v 7) := by
      rcases (hm _).mp a4.2.1 with e | e | e
      · rw [e] at ll
        exact absurd ll (by decide)
      · have := (isI_ok ho e).2
        omega
      · exact e
    have hr : rdc gs m (v.take (v.length - 7)) ≠ 0 := fun q => a4.2.2 (by rw [dR_at a4.1, q]; rfl)
    have lt : (v.take (v.length - 7)).length = v.length - 7 := by
      rw [List.length_take]
      omega
    have hv7 := a4.1
    have mem := rdF_mem (S := S) ho (fun g hg hl => by rw [← hS]; exact List.mem_filter.mpr ⟨hg, decide_eq_true hl⟩) 3 (v.take (v.length - 7)) (by omega) (by omega) hr
    rw [lt, v1] at mem
    obtain ⟨k, gk, _⟩ := hg
    refine List.mem_flatMap.mpr ⟨lsD v 7, by rw [← hG]; exact List.mem_filter.mpr ⟨List.mem_of_getElem? gk, decide_eq_true ll⟩, List.mem_map.mpr ⟨_, mem, ?_⟩⟩
    show v.take (L - 7) ++ v.drop (v.length - 7) = v
    rw [v1]
    exact List.take_append_drop _ _
  have h2 := hn.length_le_of_subset h1
  have h3 := flat_len (f := fun g => (rdF S 3 (L - 7)).map (· ++ g)) (b := S.length ^ (L - 7)) G (fun g _ => by
    show ((rdF S 3 (L - 7)).map (· ++ g)).length ≤ _
    rw [List.length_map]
    exact rdF_len S 3 (L - 7))
  have h4 := p4000 S.length (by omega) G.length (by omega) (by omega) (L - 7) (by omega)
  omega
