/-! borders: their order, and how many there are at most -/
/-- rows of n letters, in order -/
def RwO (n : Nat) (L : List (List Nat)) : Prop := L.Pairwise (fun a b => pkN a < pkN b) ∧ ∀ r ∈ L, r.length = n ∧ ∀ x ∈ r, 0 < x ∧ x < 28
theorem RwO.flt {n : Nat} {L : List (List Nat)} {p : List Nat → Prop} (h : RwO n L) : RwO n (fltP p L) := ⟨List.Pairwise.sublist (List.filter_sublist ..) h.1, fun r hr => h.2 r (fltP_mem.mp hr).1⟩
theorem RwO.cnd {n c : Nat} {L : List (List Nat)} (h : RwO n L) (hc : c < 27) : RwO (n + 1) (cndL L c) := by
  refine ⟨?_, fun r hr => ?_⟩
  · unfold cndL
    rw [List.pairwise_map]
    refine List.Pairwise.imp_of_mem (fun {a b} ha hb hab => ?_) h.1
    rw [pkN_cons, pkN_cons, (h.2 a ha).1, (h.2 b hb).1]
    omega
  · obtain ⟨t, ht, e⟩ := List.mem_map.mp hr
    obtain ⟨h1, h2⟩ := h.2 t ht
    rw [← e]
    refine ⟨by rw [List.length_cons, h1], fun x hx => ?_⟩
    rcases List.mem_cons.mp hx with z | z
    · omega
    · exact h2 x z
theorem RwO.cndR {n : Nat} {L : List (List Nat)} (h : RwO n L) : ∀ (e c : Nat), c + e ≤ 27 → RwO (n + 1) (cndR L c e)
  | 0, c, _ => ⟨List.Pairwise.nil, fun r hr => by cases hr⟩
  | e + 1, c, hc => by
    have h1 := h.cnd (c := c) (by omega)
    have h2 := RwO.cndR h e (c + 1) (by omega)
    rw [cndR_s]
    refine ⟨List.pairwise_append.mpr ⟨h1.1, h2.1, fun a ha b hb => ?_⟩, fun r hr => (List.mem_append.mp hr).elim (h1.2 r) (h2.2 r)⟩
    obtain ⟨t, ht, e1⟩ := List.mem_map.mp ha
    obtain ⟨s, u, e2, s1, s2, hu⟩ := cndR_mem.mp hb
    obtain ⟨t1, t2⟩ := h.2 t ht
    obtain ⟨u1, u2⟩ := h.2 u hu
    rw [← e1, e2, pkN_cons, pkN_cons, t1, u1]
    have lt := pkN_lt (l := t) (fun x hx => by have := t2 x hx; omega)
    rw [t1] at lt
    have : (c + 1 + 1) * 32 ^ n ≤ s * 32 ^ n := Nat.mul_le_mul_right _ (by omega)
    rw [Nat.succ_mul] at this
    omega
theorem opn_O {gs : List (List Nat)} {m : Nat} : ∀ n, RwO n (opn gs m n)
  | 0 => ⟨List.pairwise_singleton .., fun r hr => by
    rw [List.mem_singleton.mp hr]
    exact ⟨rfl, fun x hx => by cases hx⟩⟩
  | n + 1 => ((opn_O n).cndR 27 0 (by decide)).flt
theorem bor_O {gs : List (List Nat)} {m n : Nat} : RwO (n + 1) (bor gs m (n + 1)) := ((opn_O n).cndR 27 0 (by decide)).flt
theorem RwO.nd {n : Nat} {L : List (List Nat)} (h : RwO n L) : L.Nodup := List.Pairwise.imp (fun hab e => by rw [e] at hab; exact Nat.lt_irrefl _ hab) h.1
theorem opn_le {gs : List (List Nat)} {m : Nat} : ∀ n, (opn gs m n).length ≤ 27 ^ n
  | 0 => Nat.le_refl _
  | n + 1 => by
    have h1 := opn_le (gs := gs) (m := m) n
    have h2 : (opn gs m (n + 1)).length ≤ (cndR (opn gs m n) 0 27).length := fltP_len
    rw [cndR_len] at h2
    rw [Nat.pow_succ]
    omega
theorem bor_le {gs : List (List Nat)} {m n : Nat} : (bor gs m (n + 1)).length ≤ 27 * (opn gs m n).length := by
  have h2 : (bor gs m (n + 1)).length ≤ (cndR (opn gs m n) 0 27).length := fltP_len
  rw [cndR_len] at h2
  exact h2
/-! candidates -/
theorem lsD_app (x t : List Nat) : lsD (x ++ t) t.length = t := by
  unfold lsD
  rw [List.length_append, Nat.add_sub_cancel]
  exact List.drop_left
theorem isG_mem {gs : List (List Nat)} {m : Nat} {g : List Nat} (h : isG gs m g) : g ∈ gs := by
  obtain ⟨k, hk, _⟩ := h
  exact List.mem_of_getElem? hk
theorem iE_c {gs : List (List Nat)} {m : Nat} {t : List Nat} (ho : okg gs m) (ht : t ≠ []) (h : iE gs m t) : ∃ g ∈ gs, 0 < g.length ∧ ((t.length ≤ g.length ∧ t = lsD g t.length) ∨ (∃ t', t' ≠ [] ∧ t = t' ++ g ∧ iE gs m t')) := by
  obtain ⟨g, hg, (⟨hl, x, e⟩ | ⟨hl, t', e, h'⟩)⟩ := (iE_rec ho ht).mp h
  · refine ⟨g, isG_mem hg, (isG_ok ho hg).2, Or.inl ⟨hl, ?_⟩⟩
    rw [e, lsD_app]
  · refine ⟨g, isG_mem hg, (isG_ok ho hg).2, ?_⟩
    by_cases y : t' = []
    · rw [y, List.nil_append] at e
      refine Or.inl ⟨by rw [e]; exact Nat.le_refl _, ?_⟩
      have := lsD_app [] t
      rw [List.nil_append] at this
      rw [← e]
      exact this.symm
    · exact Or.inr ⟨t', y, e, h'⟩
theorem iW_c {gs : List (List Nat)} {m : Nat} {t : List Nat} (h : iW gs m t) : ∃ g ∈ gs, ∃ j, 0 < j ∧ j < g.length ∧ ((t.length ≤ j ∧ t = lsD (g.take j) t.length) ∨ (∃ t', t' ≠ [] ∧ t = t' ++ g.take j ∧ iE gs m t')) := by
  obtain ⟨y, hy, ⟨g, hg, j, hj, ey⟩, hc⟩ := iW_rec.mp h
  have j0 : 0 < j := Nat.pos_of_ne_zero (fun z => hy (by rw [ey, z, List.take_zero]))
  have yl : y.length = j := by
    rw [ey, List.length_take]
    omega
  refine ⟨g, isG_mem hg, j, j0, hj, ?_⟩
  rcases hc with ⟨hl, x, e⟩ | ⟨hl, t', e, h'⟩
  · refine Or.inl ⟨by omega, ?_⟩
    rw [← ey, e, lsD_app]
  · by_cases z : t' = []
    · rw [z, List.nil_append] at e
      refine Or.inl ⟨by rw [e]; omega, ?_⟩
      have := lsD_app [] t
      rw [List.nil_append] at this
      rw [← ey, ← e]
      exact this.symm
    · exact Or.inr ⟨t', z, by rw [← ey]; exact e, h'⟩
def apF (S E : List (List Nat)) (f : List Nat → List Nat) : List (List Nat) := S.flatMap (fun g => E.map (fun e => e ++ f g))
theorem apF_len {S E : List (List Nat)} {f : List Nat → List Nat} : (apF S E f).length ≤ S.length * E.length := flat_len S (fun g _ => by rw [List.length_map]; exact Nat.le_refl _)
theorem apF_mem {S E : List (List Nat)} {f : List Nat → List Nat} {g e : List Nat} (hg : g ∈ S) (he : e ∈ E) : e ++ f g ∈ apF S E f := List.mem_flatMap.mpr ⟨g, hg, List.mem_map.mpr ⟨e, he, rfl⟩⟩
def sL1 (gs : List (List Nat)) : List (List Nat) := gs.filter (fun g => decide (g.length < 2))
def sL2 (gs : List (List Nat)) : List (List Nat) := gs.filter (fun g => !decide (g.length < 2))
def eL1 (gs : List (List Nat)) : List (List Nat) := gs.map (fun g => lsD g 1)
def eL2 (gs : List (List Nat)) : List (List Nat) := (sL2 gs).map (fun g => lsD g 2) ++ apF (sL1 gs) (eL1 gs) id
def eL3 (gs : List (List Nat)) : List (List Nat) := (sL2 gs).map (fun g => lsD g 3) ++ (apF (sL2 gs) (eL1 gs) id ++ apF (sL1 gs) (eL2 gs) id)
def eL4 (gs : List (List Nat)) : List (List Nat) := (sL2 gs).map (fun g => lsD g 4) ++ (apF (sL2 gs) (eL1 gs) id ++ (apF (sL2 gs) (eL2 gs) id ++ apF (sL1 gs) (eL3 gs) id))
def wL3 (gs : List (List Nat)) : List (List Nat) := apF (sL2 gs) [[]] (fun g => lsD (g.take 3) 3) ++ (apF (sL2 gs) [[]] (fun g => lsD (g.take 4) 3) ++ (apF (sL2 gs) [[]] (fun g => lsD (g.take 5) 3) ++ (apF (sL2 gs) [[]] (fun g => lsD (g.take 6) 3) ++ (apF (sL2 gs) (eL1 gs) (fun g => g.take 2) ++ apF (sL2 gs) (eL2 gs) (fun g => g.take 1)))))
def wL4 (gs : List (List Nat)) : List (List Nat) := apF (sL2 gs) [[]] (fun g => lsD (g.take 4) 4) ++ (apF (sL2 gs) [[]] (fun g => lsD (g.take 5) 4) ++ (apF (sL2 gs) [[]] (fun g => lsD (g.take 6) 4) ++ (apF (sL2 gs) (eL1 gs) (fun g => g.take 3) ++ (apF (sL2 gs) (eL2 gs) (fun g => g.take 2) ++ apF (sL2 gs) (eL3 gs) (fun g => g.take 1)))))
theorem sL_len (gs : List (List Nat)) : (sL1 gs).length + (sL2 gs).length = gs.length := split2 (fun g : List Nat => decide (g.length < 2)) gs
theorem sL1_mem {gs : List (List Nat)} {g : List Nat} (h : g ∈ gs) (hl : g.length < 2) : g ∈ sL1 gs := List.mem_filter.mpr ⟨h, decide_eq_true hl⟩
theorem sL2_mem {gs : List (List Nat)} {g : List Nat} (h : g ∈ gs) (hl : ¬ g.length < 2) : g ∈ sL2 gs := List.mem_filter.mpr ⟨h, by rw [decide_eq_false hl]; rfl⟩
theorem eL1_len (gs : List (List Nat)) : (eL1 gs).length = gs.length := List.length_map ..
theorem eL2_len (gs : List (List Nat)) : (eL2 gs).length ≤ (sL2 gs).length + (sL1 gs).length * gs.length := by
  unfold eL2
  rw [List.length_append, List.length_map]
  have := apF_len (S := sL1 gs) (E := eL1 gs) (f := id)
  rw [eL1_len] at this
  omega
theorem eL3_len (gs : List (List Nat)) : (eL3 gs).length ≤ (sL2 gs).length + ((sL2 gs).length * gs.length + (sL1 gs).length * (eL2 gs).length) := by
  unfold eL3
  rw [List.length_append, List.length_append, List.length_map]
  have h1 := apF_len (S := sL2 gs) (E := eL1 gs) (f := id)
  have h2 := apF_len (S := sL1 gs) (E := eL2 gs) (f := id)
  rw [eL1_len] at h1
  omega
theorem eL4_len (gs : List (List Nat)) : (eL4 gs).length ≤ (sL2 gs).length + ((sL2 gs).length * gs.length + ((sL2 gs).length * (eL2 gs).length + (sL1 gs).length * (eL3 gs).length)) := by
  unfold eL4
  rw [List.length_append, List.length_append, List.length_append, List.length_map]
  have h1 := apF_len (S := sL2 gs) (E := eL1 gs) (f := id)
  have h2 := apF_len (S := sL2 gs) (E := eL2 gs) (f := id)
  have h3 := apF_len (S := sL1 gs) (E := eL3 gs) (f := id)
  rw [eL1_len] at h1
  omega
theorem wL3_len (gs : List (List Nat)) : (wL3 gs).length ≤ 4 * (sL2 gs).length + ((sL2 gs).length * gs.length + (sL2 gs).length * (eL2 gs).length) := by
  unfold wL3
  rw [List.length_append, List.length_append, List.length_append, List.length_append, List.length_append]
  have a3 := apF_len (S := sL2 gs) (E := [[]]) (f := fun g => lsD (g.take 3) 3)
  have a4 := apF_len (S := sL2 gs) (E := [[]]) (f := fun g => lsD (g.take 4) 3)
  have a5 := apF_len (S := sL2 gs) (E := [[]]) (f := fun g => lsD (g.take 5) 3)
  have a6 := apF_len (S := sL2 gs) (E := [[]]) (f := fun g => lsD (g.take 6) 3)
  have h1 := apF_len (S := sL2 gs) (E := eL1 gs) (f := fun g => g.take 2)
  have h2 := apF_len (S := sL2 gs) (E := eL2 gs) (f := fun g => g.take 1)
  rw [eL1_len] at h1
  have one : ([[]] : List (List Nat)).length = 1 := rfl
  rw [one, Nat.mul_one] at a3 a4 a5 a6
  omega
theorem wL4_len (gs : List (List Nat)) : (wL4 gs).length ≤ 3 * (sL2 gs).length + ((sL2 gs).length * gs.length + ((sL2 gs).length * (eL2 gs).length + (sL2 gs).length * (eL3 gs).length)) := by
  unfold wL4
  rw [List.length_append, List.length_append, List.length_append, List.length_append, List.length_append]
  have a4 := apF_len (S := sL2 gs) (E := [[]]) (f := fun g => lsD (g.take 4) 4)
  have a5 := apF_len (S := sL2 gs) (E := [[]]) (f := fun g => lsD (g.take 5) 4)
  have a6 := apF_len (S := sL2 gs) (E := [[]]) (f := fun g => lsD (g.take 6) 4)
  have h1 := apF_len (S := sL2 gs) (E := eL1 gs) (f := fun g => g.take 3)
  have h2 := apF_len (S := sL2 gs) (E := eL2 gs) (f := fun g => g.take 2)
  have h3 := apF_len (S := sL2 gs) (E := eL3 gs) (f := fun g => g.take 1)
  rw [eL1_len] at h1
  have one : ([[]] : List (List Nat)).length = 1 := rfl
  rw [one, Nat.mul_one] at a4 a5 a6
  omega
theorem ne_len {t : List Nat} {n : Nat} (h : t.length = n + 1) : t ≠ [] := fun z => by rw [z] at h; cases h
theorem eL1_in {gs : List (List Nat)} {m : Nat} {t : List Nat} (ho : okg gs m) (hl : t.length = 1) (h : iE gs m t) : t ∈ eL1 gs := by
  obtain ⟨g, hg, g0, (⟨_, e⟩ | ⟨t', ht', e, _⟩)⟩ := iE_c ho (ne_len hl) h
  · rw [hl] at e
    exact List.mem_map.mpr ⟨g, hg, e.symm⟩
  · have := List.length_pos_iff.mpr ht'
    rw [e, List.length_append] at hl
    omega
theorem eL2_in {gs : List (List Nat)} {m : Nat} {t : List Nat} (ho : okg gs m) (hl : t.length = 2) (h : iE gs m t) : t ∈ eL2 gs := by
  obtain ⟨g, hg, g0, (⟨h1, e⟩ | ⟨t', ht', e, h'⟩)⟩ := iE_c ho (ne_len hl) h
  · rw [hl] at e h1
    exact List.mem_append_left _ (List.mem_map.mpr ⟨g, sL2_mem hg (by omega), e.symm⟩)
  · have l0 := List.length_pos_iff.mpr ht'
    rw [e, List.length_append] at hl
    rw [e]
    exact List.mem_append_right _ (apF_mem (f := id) (sL1_mem hg (by omega)) (eL1_in ho (by omega) h'))
theorem eL3_in {gs : List (List Nat)} {m : Nat} {t : List Nat} (ho : okg gs m) (hl : t.length = 3) (h : iE gs m t) : t ∈ eL3 gs := by
  obtain ⟨g, hg, g0, (⟨h1, e⟩ | ⟨t', ht', e, h'⟩)⟩ := iE_c ho (ne_len hl) h
  · rw [hl] at e h1
    exact List.mem_append_left _ (List.mem_map.mpr ⟨g, sL2_mem hg (by omega), e.symm⟩)
  · have l0 := List.length_pos_iff.mpr ht'
    rw [e, List.length_append] at hl
    rw [e]
    by_cases y : g.length < 2
    · exact List.mem_append_right _ (List.mem_append_right _ (apF_mem (f := id) (sL1_mem hg y) (eL2_in ho (by omega) h')))
    · exact List.mem_append_right _ (List.mem_append_left _ (apF_mem (f := id) (sL2_mem hg y) (eL1_in ho (by omega) h')))
theorem eL4_in {gs : List (List Nat)} {m : Nat} {t : List Nat} (ho : okg gs m) (hl : t.length = 4) (h : iE gs m t) : t ∈ eL4 gs := by
  obtain ⟨g, hg, g0, (⟨h1, e⟩ | ⟨t', ht', e, h'⟩)⟩ := iE_c ho (ne_len hl) h
  · rw [hl] at e h1
    exact List.mem_append_left _ (List.mem_map.mpr ⟨g, sL2_mem hg (by omega), e.symm⟩)
  · have l0 := List.length_pos_iff.mpr ht'
    rw [e, List.length_append] at hl
    rw [e]
    by_cases y : g.length < 2
    · exact List.mem_append_right _ (List.mem_append_right _ (List.mem_append_right _ (apF_mem (f := id) (sL1_mem hg y) (eL3_in ho (by omega) h'))))
    · by_cases z : t'.length = 1
      · exact List.mem_append_right _ (List.mem_append_left _ (apF_mem (f := id) (sL2_mem hg y) (eL1_in ho z h')))
      · exact List.mem_append_right _ (List.mem_append_right _ (List.mem_append_left _ (apF_mem (f := id) (sL2_mem hg y) (eL2_in ho (by omega) h'))))
theorem wL3_in {gs : List (List Nat)} {m : Nat} {t : List Nat} (ho : okg gs m) (hl : t.length = 3) (h : iW gs m t) : t ∈ wL3 gs := by
  obtain ⟨g, hg, j, j0, jg, hc⟩ := iW_c h
  have g7 := (ho.2.2 g hg).1.2
  have s2 := sL2_mem hg (show ¬ g.length < 2 by omega)
  have nl : ([] : List Nat) ∈ ([[]] : List (List Nat)) := List.mem_singleton.mpr rfl
  rcases hc with ⟨h1, e⟩ | ⟨t', ht', e, h'⟩
  · rw [hl] at h1 e
    rcases (show j = 3 ∨ j = 4 ∨ j = 5 ∨ j = 6 by omega) with z | z | z | z <;> rw [z] at e <;> rw [e]
    · exact List.mem_append_left _ (apF_mem (f := fun g => lsD (g.take 3) 3) s2 nl)
    · exact List.mem_append_right _ (List.mem_append_left _ (apF_mem (f := fun g => lsD (g.take 4) 3) s2 nl))
    · exact List.mem_append_right _ (List.mem_append_right _ (List.mem_append_left _ (apF_mem (f := fun g => lsD (g.take 5) 3) s2 nl)))
    · exact List.mem_append_right _ (List.mem_append_right _ (List.mem_append_right _ (List.mem_append_left _ (apF_mem (f := fun g => lsD (g.take 6) 3) s2 nl))))
  · have l0 := List.length_pos_iff.mpr ht'
    rw [e, List.length_append, List.length_take] at hl
    rw [e]
    refine List.mem_append_right _ (List.mem_append_right _ (List.mem_append_right _ (List.mem_append_right _ ?_)))
    rcases (show j = 2 ∨ j = 1 by omega) with z | z <;> rw [z] at hl ⊢
    · exact List.mem_append_left _ (apF_mem (f := fun g => g.take 2) s2 (eL1_in ho (by omega) h'))
    · exact List.mem_append_right _ (apF_mem (f := fun g => g.take 1) s2 (eL2_in ho (by omega) h'))
theorem wL4_in {gs : List (List Nat)} {m : Nat} {t : List Nat} (ho : okg gs m) (hl : t.length = 4) (h : iW gs m t) : t ∈ wL4 gs := by
  obtain ⟨g, hg, j, j0, jg, hc⟩ := iW_c h
  have g7 := (ho.2.2 g hg).1.2
  have s2 := sL2_mem hg (show ¬ g.length < 2 by omega)
  have nl : ([] : List Nat) ∈ ([[]] : List (List Nat)) := List.mem_singleton.mpr rfl
  rcases hc with ⟨h1, e⟩ | ⟨t', ht', e, h'⟩
  · rw [hl] at h1 e
    rcases (show j = 4 ∨ j = 5 ∨ j = 6 by omega) with z | z | z <;> rw [z] at e <;> rw [e]
    · exact List.mem_append_left _ (apF_mem (f := fun g => lsD (g.take 4) 4) s2 nl)
    · exact List.mem_append_right _ (List.mem_append_left _ (apF_mem (f := fun g => lsD (g.take 5) 4) s2 nl))
    · exact List.mem_append_right _ (List.mem_append_right _ (List.mem_append_left _ (apF_mem (f := fun g => lsD (g.take 6) 4) s2 nl)))
  · have l0 := List.length_pos_iff.mpr ht'
    rw [e, List.length_append, List.length_take] at hl
    rw [e]
    refine List.mem_append_right _ (List.mem_append_right _ (List.mem_append_right _ ?_))
    rcases (show j = 3 ∨ j = 2 ∨ j = 1 by omega) with z | z | z <;> rw [z] at hl ⊢
    · exact List.mem_append_left _ (apF_mem (f := fun g => g.take 3) s2 (eL1_in ho (by omega) h'))
    · exact List.mem_append_right _ (List.mem_append_left _ (apF_mem (f := fun g => g.take 2) s2 (eL2_in ho (by omega) h')))
    · exact List.mem_append_right _ (List.mem_append_right _ (apF_mem (f := fun g => g.take 1) s2 (eL3_in ho (by omega) h')))
theorem b20k : ∀ a, a < 15 → ∀ s, s < 15 → a + s ≤ 14 → 3 * a + (a * 14 + (a * (a + s * 14) + a * (a + (a * 14 + s * (a + s * 14))))) ≤ 20000 ∧ (27 * (4 * a + (a * 14 + a * (a + s * 14))) ≤ 20000 ∨ a + (a * 14 + (a * (a + s * 14) + s * (a + (a * 14 + s * (a + s * 14))))) ≤ 20000) := by decide +kernel
theorem bor4_le {gs : List (List Nat)} {m : Nat} (ho : okg gs m) : (opn gs m 4).length ≤ 20000 ∧ (bor gs m 4).length ≤ 20000 := by
  have h14 := ho.1
  have hs := sL_len gs
  have o4 : (opn gs m 4).length ≤ (wL4 gs).length := (opn_O 4).nd.length_le_of_subset (fun r hr => wL4_in ho ((opn_O 4).2 r hr).1 (fltP_mem.mp hr).2.2)
  have o3 : (opn gs m 3).length ≤ (wL3 gs).length := (opn_O 3).nd.length_le_of_subset (fun r hr => wL3_in ho ((opn_O 3).2 r hr).1 (fltP_mem.mp hr).2.2)
  have b4 : (bor gs m 4).length ≤ (eL4 gs).length := (bor_O (n := 3)).nd.length_le_of_subset (fun r hr => eL4_in ho ((bor_O (n := 3)).2 r hr).1 (fltP_mem.mp hr).2.1)
  have b3 : (bor gs m 4).length ≤ 27 * (opn gs m 3).length := bor_le (gs := gs) (m := m) (n := 3)
  obtain ⟨q1, q2⟩ := b20k (sL2 gs).length (by omega) (sL1 gs).length (by omega) (by omega)
  have e2 := eL2_len gs
  have e3 := eL3_len gs
  have e4 := eL4_len gs
  have w3 := wL3_len gs
  have w4 := wL4_len gs
  generalize (sL2 gs).length = a at *
  generalize (sL1 gs).length = s at *
  have m1 : s * gs.length ≤ s * 14 := Nat.mul_le_mul_left _ h14
  have m2 : a * gs.length ≤ a * 14 := Nat.mul_le_mul_left _ h14
  have f2 : (eL2 gs).length ≤ a + s * 14 := by omega
  have m3 : s * (eL2 gs).length ≤ s * (a + s * 14) := Nat.mul_le_mul_left _ f2
  have m4 : a * (eL2 gs).length ≤ a * (a + s * 14) := Nat.mul_le_mul_left _ f2
  have f3 : (eL3 gs).length ≤ a + (a * 14 + s * (a + s * 14)) := by omega
  have m5 : s * (eL3 gs).length ≤ s * (a + (a * 14 + s * (a + s * 14))) := Nat.mul_le_mul_left _ f3
  have m6 : a * (eL3 gs).length ≤ a * (a + (a * 14 + s * (a + s * 14))) := Nat.mul_le_mul_left _ f3
  refine ⟨by omega, ?_⟩
  rcases q2 with q | q
  · omega
  · omega
theorem opn_20k {gs : List (List Nat)} {m n : Nat} (ho : okg gs m) (hn : n ≤ 4) : (opn gs m n).length ≤ 20000 := by
  rcases (show n = 0 ∨ n = 1 ∨ n = 2 ∨ n = 3 ∨ n = 4 by omega) with z | z | z | z | z <;> subst z
  · exact Nat.le_trans (opn_le 0) (by decide)
  · exact Nat.le_trans (opn_le 1) (by decide)
  · exact Nat.le_trans (opn_le 2) (by decide)
  · exact Nat.le_trans (opn_le 3) (by decide)
  · exact (bor4_le ho).1
theorem bor_20k {gs : List (List Nat)} {m n : Nat} (ho : okg gs m) (h0 : 0 < n) (hn : n ≤ 4) : (bor gs m n).length ≤ 20000 := by
  rcases (show n = 1 ∨ n = 2 ∨ n = 3 ∨ n = 4 by omega) with z | z | z | z <;> subst z
  · have h1 : (bor gs m 1).length ≤ 27 * (opn gs m 0).length := bor_le (gs := gs) (m := m) (n := 0)
    have h2 := opn_le (gs := gs) (m := m) 0
    omega
  · have h1 : (bor gs m 2).length ≤ 27 * (opn gs m 1).length := bor_le (gs := gs) (m := m) (n := 1)
    have h2 := opn_le (gs := gs) (m := m) 1
    omega
  · have h1 : (bor gs m 3).length ≤ 27 * (opn gs m 2).length := bor_le (gs := gs) (m := m) (n := 2)
    have h2 := opn_le (gs := gs) (m := m) 2
    omega
  · exact (bor4_le ho).2
