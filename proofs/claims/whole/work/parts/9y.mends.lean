/-! tails on the reference's side: ends of groups, and how two rows stand in the dictionary -/
def kyw (k : Nat) (l : List Nat) : Nat := pkN l * 32 ^ (k - l.length)
theorem kyw_7 (l : List Nat) : kyw 7 l = kyl l := rfl
theorem kyw_cons {k x : Nat} {l : List Nat} (h : l.length ≤ k) : kyw (k + 1) (x :: l) = x * 32 ^ k + kyw k l := by
  unfold kyw
  have e := pkN_app [x] l
  rw [List.singleton_append, pkN_one] at e
  rw [e, List.length_cons, Nat.add_sub_add_right, Nat.add_mul, Nat.mul_assoc, ← Nat.pow_add, show l.length + (k - l.length) = k by omega]
theorem kyw_lt {k : Nat} {l : List Nat} (hl : l.length ≤ k) (hx : ∀ x ∈ l, x < 32) : kyw k l < 32 ^ k := by
  unfold kyw
  have h2 : pkN l * 32 ^ (k - l.length) < 32 ^ l.length * 32 ^ (k - l.length) := Nat.mul_lt_mul_of_pos_right (pkN_lt hx) (Nat.pow_pos (by decide))
  rw [← Nat.pow_add, show l.length + (k - l.length) = k by omega] at h2
  exact h2
theorem kyw_nil (k : Nat) : kyw k [] = 0 := by
  unfold kyw
  rw [pkN_nil, Nat.zero_mul]
/-- the first letter of a row as a sign, 0 if there is none -/
def frs : List Nat → Nat
  | [] => 0
  | x :: _ => x + 96
theorem ag_lex : ∀ (k : Nat) (a b : List Nat), a.length ≤ k → b.length ≤ k → (∀ x ∈ a, 0 < x ∧ x < 32) → (∀ x ∈ b, 0 < x ∧ x < 32) → (frs (a.drop (cpl a b)) = frs (b.drop (cpl a b)) ↔ a = b) ∧ (frs (b.drop (cpl a b)) < frs (a.drop (cpl a b)) ↔ kyw k b < kyw k a)
  | k, [], [], _, _, _, _ => ⟨⟨fun _ => rfl, fun _ => rfl⟩, by show (0 : Nat) < 0 ↔ _; omega⟩
  | k, [], y :: b, _, _, _, _ => ⟨⟨fun z => absurd (show (0 : Nat) = y + 96 from z) (by omega), fun z => by cases z⟩, by rw [kyw_nil]; show y + 96 < 0 ↔ _; omega⟩
  | 0, x :: a, b, h, _, _, _ => by
    rw [List.length_cons] at h
    omega
  | k + 1, x :: a, [], ha, _, ax, _ => ⟨⟨fun z => absurd (show x + 96 = 0 from z) (by omega), fun z => by cases z⟩, by
    rw [kyw_nil, kyw_cons (by rw [List.length_cons] at ha; omega)]
    have h0 := (ax x (List.mem_cons_self ..)).1
    have hp : 0 < 32 ^ k := Nat.pow_pos (by decide)
    have := Nat.mul_pos h0 hp
    show (0 < x + 96) ↔ _
    omega⟩
  | k + 1, x :: a, y :: b, ha, hb, ax, bx => by
    rw [List.length_cons] at ha hb
    have ax' : ∀ z ∈ a, 0 < z ∧ z < 32 := fun z hz => ax z (List.mem_cons_of_mem _ hz)
    have bx' : ∀ z ∈ b, 0 < z ∧ z < 32 := fun z hz => bx z (List.mem_cons_of_mem _ hz)
    rw [kyw_cons (by omega), kyw_cons (by omega)]
    by_cases e : x = y
    · subst e
      have ec : cpl (x :: a) (x :: b) = cpl a b + 1 := if_pos rfl
      obtain ⟨h1, h2⟩ := ag_lex k a b (by omega) (by omega) ax' bx'
      rw [ec, List.drop_succ_cons, List.drop_succ_cons]
      refine ⟨h1.trans ⟨fun z => by rw [z], fun z => by cases z; rfl⟩, h2.trans ?_⟩
      omega
    · have ec : cpl (x :: a) (y :: b) = 0 := if_neg e
      rw [ec, List.drop_zero, List.drop_zero]
      refine ⟨⟨fun z => absurd (show x + 96 = y + 96 from z) (by omega), fun z => by cases z; exact absurd rfl e⟩, ?_⟩
      show y + 96 < x + 96 ↔ _
      have ka := kyw_lt (k := k) (l := a) (by omega) (fun z hz => (ax' z hz).2)
      have kb := kyw_lt (k := k) (l := b) (by omega) (fun z hz => (bx' z hz).2)
      rcases (show x < y ∨ y < x by omega) with w | w
      · have := Nat.mul_le_mul_right (32 ^ k) (show x + 1 ≤ y from w)
        rw [Nat.add_mul, Nat.one_mul] at this
        omega
      · have := Nat.mul_le_mul_right (32 ^ k) (show y + 1 ≤ x from w)
        rw [Nat.add_mul, Nat.one_mul] at this
        omega
def rwE (gs : List (List Nat)) (e : Nat × Nat) : List Nat := (gs.getD e.1 []).drop e.2
def okE (gs : List (List Nat)) (E : List (Nat × Nat)) : Prop := E.length ≤ 100 ∧ ∀ e ∈ E, ∃ l, gs[e.1]? = some l ∧ e.2 < l.length
def MEn (h : PH) (gs : List (List Nat)) (E : List (Nat × Nat)) : Prop := okE gs E ∧ h_i h 17 32 = nI E.length ∧ ∀ t e, E[t]? = some e → h_i h 27 t = nI e.1 ∧ h_i h 28 t = nI e.2
theorem MEn.at {h : PH} {gs : List (List Nat)} {E : List (Nat × Nat)} {t : Nat} {e : Nat × Nat} (hE : MEn h gs E) (ht : E[t]? = some e) : ∃ l, gs[e.1]? = some l ∧ e.2 < l.length ∧ rwE gs e = l.drop e.2 ∧ t < 100 ∧ h_i h 27 t = nI e.1 ∧ h_i h 28 t = nI e.2 := by
  obtain ⟨l, h1, h2⟩ := hE.1.2 e (List.mem_of_getElem? ht)
  obtain ⟨h3, h4⟩ := hE.2.2 t e ht
  refine ⟨l, h1, h2, ?_, ?_, h3, h4⟩
  · unfold rwE
    rw [List.getD_eq_getElem?_getD, h1]
    rfl
  · have := (List.getElem?_eq_some_iff.mp ht).1
    have := hE.1.1
    omega
theorem md_tailSize {d : Nat} {h : PH} {Q : PQ} {gs : List (List Nat)} {m t : Nat} {E : List (Nat × Nat)} {e : Nat × Nat} (hM : MdS h) (hg : MGr h gs m) (hE : MEn h gs E) (ht : E[t]? = some e) (k : Q (some (.int (nI (rwE gs e).length))) h) : wpm (d + 1) 206 [.ref 17, .int (nI t)] h Q := by
  refine wpm_in P_Md_tailSize rfl (by decide) (by show ¬ 2 < 2; decide) ?_
  obtain ⟨l, h1, h2, h3, h4, h5, h6⟩ := hE.at ht
  obtain ⟨a1, a2, a3⟩ := hg.1.at h1
  have a7 := a1.2
  have vt : vp_in (nI t) 100 := vp_in_nI h4 (by omega)
  have vg : vp_in (h_i h 27 (nI t).toNatClampNeg) 14 := by
    rw [nI_clamp (by omega), h5]
    exact vp_in_nI a3 (by omega)
  refine B_Md_tailSize_0 hM.1 (mr_size hM) (mr_tailGroup hM) (ms_tailGroup hM) vt (ms_size hM) vg (mr_tailAt hM) (ms_tailAt hM) vt ?_
  rw [nI_clamp (by omega), h5, h6, nI_clamp (by omega), (hg.2.2.2 _ _ h1).1, nI_subN (by omega)]
  rw [h3, List.length_drop] at k
  exact k
theorem md_tailLetter {d : Nat} {h : PH} {Q : PQ} {gs : List (List Nat)} {m t i x : Nat} {E : List (Nat × Nat)} {e : Nat × Nat} (hM : MdS h) (hg : MGr h gs m) (hE : MEn h gs E) (ht : E[t]? = some e) (hx : (rwE gs e)[i]? = some x) (k : Q (some (.int (nI (x + 96)))) h) : wpm (d + 2) 207 [.ref 17, .int (nI t), .int (nI i)] h Q := by
  refine wpm_in P_Md_tailLetter rfl (by decide) (by show ¬ 3 < 3; decide) ?_
  obtain ⟨l, h1, h2, h3, h4, h5, h6⟩ := hE.at ht
  obtain ⟨a1, a2, a3⟩ := hg.1.at h1
  have a7 := a1.2
  have vt : vp_in (nI t) 100 := vp_in_nI h4 (by omega)
  rw [h3, List.getElem?_drop] at hx
  have hil := (List.getElem?_eq_some_iff.mp hx).1
  refine B_Md_tailLetter_0 hM.1 (mr_tailGroup hM) (ms_tailGroup hM) vt (mr_tailAt hM) (ms_tailAt hM) vt ?_
  rw [nI_clamp (by omega), h5, h6, nI_add]
  refine md_letterAt hM (by omega) (B_Md_tailLetter_18 ?_)
  rw [(hg.2.2.2 _ _ h1).2 _ _ hx]
  exact k
theorem frs_some {l : List Nat} {i x : Nat} (h : l[i]? = some x) : frs (l.drop i) = x + 96 := by
  have hi := (List.getElem?_eq_some_iff.mp h)
  obtain ⟨h1, h2⟩ := hi
  rw [List.drop_eq_getElem_cons h1, h2]
  rfl
theorem frs_none {l : List Nat} {i : Nat} (h : l.length ≤ i) : frs (l.drop i) = 0 := by
  rw [List.drop_eq_nil_of_le h]
  rfl
theorem md_against {d : Nat} {h : PH} {Q : PQ} {gs : List (List Nat)} {m g i t : Nat} {E : List (Nat × Nat)} {e : Nat × Nat} {l : List Nat} (hM : MdS h) (hg : MGr h gs m) (hE : MEn h gs E) (ht : E[t]? = some e) (hl : gs[g]? = some l) (hi : i ≤ l.length) (k : Q (some (.int (nI (frs ((l.drop i).drop (cpl (l.drop i) (rwE gs e)))) - nI (frs ((rwE gs e).drop (cpl (l.drop i) (rwE gs e))))))) h) : wpm (d + 3) 208 [.ref 17, .int (nI g), .int (nI i), .int (nI t)] h Q := by
  refine wpm_in P_Md_against rfl (by decide) (by show ¬ 7 < 4; decide) ?_
  obtain ⟨l', h1, h2, h3, h4, h5, h6⟩ := hE.at ht
  obtain ⟨a1, a2, a3⟩ := hg.1.at h1
  obtain ⟨b1, b2, b3⟩ := hg.1.at hl
  have a7 := a1.2
  have b7 := b1.2
  have vt : vp_in (nI t) 100 := vp_in_nI h4 (by omega)
  have vg : vp_in (nI g) 14 := vp_in_nI b3 (by omega)
  refine B_Md_against_0 hM.1 (mr_tailGroup hM) (ms_tailGroup hM) vt (mr_tailAt hM) (ms_tailAt hM) vt ?_
  rw [nI_clamp (by omega), h5, h6]
  refine md_alike hM hg hl h1 hi (by omega) ?_
  rw [← h3]
  have cl := cpl_le (l.drop i) (rwE gs e)
  have dl : (l.drop i).length = l.length - i := List.length_drop
  have el : (rwE gs e).length = l'.length - e.2 := by rw [h3, List.length_drop]
  generalize cpl (l.drop i) (rwE gs e) = n at cl k ⊢
  have second : ∀ (v : Nat) (v4 v5 v6 : Value), frs ((l.drop i).drop n) = v → wpx (d + 2) P_Md_against 46 [.ref 17, .int (nI g), .int (nI i), .int (nI t), .int (nI n), v5, v6] [.int (nI v)] h Q := fun v v4 v5 v6 hv => by
    rw [hv] at k
    refine B_Md_against_46 hM.1 (md_tailSize hM hg hE ht (B_Md_against_55 (fun z => ?_) (fun z => ?_)))
    · rw [nI_leI (by omega) (by omega)] at z
      rw [frs_none z] at k
      exact B_Md_against_68 (B_Md_against_69 k)
    · rw [nI_leI (by omega) (by omega)] at z
      have gx : (rwE gs e)[n]? = some (rwE gs e)[n] := List.getElem?_eq_getElem (by omega)
      rw [frs_some gx] at k
      exact B_Md_against_58 hM.1 (md_tailLetter hM hg hE ht gx (B_Md_against_65 (B_Md_against_69 k)))
  refine B_Md_against_18 hM.1 (mr_size hM) (ms_size hM) vg (fun z => ?_) (fun z => ?_)
  · rw [nI_clamp (by omega), (hg.2.2.2 _ _ hl).1, nI_add, nI_leI (by omega) (by omega)] at z
    exact B_Md_against_45 (second 0 (.int 0) _ _ (frs_none (by omega)))
  · rw [nI_clamp (by omega), (hg.2.2.2 _ _ hl).1, nI_add, nI_leI (by omega) (by omega)] at z
    have gx : (l.drop i)[n]? = some (l.drop i)[n] := List.getElem?_eq_getElem (by omega)
    have gx' := gx
    rw [List.getElem?_drop] at gx'
    refine B_Md_against_33 hM.1 ?_
    rw [nI_add]
    refine md_letterAt hM (by omega) ?_
    rw [(hg.2.2.2 _ _ hl).2 _ _ gx']
    exact B_Md_against_42 (second _ (.int 0) _ _ (frs_some gx))
