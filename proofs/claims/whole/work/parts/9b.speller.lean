/-! spell on the class's side: rows of groups for sounds, in their order -/
def catG (gs : List (List Nat)) (r : List Nat) : List Nat := r.flatMap (fun k => gs.getD k [])
theorem catG_snoc (gs : List (List Nat)) (r : List Nat) (k : Nat) : catG gs (r ++ [k]) = catG gs r ++ gs.getD k [] := by
  unfold catG
  rw [List.flatMap_append]
  show _ ++ (gs.getD k [] ++ []) = _
  rw [List.append_nil]
def btr (gs : List (List Nat)) (n : Nat) : Option (List Nat) → Bool
  | none => true
  | some v => decide (n < (catG gs v).length)
def spJ (gs : List (List Nat)) (m : Nat) (so : Nat → Int32) (F : List Nat → Option (List Nat) → Option (List Nat)) (a : Int32) (r : List Nat) : Nat → Nat → Option (List Nat) → Option (List Nat)
  | 0, _, b => b
  | c + 1, j, b => spJ gs m so F a r c (j + 1) (if inm m j ∧ so j = a then F (r ++ [j]) b else b)
def spF (gs : List (List Nat)) (m : Nat) (so : Nat → Int32) : List Int32 → List Nat → Option (List Nat) → Option (List Nat)
  | [], r, b => if btr gs (catG gs r).length b = true ∧ rdc gs m (catG gs r) = 1 then some r else b
  | a :: A, r, b => spJ gs m so (spF gs m so A) a r gs.length 0 b
/-- the least letters of a group of a sound -/
def mnl (gs : List (List Nat)) (m : Nat) (so : Nat → Int32) (a : Int32) : Nat → Option Nat
  | 0 => none
  | j + 1 => if inm m j ∧ so j = a then (match mnl gs m so a j with
    | none => some (gs.getD j []).length
    | some n => if (gs.getD j []).length < n then some (gs.getD j []).length else some n) else mnl gs m so a j
theorem mnl_le {gs : List (List Nat)} {m : Nat} {so : Nat → Int32} {a : Int32} {k : Nat} (hk : inm m k ∧ so k = a) : ∀ j, k < j → ∃ n, mnl gs m so a j = some n ∧ n ≤ (gs.getD k []).length
  | 0, h => by omega
  | j + 1, h => by
    show ∃ n, (if inm m j ∧ so j = a then _ else _) = some n ∧ _
    by_cases e : k = j
    · subst e
      rw [if_pos hk]
      cases hm : mnl gs m so a k with
      | none => exact ⟨_, rfl, Nat.le_refl _⟩
      | some n =>
        show ∃ n', (if (gs.getD k []).length < n then some (gs.getD k []).length else some n) = some n' ∧ _
        by_cases z : (gs.getD k []).length < n
        · rw [if_pos z]
          exact ⟨_, rfl, Nat.le_refl _⟩
        · rw [if_neg z]
          exact ⟨_, rfl, by omega⟩
    · obtain ⟨n, h1, h2⟩ := mnl_le (gs := gs) hk j (by omega)
      by_cases q : inm m j ∧ so j = a
      · rw [if_pos q, h1]
        show ∃ n', (if (gs.getD j []).length < n then some (gs.getD j []).length else some n) = some n' ∧ _
        by_cases z : (gs.getD j []).length < n
        · rw [if_pos z]
          exact ⟨_, rfl, by omega⟩
        · rw [if_neg z]
          exact ⟨_, rfl, h2⟩
      · rw [if_neg q]
        exact ⟨n, h1, h2⟩
theorem mnl_7 {gs : List (List Nat)} {m : Nat} {so : Nat → Int32} {a : Int32} (ho : okg gs m) : ∀ j n, j ≤ gs.length → mnl gs m so a j = some n → n ≤ 7
  | 0, n, _, h => by cases h
  | j + 1, n, hj, h => by
    have gj : gs[j]? = some gs[j] := List.getElem?_eq_getElem (by omega)
    have el : gs.getD j [] = gs[j] := by rw [List.getD_eq_getElem?_getD, gj]; rfl
    obtain ⟨a1, a2, a3⟩ := ho.at gj
    have h7 := a1.2
    unfold mnl at h
    by_cases q : inm m j ∧ so j = a
    · rw [if_pos q, el] at h
      cases hm : mnl gs m so a j with
      | none =>
        rw [hm] at h
        have := Option.some.inj h
        omega
      | some n' =>
        have := mnl_7 ho j n' (by omega) hm
        rw [hm] at h
        by_cases z : gs[j].length < n'
        · have := Option.some.inj ((if_pos z).symm.trans h)
          omega
        · have := Option.some.inj ((if_neg z).symm.trans h)
          omega
    · rw [if_neg q] at h
      exact mnl_7 ho j n (by omega) h
/-- letters that sounds need at least -/
def alw (gs : List (List Nat)) (m : Nat) (so : Nat → Int32) : List Int32 → Nat
  | [] => 0
  | a :: A => (mnl gs m so a gs.length).getD 0 + alw gs m so A
theorem spJ_id {gs : List (List Nat)} {m : Nat} {so : Nat → Int32} {F : List Nat → Option (List Nat) → Option (List Nat)} {a : Int32} {r : List Nat} {b : Option (List Nat)} : ∀ c j, j + c = gs.length → (∀ k, k < gs.length → inm m k ∧ so k = a → F (r ++ [k]) b = b) → spJ gs m so F a r c j b = b
  | 0, j, _, _ => rfl
  | c + 1, j, hj, h => by
    have e : (if inm m j ∧ so j = a then F (r ++ [j]) b else b) = b := by
      by_cases q : inm m j ∧ so j = a
      · rw [if_pos q]
        exact h j (by omega) q
      · rw [if_neg q]
    show spJ gs m so F a r c (j + 1) (if inm m j ∧ so j = a then F (r ++ [j]) b else b) = b
    rw [e]
    exact spJ_id c (j + 1) (by omega) h
/-- what is cut off changes nothing -/
theorem spF_cut {gs : List (List Nat)} {m : Nat} {so : Nat → Int32} (ho : okg gs m) : ∀ (A : List Int32) (r : List Nat) (b : Option (List Nat)), (2 ≤ rdc gs m (catG gs r) ∨ ∃ v, b = some v ∧ (catG gs v).length ≤ (catG gs r).length + alw gs m so A) → spF gs m so A r b = b
  | [], r, b, h => by
    show (if _ then _ else _) = _
    rw [if_neg]
    rintro ⟨h1, h2⟩
    rcases h with q | ⟨v, rfl, q⟩
    · omega
    · have := of_decide_eq_true h1
      have e : alw gs m so [] = 0 := rfl
      omega
  | a :: A, r, b, h => by
    refine spJ_id _ _ (Nat.zero_add _) (fun k hk hka => spF_cut ho A (r ++ [k]) b ?_)
    have gk : gs[k]? = some gs[k] := List.getElem?_eq_getElem hk
    have el : gs.getD k [] = gs[k] := by rw [List.getD_eq_getElem?_getD, gk]; rfl
    rw [catG_snoc, el]
    rcases h with q | ⟨v, rfl, q⟩
    · exact Or.inl (Nat.le_trans q (rdc_app ho gk hka.1))
    · refine Or.inr ⟨v, rfl, ?_⟩
      obtain ⟨n, e1, e2⟩ := mnl_le (gs := gs) hka gs.length hk
      have e : alw gs m so (a :: A) = n + alw gs m so A := by
        show (mnl gs m so a gs.length).getD 0 + _ = _
        rw [e1]
        rfl
      rw [List.length_append]
      rw [el] at e2
      omega
theorem spJ_none {gs : List (List Nat)} {m : Nat} {so : Nat → Int32} {a : Int32} (hn : mnl gs m so a gs.length = none) {F : List Nat → Option (List Nat) → Option (List Nat)} {r : List Nat} {b : Option (List Nat)} : spJ gs m so F a r gs.length 0 b = b :=
  spJ_id _ _ (Nat.zero_add _) (fun k hk hka => by
    obtain ⟨n, e1, e2⟩ := mnl_le (gs := gs) hka gs.length hk
    rw [hn] at e1
    cases e1)
theorem spF_none {gs : List (List Nat)} {m : Nat} {so : Nat → Int32} {a : Int32} (hn : mnl gs m so a gs.length = none) : ∀ (A : List Int32) (r : List Nat) (b : Option (List Nat)), a ∈ A → spF gs m so A r b = b
  | [], r, b, h => by cases h
  | a' :: A, r, b, h => by
    rcases List.mem_cons.mp h with e | e
    · subst e
      exact spJ_none hn
    · exact spJ_id _ _ (Nat.zero_add _) (fun k hk _ => spF_none hn A (r ++ [k]) b e)
/-- the object -/
def SpS (h : PH) (c : Nat) : Prop := h_sh h c = some (0, 5) ∧ (h_r h c 0 = some (c + 1) ∧ h_sh h (c + 1) = some (1, 4)) ∧ (h_r h c 2 = some (c + 2) ∧ h_sh h (c + 2) = some (1, 5)) ∧ (h_r h c 3 = some (c + 3) ∧ h_sh h (c + 3) = some (1, 4)) ∧ (h_r h c 4 = some (c + 4) ∧ h_sh h (c + 4) = some (1, 4)) ∧ (h_r h c 6 = some (c + 5) ∧ h_sh h (c + 5) = some (1, 29)) ∧ 63 ≤ c ∧ c + 5 < h_ct h
theorem SpS.gw {W : Nat → Nat → Prop} {h h' : PH} {c : Nat} (hf : Gw W h h') (hr : SpS h c) : SpS h' c := by
  obtain ⟨a, ⟨b1, b2⟩, ⟨c1, c2⟩, ⟨d1, d2⟩, ⟨e1, e2⟩, ⟨f1, f2⟩, g, i⟩ := hr
  have s := hf.2.2.2.2.1
  exact ⟨(s _ (by omega)).trans a, ⟨hf.rs (by omega) b1, (s _ (by omega)).trans b2⟩, ⟨hf.rs (by omega) c1, (s _ (by omega)).trans c2⟩, ⟨hf.rs (by omega) d1, (s _ (by omega)).trans d2⟩, ⟨hf.rs (by omega) e1, (s _ (by omega)).trans e2⟩, ⟨hf.rs (by omega) f1, (s _ (by omega)).trans f2⟩, g, by have := hf.2.1; omega⟩
theorem SpS.fr {W : Nat → Nat → Prop} {h h' : PH} {c : Nat} (hf : Fr W h h') (hr : SpS h c) : SpS h' c := hr.gw hf.gw
def Wsp (c a k : Nat) : Prop := c ≤ a ∧ a ≤ c + 5
/-- the last seven letters -/
def ls7 (w : List Nat) : List Nat := w.drop (w.length - 7)
theorem ls7_le (w : List Nat) : (ls7 w).length ≤ 7 := by
  unfold ls7
  rw [List.length_drop]
  omega
theorem ls7_ok {w : List Nat} (hw : ∀ x ∈ w, 0 < x ∧ x < 28) : okr (ls7 w) := ⟨fun x hx => hw x (List.mem_of_mem_drop hx), ls7_le w⟩
theorem pk_sh {l : List Nat} {x : Nat} (h : okr l) (hx : x < 32) : (pk l <<< ((5 : Int32).toInt64 &&& 63)) ||| lN x = lN (pkN (l ++ [x])) := by
  have h35 := h.pk
  rw [show (5 : Int32) = nI 5 from rfl]
  unfold pk
  rw [l_shl (by omega), lN_orN (by omega) (by omega), or_add (i := 5) (by omega), pkN_snoc]
  congr 1
  omega
theorem ls7_snoc {w : List Nat} {x : Nat} (hw : ∀ x ∈ w, 0 < x ∧ x < 28) (hx : 0 < x ∧ x < 28) : pkN (ls7 w ++ [x]) % 2 ^ 35 = pkN (ls7 (w ++ [x])) := by
  have h7 := ls7_ok hw
  have hlt : ∀ y ∈ ls7 w ++ [x], y < 32 := fun y hy => by
    rcases List.mem_append.mp hy with q | q
    · exact h7.lt y q
    · rw [List.mem_singleton.mp q]
      omega
  have e1 : ls7 (w ++ [x]) = (ls7 w ++ [x]).drop ((ls7 w ++ [x]).length - 7) := by
    unfold ls7
    rw [List.length_append, List.length_append, List.length_drop]
    show (w ++ [x]).drop (w.length + 1 - 7) = (w.drop (w.length - 7) ++ [x]).drop (w.length - (w.length - 7) + 1 - 7)
    by_cases q : w.length < 7
    · rw [show w.length + 1 - 7 = 0 by omega, show w.length - (w.length - 7) + 1 - 7 = 0 by omega, show w.length - 7 = 0 by omega, List.drop_zero, List.drop_zero, List.drop_zero]
    · rw [show w.length - (w.length - 7) + 1 - 7 = 1 by omega]
      rw [show w.drop (w.length - 7) ++ [x] = (w ++ [x]).drop (w.length - 7) from (List.drop_append_of_le_length (by omega)).symm, List.drop_drop, show w.length - 7 + 1 = w.length + 1 - 7 by omega]
  rw [e1]
  have hl := ls7_le w
  have hm := pkN_mod hlt ((ls7 w ++ [x]).length - 7)
  by_cases q : (ls7 w ++ [x]).length ≤ 7
  · rw [show (ls7 w ++ [x]).length - 7 = 0 by omega, List.drop_zero]
    refine Nat.mod_eq_of_lt (Nat.lt_of_lt_of_le (pkN_lt hlt) ?_)
    rw [show (2 : Nat) ^ 35 = 32 ^ 7 by decide]
    exact Nat.pow_le_pow_right (by omega) q
  · have hq : (ls7 w ++ [x]).length - ((ls7 w ++ [x]).length - 7) = 7 := by omega
    rw [hq] at hm
    rw [← hm]
theorem ow_lastN {d : Nat} {h : PH} {Q : PQ} {n k : Nat} (hn : n < 2 ^ 63) (hk : k ≤ 7) (kk : Q (some (.long (lN (n % 2 ^ (5 * k))))) h) : wpm (d + 1) 164 [.long (lN n), .int (nI k)] h Q := by
  refine wpm_in P_Ow_lastOf rfl (by decide) (by show ¬ 3 < 3; decide) (B_Ow_lastOf_0 ?_)
  have e : lN n &&& (((1 : Int64) <<< (((5 : Int32) * nI k).toInt64 &&& 63)) - (1 : Int64)) = lN (n % 2 ^ (5 * k)) := by
    rw [show (5 : Int32) = nI 5 from rfl, nI_mulN, show (1 : Int64) = lN 1 from rfl, l_shl (by omega), Nat.one_mul, lN_sub (Nat.pow_pos (by decide)), l_and hn (by omega)]
  rw [e]
  exact kk
