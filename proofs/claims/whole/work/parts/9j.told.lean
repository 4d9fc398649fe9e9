/-! table: tokens and what they make of what was told; the class's side -/
abbrev PSt : Type := Nat × List (List Nat) × List (List Nat) × List Nat
def snd5 : List Nat := [19, 15, 21, 14, 4]
def stepR (s : PSt) (l : List Nat) : Nat × PSt :=
  if s.1 = 0 then (if ¬ l = snd5 then (2, s) else if ¬ s.2.1.length < 10 then (4, s) else (0, (1, s.2)))
  else if 6 < l.length then (2, s)
  else if s.1 = 1 then (if l = snd5 then (2, s) else if l ∈ s.2.1 then (3, s) else (0, (2, s.2.1 ++ [l], s.2.2)))
  else if s.1 = 3 then (if l ∈ s.2.2.1 then (3, s) else if ¬ s.2.2.1.length < 14 then (4, s) else (0, (4, s.2.1, s.2.2.1 ++ [l], s.2.2.2 ++ [s.2.1.length - 1])))
  else (2, s)
def stepS (s : PSt) (c : Nat) : Nat × PSt :=
  if ¬ (c = 61 ∨ c = 124 ∨ c = 59) then (1, s)
  else if c = 61 ∧ s.1 = 2 then (0, (3, s.2))
  else if c = 124 ∧ s.1 = 4 then (0, (3, s.2))
  else if c = 59 ∧ s.1 = 4 then (0, (0, s.2))
  else (2, s)
def sml (c : Nat) : Bool := decide (97 ≤ c ∧ c ≤ 122)
/-- the row of letters that stands at a place -/
def rowAt (B : List Nat) (p : Nat) : List Nat := ((B.drop p).takeWhile sml).map (fun c => c - 96)
def prs (B : List Nat) : Nat → Nat → PSt → Nat × Nat × PSt
  | 0, p, s => (0, p, s)
  | f + 1, p, s => if B.length ≤ p then (if s.1 = 0 then (0, p, s) else (2, B.length, s))
    else if 0 < (rowAt B p).length then (if (stepR s (rowAt B p)).1 = 0 then prs B f (p + (rowAt B p).length) (stepR s (rowAt B p)).2 else ((stepR s (rowAt B p)).1, p, s))
    else if B.getD p 0 = 32 ∨ B.getD p 0 = 10 then prs B f (p + 1) s
    else (if (stepS s (B.getD p 0)).1 = 0 then prs B f (p + 1) (stepS s (B.getD p 0)).2 else ((stepS s (B.getD p 0)).1, p, s))
/-- rows of letters a .. z, 6 at most -/
def okn (l : List Nat) : Prop := (∀ x ∈ l, 0 < x ∧ x < 27) ∧ l.length ≤ 6 ∧ 0 < l.length
theorem okn.r {l : List Nat} (h : okn l) : okr l := ⟨fun x hx => by have := h.1 x hx; omega, by have := h.2.1; omega⟩
def okS (s : PSt) : Prop := s.1 ≤ 4 ∧ s.2.1.length ≤ 10 ∧ s.2.2.1.length ≤ 14 ∧ s.2.2.2.length = s.2.2.1.length ∧ (∀ l ∈ s.2.1, okn l) ∧ (∀ l ∈ s.2.2.1, okn l) ∧ (s.1 = 1 → s.2.1.length < 10) ∧ (2 ≤ s.1 → 0 < s.2.1.length) ∧ (∀ x ∈ s.2.2.2, x < 10) ∧ s.2.2.1.Nodup
def CTl (h : PH) (s : PSt) : Prop := h_i h 8 6 = nI s.1 ∧ h_i h 8 1 = nI s.2.1.length ∧ h_i h 8 5 = nI s.2.2.1.length ∧ (∀ k l, s.2.1[k]? = some l → h_l h 9 k = pk l) ∧ (∀ k l, s.2.2.1[k]? = some l → h_l h 10 k = pk l ∧ h_i h 11 k = nI l.length) ∧ ∀ k x, s.2.2.2[k]? = some x → h_i h 12 k = nI x
def Wte (c k : Nat) : Prop := 8 ≤ c ∧ c ≤ 12 ∧ ¬ (c = 8 ∧ k = 8)
def TO (h : PH) (s : PSt) (r : Nat × PSt) : Prop := (r.1 = 0 → CTl h r.2 ∧ h_i h 8 7 = 0) ∧ (¬ r.1 = 0 → h_i h 8 7 = nI r.1)
theorem to_bad {h : PH} {s s' : PSt} {e : Nat} (he : ¬ e = 0) (hh : h_i h 8 7 = nI e) : TO h s (e, s') := ⟨fun z => absurd z he, fun _ => hh⟩
theorem to_ok {h : PH} {s s' : PSt} (h1 : CTl h s') (h2 : h_i h 8 7 = 0) : TO h s (0, s') := ⟨fun _ => ⟨h1, h2⟩, fun z => absurd rfl z⟩
theorem CTl.wi {h : PH} {s : PSt} {k : Nat} {v : Int32} (hk : ¬ (k = 6 ∨ k = 1 ∨ k = 5)) (hs : CTl h s) : CTl (w_i h 8 k v) s := by
  obtain ⟨a, b, c, d, e, f⟩ := hs
  exact ⟨by rw [wi_ne _ _ (by omega)]; exact a, by rw [wi_ne _ _ (by omega)]; exact b, by rw [wi_ne _ _ (by omega)]; exact c, d, fun k l hl => ⟨(e k l hl).1, by rw [wi_ne _ _ (by omega)]; exact (e k l hl).2⟩, fun k x hx => by rw [wi_ne _ _ (by omega)]; exact f k x hx⟩
theorem CTl.st {h : PH} {s : PSt} {n : Nat} (hs : CTl h s) : CTl (w_i h 8 6 (nI n)) (n, s.2) := by
  obtain ⟨a, b, c, d, e, f⟩ := hs
  exact ⟨wi_eq _ _ _ _, by rw [wi_ne _ _ (by omega)]; exact b, by rw [wi_ne _ _ (by omega)]; exact c, d, fun k l hl => ⟨(e k l hl).1, by rw [wi_ne _ _ (by omega)]; exact (e k l hl).2⟩, fun k x hx => by rw [wi_ne _ _ (by omega)]; exact f k x hx⟩
theorem fr8 {h : PH} {k : Nat} {v : Int32} (hk : ¬ k = 8 := by decide) : Fr Wte h (w_i h 8 k v) := Fr.wi h v ⟨by omega, by omega⟩
theorem te_takeSign {d : Nat} {h : PH} {Q : PQ} {s : PSt} {c : Nat} {x : Int32} (hO : OwS h) (hs : CTl h s) (ho : okS s) (h7 : h_i h 8 7 = 0) (hx : ∀ k, k < 128 → (x = nI k ↔ c = k)) (k : ∀ h', TO h' s (stepS s c) → Fr Wte h h' → Q none h') : wpm (d + 1) 90 [.ref 8, .int x] h Q := by
  refine wpm_in P_Te_takeSign rfl (by decide) (by show ¬ 2 < 2; decide) ?_
  have hT := os_teller hO
  have e61 : x = (61 : Int32) ↔ c = 61 := hx 61 (by omega)
  have e124 : x = (124 : Int32) ↔ c = 124 := hx 124 (by omega)
  have e59 : x = (59 : Int32) ↔ c = 59 := hx 59 (by omega)
  have h4 := ho.1
  have est : ∀ n : Nat, n < 5 → (h_i h 8 6 = nI n ↔ s.1 = n) := fun n hn => by rw [hs.1, nI_eq (by omega) (by omega)]
  unfold stepS at k
  by_cases hc : ¬ (c = 61 ∨ c = 124 ∨ c = 59)
  · rw [if_pos hc] at k
    refine B_Te_takeSign_0 (fun z => absurd (Or.inl (e61.mp z)) hc) (fun _ => B_Te_takeSign_6 (fun z => absurd (Or.inr (Or.inl (e124.mp z))) hc) (fun _ => B_Te_takeSign_12 (fun z => absurd (Or.inr (Or.inr (e59.mp z))) hc) (fun _ => B_Te_takeSign_18 hT (B_Te_takeSign_97 (k _ (to_bad (by decide) (wi_eq _ _ _ _)) fr8)))))
  · rw [if_neg hc] at k
    have main : wpx d P_Te_takeSign 26 [.ref 8, .int x] [] h Q := by
      have bad : ¬ (c = 61 ∧ s.1 = 2) → ¬ (c = 124 ∧ s.1 = 4) → ¬ (c = 59 ∧ s.1 = 4) → wpx d P_Te_takeSign 92 [.ref 8, .int x] [] h Q := fun z1 z2 z3 => by
        rw [if_neg z1, if_neg z2, if_neg z3] at k
        exact B_Te_takeSign_92 hT (B_Te_takeSign_97 (k _ (to_bad (by decide) (wi_eq _ _ _ _)) fr8))
      have p70 : ¬ (c = 61 ∧ s.1 = 2) → ¬ (c = 124 ∧ s.1 = 4) → wpx d P_Te_takeSign 70 [.ref 8, .int x] [] h Q := fun z1 z2 => by
        refine B_Te_takeSign_70 (fun z => bad z1 z2 (fun y => z (e59.mpr y.1))) (fun z => B_Te_takeSign_76 hT (fun y => bad z1 z2 (fun u => y ((est 4 (by omega)).mpr u.2))) (fun y => ?_))
        have z3 : c = 59 ∧ s.1 = 4 := ⟨e59.mp z, (est 4 (by omega)).mp y⟩
        rw [if_neg z1, if_neg z2, if_pos z3] at k
        exact B_Te_takeSign_84 hT (B_Te_takeSign_97 (k _ (to_ok (hs.st (n := 0)) (by rw [wi_ne _ _ (by omega)]; exact h7)) fr8))
      have p48 : ¬ (c = 61 ∧ s.1 = 2) → wpx d P_Te_takeSign 48 [.ref 8, .int x] [] h Q := fun z1 => by
        refine B_Te_takeSign_48 (fun z => p70 z1 (fun y => z (e124.mpr y.1))) (fun z => B_Te_takeSign_54 hT (fun y => p70 z1 (fun u => y ((est 4 (by omega)).mpr u.2))) (fun y => ?_))
        have z2 : c = 124 ∧ s.1 = 4 := ⟨e124.mp z, (est 4 (by omega)).mp y⟩
        rw [if_neg z1, if_pos z2] at k
        exact B_Te_takeSign_62 hT (B_Te_takeSign_97 (k _ (to_ok (hs.st (n := 3)) (by rw [wi_ne _ _ (by omega)]; exact h7)) fr8))
      refine B_Te_takeSign_26 (fun z => p48 (fun y => z (e61.mpr y.1))) (fun z => B_Te_takeSign_32 hT (fun y => p48 (fun u => y ((est 2 (by omega)).mpr u.2))) (fun y => ?_))
      have z1 : c = 61 ∧ s.1 = 2 := ⟨e61.mp z, (est 2 (by omega)).mp y⟩
      rw [if_pos z1] at k
      exact B_Te_takeSign_40 hT (B_Te_takeSign_97 (k _ (to_ok (hs.st (n := 3)) (by rw [wi_ne _ _ (by omega)]; exact h7)) fr8))
    exact B_Te_takeSign_0 (fun _ => main) (fun z1 => B_Te_takeSign_6 (fun _ => main) (fun z2 => B_Te_takeSign_12 (fun _ => main) (fun z3 => absurd (fun y => y.elim (fun y => z1 (e61.mpr y)) (fun y => y.elim (fun y => z2 (e124.mpr y)) (fun y => z3 (e59.mpr y)))) hc)))
theorem te_takeLine {d : Nat} {h : PH} {Q : PQ} {s : PSt} {b : Int32} {l : List Nat} (hO : OwS h) (hs : CTl h s) (ho : okS s) (h7 : h_i h 8 7 = 0) (h0 : s.1 = 0) (hb : b = 0 ↔ ¬ l = snd5) (k : ∀ h', TO h' s (stepR s l) → Fr Wte h h' → Q none h') : wpm (d + 1) 87 [.ref 8, .int b] h Q := by
  refine wpm_in P_Te_takeLine rfl (by decide) (by show ¬ 2 < 2; decide) ?_
  have hT := os_teller hO
  have h10 := ho.2.1
  unfold stepR at k
  rw [if_pos h0] at k
  refine B_Te_takeLine_0 (fun z => B_Te_takeLine_12 hT (fun y => ?_) (fun y => ?_)) (fun z => ?_)
  · rw [hs.2.1] at y
    have y' := (nI_ltI (b := 10) (by omega) (by omega)).mp y
    rw [if_neg (fun u => z (hb.mpr u)), if_neg (fun u => u y')] at k
    exact B_Te_takeLine_29 hT (B_Te_takeLine_34 (k _ (to_ok (hs.st (n := 1)) (by rw [wi_ne _ _ (by omega)]; exact h7)) fr8))
  · rw [hs.2.1] at y
    have y' : ¬ s.2.1.length < 10 := fun u => y ((nI_ltI (b := 10) (by omega) (by omega)).mpr u)
    rw [if_neg (fun u => z (hb.mpr u)), if_pos y'] at k
    exact B_Te_takeLine_21 hT (B_Te_takeLine_34 (k _ (to_bad (by decide) (wi_eq _ _ _ _)) fr8))
  · rw [if_pos (hb.mp z)] at k
    exact B_Te_takeLine_4 hT (B_Te_takeLine_34 (k _ (to_bad (by decide) (wi_eq _ _ _ _)) fr8))
theorem wl_i (h : PH) (c k : Nat) (v : Int64) : h_i (w_l h c k v) = h_i h := rfl
theorem te_takeName {d : Nat} {h : PH} {Q : PQ} {s : PSt} {b : Int32} {l : List Nat} (hO : OwS h) (hs : CTl h s) (ho : okS s) (h7 : h_i h 8 7 = 0) (h1 : s.1 = 1) (hl : okn l) (hb : b = 0 ↔ ¬ l = snd5) (k : ∀ h', TO h' s (stepR s l) → Fr Wte h h' → Q none h') : wpm (d + 1) 88 [.ref 8, .long (pk l), .int b] h Q := by
  refine wpm_in P_Te_takeName rfl (by decide) (by show ¬ 5 < 4; decide) ?_
  have hT := os_teller hO
  have h10 := ho.2.1
  have hn10 := ho.2.2.2.2.2.2.1 h1
  unfold stepR at k
  rw [if_neg (by omega), if_neg (by have := hl.2.1; omega), if_pos h1] at k
  refine B_Te_takeName_0 (fun z => B_Te_takeName_10 ?_) (fun z => ?_)
  · rw [if_neg (hb.mp z)] at k
    -- through the names: found or not
    have loop : ∀ (c j : Nat) (g : PH), s.2.1.length - j = c → j ≤ s.2.1.length → Fr (fun a k => a = 8 ∧ k = 7) h g → ((h_i g 8 7 = 0 ∧ ∀ t l', t < j → s.2.1[t]? = some l' → l' ≠ l) ∨ (h_i g 8 7 = nI 3 ∧ l ∈ s.2.1)) → wpx d P_Te_takeName 13 [.ref 8, .long (pk l), .retAddr 2, .int b, .int (nI j)] [] g Q := by
      intro c
      induction c with
      | zero =>
        intro j g hc hj hf hi
        have hO' := hf.ow hO
        have hT' := os_teller hO'
        have ej : j = s.2.1.length := by omega
        have e1 : h_i g 8 1 = nI s.2.1.length := (hf.i _ _ (by omega)).trans hs.2.1
        refine B_Te_takeName_13 hT' (fun _ => B_Te_takeName_45 hT' (fun y => ?_) (fun y => ?_)) (fun q => ?_)
        · rcases hi with ⟨i1, _⟩ | ⟨i1, i2⟩
          · exact absurd i1 y
          · rw [if_pos i2] at k
            exact B_Te_takeName_86 (k g (to_bad (by decide) i1) (hf.up (fun a k q => ⟨by omega, by omega⟩)))
        · rcases hi with ⟨i1, i2⟩ | ⟨i1, _⟩
          · have hnot : ¬ l ∈ s.2.1 := fun u => by
              obtain ⟨t, ht⟩ := List.mem_iff_getElem?.mp u
              have := (List.getElem?_eq_some_iff.mp ht).1
              exact i2 t l (by omega) ht rfl
            rw [if_neg hnot] at k
            refine B_Te_takeName_52 hT' (fun y => ?_) (fun _ => B_Te_takeName_61 hT' (or_t_name hO') (os_t_name hO') (by rw [e1]; exact vp_in_nI hn10 (by omega)) (B_Te_takeName_86 (k _ ?_ ?_)))
            · rw [e1] at y
              have := (nI_leI (a := 10) (by omega) (by omega)).mp y
              omega
            · rw [e1, nI_clamp (by omega), wl_i, e1, nI_1]
              obtain ⟨a1, a2, a3, a4, a5, a6⟩ := hs
              refine to_ok ⟨wi_eq _ _ _ _, ?_, ?_, fun t l' ht => ?_, fun t l' ht => ⟨?_, ?_⟩, fun t x ht => ?_⟩ ?_
              · rw [wi_ne _ _ (by omega), wi_eq, List.length_append]
                rfl
              · rw [wi_ne _ _ (by omega), wi_ne _ _ (by omega), wl_i, hf.i _ _ (by omega)]
                exact a3
              · show h_l (w_l g 9 s.2.1.length (pk l)) 9 t = _
                rw [h_l_wl]
                by_cases e : t = s.2.1.length
                · subst e
                  rw [if_pos ⟨rfl, rfl⟩]
                  rw [List.getElem?_append_right (Nat.le_refl _), Nat.sub_self] at ht
                  cases ht
                  rfl
                · have hlt := (List.getElem?_eq_some_iff.mp ht).1
                  rw [List.length_append] at hlt
                  have e1 : [l].length = 1 := rfl
                  rw [List.getElem?_append_left (by omega)] at ht
                  rw [if_neg (fun u => e u.2), hf.l _ _ (by omega)]
                  exact a4 t l' ht
              · show h_l (w_l g 9 s.2.1.length (pk l)) 10 t = _
                rw [h_l_wl, if_neg (by omega), hf.l _ _ (by omega)]
                exact (a5 t l' ht).1
              · rw [wi_ne _ _ (by omega), wi_ne _ _ (by omega), wl_i, hf.i _ _ (by omega)]
                exact (a5 t l' ht).2
              · rw [wi_ne _ _ (by omega), wi_ne _ _ (by omega), wl_i, hf.i _ _ (by omega)]
                exact a6 t x ht
              · rw [wi_ne _ _ (by omega), wi_ne _ _ (by omega), wl_i]
                exact i1
            · exact (hf.up (fun a k q => ⟨by omega, by omega⟩)).tr ((Fr.wl _ _ ⟨by omega, by omega⟩).tr (Fr.tr fr8 fr8))
          · rw [i1] at y
            exact absurd y (by decide)
        · rw [e1, nI_leI (by omega) (by omega)] at q
          omega
      | succ c ih =>
        intro j g hc hj hf hi
        have hO' := hf.ow hO
        have hT' := os_teller hO'
        have e1 : h_i g 8 1 = nI s.2.1.length := (hf.i _ _ (by omega)).trans hs.2.1
        have gj : s.2.1[j]? = some s.2.1[j] := List.getElem?_eq_getElem (by omega)
        generalize s.2.1[j] = l' at gj
        have hl' := ho.2.2.2.2.1 l' (List.mem_of_getElem? gj)
        have ec : h_l g 9 (nI j).toNatClampNeg = pk l' := by
          rw [nI_clamp (by omega), hf.l _ _ (by omega)]
          exact hs.2.2.2.1 j l' gj
        refine B_Te_takeName_13 hT' (fun q => ?_) (fun _ => B_Te_takeName_22 hT' (or_t_name hO') (os_t_name hO') (vp_in_nI (by omega) (by omega)) (fun q => B_Te_takeName_39 ?_) (fun q => B_Te_takeName_34 hT' (B_Te_takeName_39 ?_)))
        · rw [e1, nI_leI (by omega) (by omega)] at q
          omega
        · rw [ec, lg_cmp0] at q
          rw [nI_1]
          refine ih (j + 1) g (by omega) (by omega) hf ?_
          rcases hi with ⟨i1, i2⟩ | i
          · refine Or.inl ⟨i1, fun t l2 ht h2 => ?_⟩
            by_cases e : t = j
            · subst e
              rw [gj] at h2
              cases h2
              exact fun u => q (by rw [u])
            · exact i2 t l2 (by omega) h2
          · exact Or.inr i
        · rw [ec, lg_cmp0] at q
          rw [nI_1]
          refine ih (j + 1) _ (by omega) (by omega) (hf.tr (Fr.wi _ _ ⟨rfl, rfl⟩)) (Or.inr ⟨wi_eq _ _ _ _, ?_⟩)
          have := (pk_inj hl'.r hl.r).mp q
          rw [← this]
          exact List.mem_of_getElem? gj
    exact loop _ 0 h rfl (Nat.zero_le _) (Fr.rf _ _) (Or.inl ⟨h7, fun t l' ht => absurd ht (by omega)⟩)
  · rw [if_pos (Decidable.byContradiction (fun u => z (hb.mpr u)))] at k
    exact B_Te_takeName_4 hT (k _ (to_bad (by decide) (wi_eq _ _ _ _)) fr8)
