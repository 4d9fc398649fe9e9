/-! begins, ends, meets on both sides -/
theorem nI_m1 (n : Nat) : nI (n + 1) + (-1) = nI n := by
  rw [nI_succ, Int32.add_assoc, show (1 : Int32) + (-1) = 0 from by decide, Int32.add_zero]
theorem cpl_le : ∀ a b : List Nat, cpl a b ≤ a.length
  | [], b => by cases b <;> exact Nat.le_refl 0
  | x :: a, [] => Nat.zero_le _
  | x :: a, y :: b => by
    unfold cpl
    have := cpl_le a b
    by_cases h : x = y
    · rw [if_pos h, List.length_cons]; omega
    · rw [if_neg h]; exact Nat.zero_le _
theorem cpl_len : ∀ a b : List Nat, cpl a b = a.length ↔ a = b.take a.length
  | [], b => by cases b <;> simp [cpl]
  | x :: a, [] => by simp [cpl]
  | x :: a, y :: b => by
    unfold cpl
    rw [List.length_cons, List.take_succ_cons, List.cons.injEq, ← cpl_len a b]
    by_cases h : x = y
    · rw [if_pos h]; omega
    · rw [if_neg h]
      constructor
      · intro q; omega
      · intro q; exact absurd q.1 h
theorem md_lesser {d : Nat} {h : PH} {Q : PQ} {a b : Nat} (ha : a < 2 ^ 31) (hb : b < 2 ^ 31) (k : Q (some (.int (nI (min a b)))) h) : wpm (d + 1) 172 [.int (nI a), .int (nI b)] h Q := by
  refine wpm_in P_Md_lesser rfl (by decide) (by show ¬ 2 < 2; decide) ?_
  refine B_Md_lesser_0 (fun q => ?_) (fun q => ?_)
  · rw [nI_leI hb ha] at q
    rw [Nat.min_eq_right q] at k
    exact B_Md_lesser_9 (B_Md_lesser_10 k)
  · rw [nI_leI hb ha] at q
    rw [Nat.min_eq_left (by omega)] at k
    exact B_Md_lesser_5 (B_Md_lesser_10 k)
theorem md_isGroup {d : Nat} {h : PH} {Q : PQ} {gs : List (List Nat)} {m : Nat} {x : Int32} (hM : MdS h) (hg : MGr h gs m) (kt : isg gs x → Q (some (.int 1)) h) (kf : ¬ isg gs x → Q (some (.int 0)) h) : wpm (d + 2) 174 [.ref 17, .int x] h Q := by
  refine wpm_in P_Md_isGroup rfl (by decide) (by show ¬ 2 < 2; decide) ?_
  refine B_Md_isGroup_0 hM.1 (md_in ?_)
  rw [hg.2.1]
  have h14 := hg.1.1
  have e : (x < 0 ∨ nI gs.length - (1 : Int32) < x) ↔ (x < 0 ∨ nI gs.length ≤ x) := by
    by_cases h0 : x < 0
    · exact ⟨fun _ => Or.inl h0, fun _ => Or.inl h0⟩
    · obtain ⟨k, hk, rfl⟩ := nI_of (x := x) h0
      have hp : nI gs.length - (1 : Int32) < nI k ↔ nI gs.length ≤ nI k := by
        rw [nI_leI (by omega) hk]
        cases hl : gs.length with
        | zero =>
          constructor
          · intro _; omega
          · intro _
            show (nI 0 - 1 : Int32) < nI k
            have : (nI 0 - 1 : Int32) = -1 := by decide
            rw [this, Int32.lt_iff_toInt_lt, nI_toInt hk]
            show (-1 : Int) < _
            omega
        | succ n =>
          rw [nI_pred, nI_ltI (by omega) hk]
          omega
      rw [hp]
  by_cases hx : x < 0 ∨ nI gs.length ≤ x
  · rw [if_pos (e.mpr hx)]
    exact B_Md_isGroup_11 (by decide) (kf (fun q => q hx))
  · rw [if_neg (fun q => hx (e.mp q))]
    exact B_Md_isGroup_11 (by decide) (kt hx)
theorem md_begins {d : Nat} {h : PH} {Q : PQ} {gs : List (List Nat)} {m i j : Nat} {a b : List Nat} (hM : MdS h) (hg : MGr h gs m) (ha : gs[i]? = some a) (hb : gs[j]? = some b) (k : Q (some (.int (if a = b.take a.length then 1 else 0))) h) : wpm (d + 3) 200 [.ref 17, .int (nI i), .int (nI j)] h Q := by
  refine wpm_in P_Md_begins rfl (by decide) (by show ¬ 3 < 3; decide) ?_
  obtain ⟨a1, a2, a3⟩ := hg.1.at ha
  obtain ⟨b1, b2, b3⟩ := hg.1.at hb
  have a7 := a1.2
  have b7 := b1.2
  have va : vp_in (nI i) 14 := vp_in_nI a3 (by omega)
  have vb : vp_in (nI j) 14 := vp_in_nI b3 (by omega)
  have la := (hg.2.2.2 i a ha).1
  have lb := (hg.2.2.2 j b hb).1
  refine B_Md_begins_0 hM.1 (mr_size hM) (ms_size hM) va vb (fun q => ?_) (fun q => ?_)
  · rw [nI_clamp (by omega), nI_clamp (by omega), la, lb, nI_ltI (by omega) (by omega)] at q
    rw [if_neg (fun e => by have := congrArg List.length e; rw [List.length_take] at this; omega)] at k
    exact B_Md_begins_36 (B_Md_begins_37 (by decide) k)
  · refine B_Md_begins_15 hM.1 (md_alike hM hg ha hb (i := 0) (j := 0) (by omega) (by omega) ?_)
    rw [List.drop_zero, List.drop_zero]
    have cl := cpl_le a b
    refine B_Md_begins_23 hM.1 (mr_size hM) (ms_size hM) va (fun z => ?_) (fun z => ?_)
    · rw [nI_clamp (by omega), la, nI_eq (by omega) (by omega), cpl_len] at z
      rw [if_neg z] at k
      exact B_Md_begins_36 (B_Md_begins_37 (by decide) k)
    · rw [nI_clamp (by omega), la, nI_eq (by omega) (by omega), cpl_len] at z
      rw [if_pos z] at k
      exact B_Md_begins_32 (B_Md_begins_37 (by decide) k)
theorem md_ends {d : Nat} {h : PH} {Q : PQ} {gs : List (List Nat)} {m i j : Nat} {a b : List Nat} (hM : MdS h) (hg : MGr h gs m) (ha : gs[i]? = some a) (hb : gs[j]? = some b) (k : Q (some (.int (if a.length ≤ b.length ∧ a = b.drop (b.length - a.length) then 1 else 0))) h) : wpm (d + 3) 201 [.ref 17, .int (nI i), .int (nI j)] h Q := by
  refine wpm_in P_Md_ends rfl (by decide) (by show ¬ 3 < 3; decide) ?_
  obtain ⟨a1, a2, a3⟩ := hg.1.at ha
  obtain ⟨b1, b2, b3⟩ := hg.1.at hb
  have a7 := a1.2
  have b7 := b1.2
  have va : vp_in (nI i) 14 := vp_in_nI a3 (by omega)
  have vb : vp_in (nI j) 14 := vp_in_nI b3 (by omega)
  have la := (hg.2.2.2 i a ha).1
  have lb := (hg.2.2.2 j b hb).1
  refine B_Md_ends_0 hM.1 (mr_size hM) (ms_size hM) va vb (fun q => ?_) (fun q => ?_)
  · rw [nI_clamp (by omega), nI_clamp (by omega), la, lb, nI_ltI (by omega) (by omega)] at q
    rw [if_neg (fun e => by have := e.1; omega)] at k
    exact B_Md_ends_48 (B_Md_ends_49 (by decide) k)
  · rw [nI_clamp (by omega), nI_clamp (by omega), la, lb, nI_ltI (by omega) (by omega)] at q
    refine B_Md_ends_15 hM.1 (mr_size hM) (ms_size hM) vb va ?_
    rw [nI_clamp (by omega), nI_clamp (by omega), la, lb, nI_subN (by omega)]
    refine md_alike hM hg ha hb (i := 0) (by omega) (by omega) ?_
    rw [List.drop_zero]
    have cl := cpl_le a (b.drop (b.length - a.length))
    have et : (b.drop (b.length - a.length)).take a.length = b.drop (b.length - a.length) := List.take_of_length_le (by rw [List.length_drop]; omega)
    refine B_Md_ends_35 hM.1 (mr_size hM) (ms_size hM) va (fun z => ?_) (fun z => ?_)
    · rw [nI_clamp (by omega), la, nI_eq (by omega) (by omega), cpl_len, et] at z
      rw [if_neg (fun e => z e.2)] at k
      exact B_Md_ends_48 (B_Md_ends_49 (by decide) k)
    · rw [nI_clamp (by omega), la, nI_eq (by omega) (by omega), cpl_len, et] at z
      rw [if_pos ⟨by omega, z⟩] at k
      exact B_Md_ends_44 (B_Md_ends_49 (by decide) k)
/-- the most letters that end the one and begin the other, up to n -/
def mt (a b : List Nat) : Nat → Nat
  | 0 => 0
  | n + 1 => if a.drop (a.length - (n + 1)) = b.take (n + 1) then n + 1 else mt a b n
def mts (a b : List Nat) : Nat := mt a b (min a.length b.length - 1)
theorem md_meets_loop {d : Nat} {h : PH} {Q : PQ} {gs : List (List Nat)} {m i j : Nat} {a b : List Nat} (hM : MdS h) (hg : MGr h gs m) (ha : gs[i]? = some a) (hb : gs[j]? = some b) : ∀ n, n ≤ a.length → n ≤ b.length → Q (some (.int (nI (mt a b n)))) h → wpx (d + 2) P_Md_meets 41 [.ref 17, .int (nI i), .int (nI j), .int (nI n)] [] h Q := by
  obtain ⟨a1, a2, a3⟩ := hg.1.at ha
  obtain ⟨b1, b2, b3⟩ := hg.1.at hb
  have a7 := a1.2
  have b7 := b1.2
  have va : vp_in (nI i) 14 := vp_in_nI a3 (by omega)
  have la := (hg.2.2.2 i a ha).1
  intro n
  induction n with
  | zero =>
    intro _ _ k
    exact B_Md_meets_41 (fun _ => B_Md_meets_72 k) (fun q => absurd (by decide) q)
  | succ n ih =>
    intro h1 h2 k
    refine B_Md_meets_41 (fun q => absurd q (nI_nle (by omega) (by omega))) (fun _ => ?_)
    refine B_Md_meets_45 hM.1 (mr_size hM) (ms_size hM) va ?_
    rw [nI_clamp (by omega), la, nI_subN h1]
    refine md_alike hM hg ha hb (j := 0) (by omega) (by omega) ?_
    rw [List.drop_zero]
    have el : (a.drop (a.length - (n + 1))).length = n + 1 := by rw [List.length_drop]; omega
    have cl := cpl_le (a.drop (a.length - (n + 1))) b
    have ce := cpl_len (a.drop (a.length - (n + 1))) b
    rw [el] at cl ce
    unfold mt at k
    refine B_Md_meets_60 (fun q => ?_) (fun q => ?_)
    · rw [nI_ltI (by omega) (by omega)] at q
      rw [if_neg (fun e => by have := ce.mpr e; omega)] at k
      refine B_Md_meets_66 ?_
      rw [nI_m1]
      exact ih (by omega) (by omega) k
    · rw [nI_ltI (by omega) (by omega)] at q
      rw [if_pos (ce.mp (by omega))] at k
      exact B_Md_meets_64 k
theorem mts_ge {a b : List Nat} (ha : 0 < a.length) (hb : 0 < b.length) : nI (min a.length b.length) - (1 : Int32) = nI (min a.length b.length - 1) := by
  have : min a.length b.length = (min a.length b.length - 1) + 1 := by omega
  rw [this, nI_pred]
  rfl
/-- WHAT THE DOCUMENT ASKS of meets -/
def meetR (gs : List (List Nat)) (x y : Int32) : Int32 := if isg gs x ∧ isg gs y then nI (mts (gs.getD x.toNatClampNeg []) (gs.getD y.toNatClampNeg [])) else -1
theorem isg_get {gs : List (List Nat)} {m : Nat} {x : Int32} (ho : okg gs m) (h : isg gs x) : ∃ k a, x = nI k ∧ gs[k]? = some a ∧ gs.getD x.toNatClampNeg [] = a ∧ k < 14 := by
  obtain ⟨k, hk, rfl⟩ := isg_of ho h
  have h14 := ho.1
  have ga : gs[k]? = some gs[k] := List.getElem?_eq_getElem hk
  refine ⟨k, gs[k], rfl, ga, ?_, by omega⟩
  rw [nI_clamp (by omega), List.getD_eq_getElem?_getD, ga]
  rfl
theorem MGr.fr {W : Nat → Nat → Prop} {h h' : PH} {gs : List (List Nat)} {m : Nat} (hf : Fr W h h') (hw : ∀ c k, W c k → ¬ ((c = 17 ∧ (k = 4 ∨ k = 6)) ∨ c = 18 ∨ c = 19)) (hg : MGr h gs m) : MGr h' gs m := by
  refine ⟨hg.1, ?_, ?_, fun k l hk => ⟨?_, fun j x hj => ?_⟩⟩
  · rw [hf.i 17 4 (fun q => hw _ _ q (Or.inl ⟨rfl, Or.inl rfl⟩))]; exact hg.2.1
  · rw [hf.i 17 6 (fun q => hw _ _ q (Or.inl ⟨rfl, Or.inr rfl⟩))]; exact hg.2.2.1
  · rw [hf.i 19 k (fun q => hw _ _ q (Or.inr (Or.inr rfl)))]; exact (hg.2.2.2 k l hk).1
  · rw [hf.i 18 _ (fun q => hw _ _ q (Or.inr (Or.inl rfl)))]; exact (hg.2.2.2 k l hk).2 j x hj
theorem CGr.fr {W : Nat → Nat → Prop} {h h' : PH} {o : Nat} {gs : List (List Nat)} {m : Nat} (hf : Fr W h h') (hw : ∀ c k, W c k → ¬ ((c = o ∧ (k = 3 ∨ k = 5)) ∨ c = o + 1 ∨ c = o + 2)) (hg : CGr h o gs m) : CGr h' o gs m := by
  refine ⟨hg.1, ?_, ?_, fun k l hk => ⟨?_, ?_⟩⟩
  · rw [hf.i o 3 (fun q => hw _ _ q (Or.inl ⟨rfl, Or.inl rfl⟩))]; exact hg.2.1
  · rw [hf.i o 5 (fun q => hw _ _ q (Or.inl ⟨rfl, Or.inr rfl⟩))]; exact hg.2.2.1
  · rw [hf.l (o + 1) k (fun q => hw _ _ q (Or.inr (Or.inl rfl)))]; exact (hg.2.2.2 k l hk).1
  · rw [hf.i (o + 2) k (fun q => hw _ _ q (Or.inr (Or.inr rfl)))]; exact (hg.2.2.2 k l hk).2
theorem wth_g : ∀ c k, Wth c k → ¬ ((c = 17 ∧ (k = 4 ∨ k = 6)) ∨ c = 18 ∨ c = 19) := by
  rintro c k ⟨rfl, rfl⟩ q
  omega
theorem md_meets {d : Nat} {h : PH} {Q : PQ} {gs : List (List Nat)} {m : Nat} {x y : Int32} (hM : MdS h) (hg : MGr h gs m) (k : Q (some (.int (meetR gs x y))) (w_i h 17 0 0)) : wpm (d + 3) 205 [.ref 17, .int x, .int y] h Q := by
  refine wpm_in P_Md_meets rfl (by decide) (by show ¬ 4 < 3; decide) ?_
  refine B_Md_meets_0 hM.1 ?_
  have hM := (th_fr h).md hM
  have hg := hg.fr (th_fr h) wth_g
  generalize w_i h 17 0 0 = h at k hM hg ⊢
  refine md_isGroup hM hg (fun q => ?_) (fun q => ?_)
  · refine B_Md_meets_10 (fun z => absurd z (by decide)) (fun _ => B_Md_meets_13 hM.1 (md_isGroup hM hg (fun p => ?_) (fun p => ?_)))
    · refine B_Md_meets_18 (fun _ => ?_) (fun z => absurd z (by decide))
      unfold meetR at k
      rw [if_pos ⟨q, p⟩] at k
      obtain ⟨i, a, rfl, ha, ea, hi⟩ := isg_get hg.1 q
      obtain ⟨j, b, rfl, hb, eb, hj⟩ := isg_get hg.1 p
      rw [ea, eb] at k
      obtain ⟨a1, a2, a3⟩ := hg.1.at ha
      obtain ⟨b1, b2, b3⟩ := hg.1.at hb
      have a7 := a1.2
      have b7 := b1.2
      refine B_Md_meets_23 hM.1 (mr_size hM) (ms_size hM) (vp_in_nI a3 (by omega)) (vp_in_nI b3 (by omega)) ?_
      rw [nI_clamp (by omega), nI_clamp (by omega), (hg.2.2.2 i a ha).1, (hg.2.2.2 j b hb).1]
      refine md_lesser (by omega) (by omega) ?_
      refine B_Md_meets_38 ?_
      rw [mts_ge a2 b2]
      exact md_meets_loop hM hg ha hb _ (by omega) (by omega) k
    · refine B_Md_meets_18 (fun z => absurd rfl z) (fun _ => ?_)
      unfold meetR at k
      rw [if_neg (fun w => p w.2)] at k
      exact B_Md_meets_21 k
  · refine B_Md_meets_10 (fun _ => ?_) (fun z => absurd rfl z)
    unfold meetR at k
    rw [if_neg (fun w => q w.1)] at k
    exact B_Md_meets_21 k
theorem gr_overlap {d : Nat} {h : PH} {Q : PQ} {o : Nat} {gs : List (List Nat)} {m i j : Nat} {a b : List Nat} (hs : GrS h o) (hg : CGr h o gs m) (ha : gs[i]? = some a) (hb : gs[j]? = some b) (k : Q (some (.int (nI (mts a b)))) h) : wpm (d + 2) 46 [.ref o, .int (nI i), .int (nI j)] h Q := by
  refine wpm_in P_Gr_overlap rfl (by decide) (by show ¬ 4 < 3; decide) ?_
  obtain ⟨a1, a2, a3⟩ := hg.1.at ha
  obtain ⟨b1, b2, b3⟩ := hg.1.at hb
  have a7 := a1.2
  have b7 := b1.2
  have va : vp_in (nI i) 14 := vp_in_nI a3 (by omega)
  have vb : vp_in (nI j) 14 := vp_in_nI b3 (by omega)
  refine B_Gr_overlap_0 hs.1 hs.2.2.1.1 hs.2.2.1.2 va vb ?_
  rw [nI_clamp (by omega), nI_clamp (by omega), (hg.2.2.2 i a ha).2, (hg.2.2.2 j b hb).2]
  have em : (if nI b.length < nI a.length then nI b.length else nI a.length) = nI (min a.length b.length) := by
    by_cases q : b.length < a.length
    · rw [if_pos (nI_lt q (by omega)), Nat.min_eq_right (by omega)]
    · rw [if_neg (nI_nlt (by omega) (by omega)), Nat.min_eq_left (by omega)]
  rw [em, mts_ge a2 b2]
  unfold mts at k
  have loop : ∀ n, n ≤ a.length → n ≤ b.length → Q (some (.int (nI (mt a b n)))) h → wpx (d + 1) P_Gr_overlap 18 [.ref o, .int (nI i), .int (nI j), .int (nI n)] [] h Q := by
    intro n
    induction n with
    | zero =>
      intro _ _ k
      exact B_Gr_overlap_18 (fun _ => B_Gr_overlap_59 k) (fun q => absurd (by decide) q)
    | succ n ih =>
      intro h1 h2 k
      refine B_Gr_overlap_18 (fun q => absurd q (nI_nle (by omega) (by omega))) (fun _ => ?_)
      refine B_Gr_overlap_22 hs.1 hs.2.1.1 hs.2.1.2 va ?_
      rw [nI_clamp (by omega), (hg.2.2.2 i a ha).1]
      refine ow_lastOf a1 h1 ?_
      refine B_Gr_overlap_32 hs.1 hs.2.1.1 hs.2.1.2 vb hs.2.2.1.1 hs.2.2.1.2 vb ?_
      rw [nI_clamp (by omega), (hg.2.2.2 j b hb).1, (hg.2.2.2 j b hb).2]
      have el : (a.drop (a.length - (n + 1))).length = n + 1 := by rw [List.length_drop]; omega
      have key := @ow_begins d h (fun r h' => wpx (d + 1) P_Gr_overlap 48 [.ref o, .int (nI i), .int (nI j), .int (nI (n + 1))] (r.toList ++ []) h' Q) (a.drop (a.length - (n + 1))) b (a1.drop _) b1
      rw [el] at key
      refine key ?_
      unfold mt at k
      by_cases e : a.drop (a.length - (n + 1)) = b.take (n + 1)
      · rw [if_pos e] at k ⊢
        exact B_Gr_overlap_48 (fun z => absurd z (by decide)) (fun _ => B_Gr_overlap_51 k)
      · rw [if_neg e] at k ⊢
        refine B_Gr_overlap_48 (fun _ => B_Gr_overlap_53 ?_) (fun z => absurd rfl z)
        rw [nI_m1]
        exact ih (by omega) (by omega) k
  exact loop _ (by omega) (by omega) k
theorem ow_meets {d : Nat} {h : PH} {Q : PQ} {gs : List (List Nat)} {m : Nat} {x y : Int32} (hO : OwS h) (hg : CGr h 2 gs m) (k : Q (some (.int (meetR gs x y))) h) : wpm (d + 3) 124 [.ref 0, .int x, .int y] h Q := by
  refine wpm_in P_Ow_meets rfl (by decide) (by show ¬ 3 < 3; decide) ?_
  have hs := GrS_2 hO
  unfold meetR at k
  refine B_Ow_meets_0 hO.1 (or_groups hO) (os_groups hO) (gr_has hs hg ?_)
  by_cases q : x < 0 ∨ nI gs.length ≤ x
  · rw [if_pos q]
    rw [if_neg (fun w => w.1 q)] at k
    exact B_Ow_meets_8 (fun _ => B_Ow_meets_34 (B_Ow_meets_35 k)) (fun z => absurd rfl z)
  · rw [if_neg q]
    refine B_Ow_meets_8 (fun z => absurd z (by decide)) (fun _ => ?_)
    refine B_Ow_meets_11 hO.1 (or_groups hO) (os_groups hO) (gr_has hs hg ?_)
    by_cases p : y < 0 ∨ nI gs.length ≤ y
    · rw [if_pos p]
      rw [if_neg (fun w => w.2 p)] at k
      exact B_Ow_meets_19 (fun _ => B_Ow_meets_34 (B_Ow_meets_35 k)) (fun z => absurd rfl z)
    · rw [if_neg p]
      rw [if_pos ⟨q, p⟩] at k
      refine B_Ow_meets_19 (fun z => absurd z (by decide)) (fun _ => ?_)
      obtain ⟨i, a, rfl, ha, ea, hi⟩ := isg_get hg.1 q
      obtain ⟨j, b, rfl, hb, eb, hj⟩ := isg_get hg.1 p
      rw [ea, eb] at k
      refine B_Ow_meets_22 hO.1 (or_groups hO) (os_groups hO) (gr_overlap hs hg ha hb ?_)
      exact B_Ow_meets_31 (B_Ow_meets_35 k)
/-- fault: what both hold of it -/
def fltR (kind place x : Int32) : Int32 := if x = 0 then kind else if x = 1 then place else -1
theorem ow_fault {d : Nat} {h : PH} {Q : PQ} {x : Int32} (hO : OwS h) (k : Q (some (.int (fltR (h_i h 8 7) (h_i h 8 8) x))) h) : wpm (d + 1) 121 [.ref 0, .int x] h Q := by
  refine wpm_in P_Ow_fault rfl (by decide) (by show ¬ 2 < 2; decide) ?_
  unfold fltR at k
  refine B_Ow_fault_0 (fun q => ?_) (fun q => ?_)
  · rw [if_neg q] at k
    refine B_Ow_fault_12 (fun z => ?_) (fun z => ?_)
    · rw [if_neg z] at k
      exact B_Ow_fault_27 (B_Ow_fault_28 k)
    · rw [if_pos z] at k
      exact B_Ow_fault_17 hO.1 (or_teller hO) (os_teller hO) (B_Ow_fault_28 k)
  · rw [if_pos q] at k
    exact B_Ow_fault_4 hO.1 (or_teller hO) (os_teller hO) k
theorem md_fault {d : Nat} {h : PH} {Q : PQ} {x : Int32} (hM : MdS h) (k : Q (some (.int (fltR (h_i h 17 17) (h_i h 17 18) x))) (w_i h 17 0 0)) : wpm (d + 1) 196 [.ref 17, .int x] h Q := by
  refine wpm_in P_Md_fault rfl (by decide) (by show ¬ 2 < 2; decide) ?_
  unfold fltR at k
  have hM' := (th_fr h).md hM
  refine B_Md_fault_0 hM.1 (fun q => ?_) (fun q => ?_)
  · rw [if_neg q] at k
    refine B_Md_fault_16 (fun z => ?_) (fun z => ?_)
    · rw [if_neg z] at k
      exact B_Md_fault_28 (B_Md_fault_29 k)
    · rw [if_pos z] at k
      refine B_Md_fault_21 hM'.1 (B_Md_fault_29 ?_)
      rw [wi_ne h 0 (by decide)]
      exact k
  · rw [if_pos q] at k
    refine B_Md_fault_9 hM'.1 (B_Md_fault_29 ?_)
    rw [wi_ne h 0 (by decide)]
    exact k
