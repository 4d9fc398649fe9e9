/-! letter and group on both sides -/
/-- THE WORD: letters 1 .. 27 -/
def okw (w : List Nat) : Prop := w.length ≤ 800 ∧ ∀ x ∈ w, 0 < x ∧ x < 28
def CWd (h : PH) (w : List Nat) : Prop := okw w ∧ h_i h 13 1 = nI w.length ∧ ∀ k x, w[k]? = some x → h_i h 14 k = nI x
def MWd (h : PH) (w : List Nat) : Prop := okw w ∧ h_i h 17 24 = nI w.length ∧ ∀ k x, w[k]? = some x → h_i h 26 k = nI (x + 96)
def letR (w : List Nat) (x : Int32) : Int32 := if x < 0 ∨ nI w.length ≤ x then -1 else nI (w.getD x.toNatClampNeg 0 + 96)
theorem CWd.fr {W : Nat → Nat → Prop} {h h' : PH} {w : List Nat} (hf : Fr W h h') (hw : ∀ c k, W c k → ¬ ((c = 13 ∧ k = 1) ∨ c = 14)) (hg : CWd h w) : CWd h' w := by
  refine ⟨hg.1, ?_, fun k x hk => ?_⟩
  · rw [hf.i 13 1 (fun q => hw _ _ q (Or.inl ⟨rfl, rfl⟩))]; exact hg.2.1
  · rw [hf.i 14 k (fun q => hw _ _ q (Or.inr rfl))]; exact hg.2.2 k x hk
theorem MWd.fr {W : Nat → Nat → Prop} {h h' : PH} {w : List Nat} (hf : Fr W h h') (hw : ∀ c k, W c k → ¬ ((c = 17 ∧ k = 24) ∨ c = 26)) (hg : MWd h w) : MWd h' w := by
  refine ⟨hg.1, ?_, fun k x hk => ?_⟩
  · rw [hf.i 17 24 (fun q => hw _ _ q (Or.inl ⟨rfl, rfl⟩))]; exact hg.2.1
  · rw [hf.i 26 k (fun q => hw _ _ q (Or.inr rfl))]; exact hg.2.2 k x hk
theorem wth_w : ∀ c k, Wth c k → ¬ ((c = 17 ∧ k = 24) ∨ c = 26) := by
  rintro c k ⟨rfl, rfl⟩ q
  omega
/-- a number that is within a row -/
theorem in_row {n : Nat} {x : Int32} (hn : n < 2 ^ 31) (h0 : ¬ x < 0) (h1 : ¬ nI n ≤ x) : ∃ k, k < n ∧ x = nI k := by
  obtain ⟨k, hk, rfl⟩ := nI_of (x := x) h0
  refine ⟨k, ?_, rfl⟩
  rw [nI_leI hn hk] at h1
  omega
/-- the reference's way to say so -/
theorem in_pred {n : Nat} {x : Int32} (hn : n < 2 ^ 31) : (x < 0 ∨ nI n - (1 : Int32) < x) ↔ (x < 0 ∨ nI n ≤ x) := by
  by_cases h0 : x < 0
  · exact ⟨fun _ => Or.inl h0, fun _ => Or.inl h0⟩
  · obtain ⟨k, hk, rfl⟩ := nI_of (x := x) h0
    have hp : nI n - (1 : Int32) < nI k ↔ nI n ≤ nI k := by
      rw [nI_leI hn hk]
      cases n with
      | zero =>
        constructor
        · intro _; omega
        · intro _
          have : (nI 0 - 1 : Int32) = -1 := by decide
          rw [this, Int32.lt_iff_toInt_lt, nI_toInt hk]
          show (-1 : Int) < _
          omega
      | succ n =>
        rw [nI_pred, nI_ltI (by omega) hk]
        omega
    rw [hp]
theorem getD_some {w : List Nat} {k x : Nat} (h : w[k]? = some x) : w.getD k 0 = x := by
  rw [List.getD_eq_getElem?_getD, h]
  rfl
theorem ow_letter {d : Nat} {h : PH} {Q : PQ} {w : List Nat} {x : Int32} (hO : OwS h) (hw : CWd h w) (k : Q (some (.int (letR w x))) h) : wpm (d + 1) 133 [.ref 0, .int x] h Q := by
  refine wpm_in P_Ow_letter rfl (by decide) (by show ¬ 2 < 2; decide) ?_
  have h8 := hw.1.1
  unfold letR at k
  refine B_Ow_letter_0 (fun q => ?_) (fun q => ?_)
  · rw [if_pos (Or.inl q)] at k
    exact B_Ow_letter_30 (B_Ow_letter_31 k)
  · refine B_Ow_letter_4 hO.1 (or_theWord hO) (os_theWord hO) (fun z => ?_) (fun z => ?_)
    · rw [hw.2.1] at z
      rw [if_pos (Or.inr z)] at k
      exact B_Ow_letter_30 (B_Ow_letter_31 k)
    · rw [hw.2.1] at z
      rw [if_neg (fun e => e.elim q z)] at k
      obtain ⟨i, hi, rfl⟩ := in_row (by omega) q z
      have gi : w[i]? = some w[i] := List.getElem?_eq_getElem hi
      refine B_Ow_letter_15 hO.1 (or_theWord hO) (os_theWord hO) (or_w_sign hO) (os_w_sign hO) (vp_in_nI (by omega) (by omega)) (B_Ow_letter_31 ?_)
      rw [nI_clamp (by omega), getD_some gi] at k
      rw [nI_clamp (by omega), hw.2.2 i _ gi, show (96 : Int32) = nI 96 from rfl, nI_add]
      exact k
theorem md_letter {d : Nat} {h : PH} {Q : PQ} {w : List Nat} {x : Int32} (hM : MdS h) (hw : MWd h w) (k : Q (some (.int (letR w x))) (w_i h 17 0 0)) : wpm (d + 2) 229 [.ref 17, .int x] h Q := by
  refine wpm_in P_Md_letter rfl (by decide) (by show ¬ 2 < 2; decide) ?_
  have h8 := hw.1.1
  unfold letR at k
  refine B_Md_letter_0 hM.1 ?_
  have hM := (th_fr h).md hM
  have hw := hw.fr (th_fr h) wth_w
  generalize w_i h 17 0 0 = h at k hM hw ⊢
  rw [hw.2.1]
  refine md_in ?_
  by_cases q : x < 0 ∨ nI w.length ≤ x
  · rw [if_pos ((in_pred (by omega)).mpr q)]
    rw [if_pos q] at k
    exact B_Md_letter_16 (fun _ => B_Md_letter_28 (B_Md_letter_29 k)) (fun z => absurd rfl z)
  · rw [if_neg (fun e => q ((in_pred (by omega)).mp e))]
    rw [if_neg q] at k
    refine B_Md_letter_16 (fun z => absurd z (by decide)) (fun _ => ?_)
    obtain ⟨i, hi, rfl⟩ := in_row (by omega) (fun e => q (Or.inl e)) (fun e => q (Or.inr e))
    have gi : w[i]? = some w[i] := List.getElem?_eq_getElem hi
    refine B_Md_letter_19 hM.1 (mr_word hM) (ms_word hM) (vp_in_nI (by omega) (by omega)) (B_Md_letter_29 ?_)
    rw [nI_clamp (by omega), getD_some gi] at k
    rw [nI_clamp (by omega), hw.2.2 i _ gi]
    exact k
/-- group -/
def grpA (l : List Nat) (s : Int32) (b : Nat) (y : Int32) : Int32 := if y = 0 then s else if y = 1 then nI l.length else if y = 2 then (if b = 1 then 0 else 1) else if (10 : Int32) ≤ y then shw l (y - (10 : Int32)) else -1
def grpR (gs : List (List Nat)) (m : Nat) (so : Nat → Int32) (x y : Int32) : Int32 := if isg gs x then grpA (gs.getD x.toNatClampNeg []) (so x.toNatClampNeg) (m / 2 ^ x.toNatClampNeg % 2) y else -1
def CSo (h : PH) (o n : Nat) (so : Nat → Int32) : Prop := ∀ k, k < n → h_i h (o + 3) k = so k
def MSo (h : PH) (n : Nat) (so : Nat → Int32) : Prop := ∀ k, k < n → h_i h 20 k = so k
theorem toInt_is {x : Int32} {n : Int} (h : x.toInt = n) : x = Int32.ofInt n := by
  rw [← h, Int32.ofInt_toInt]
theorem ow_group {d : Nat} {h : PH} {Q : PQ} {gs : List (List Nat)} {m : Nat} {so : Nat → Int32} {x y : Int32} (hO : OwS h) (hg : CGr h 2 gs m) (hs : CSo h 2 gs.length so) (k : Q (some (.int (grpR gs m so x y))) h) : wpm (d + 3) 122 [.ref 0, .int x, .int y] h Q := by
  refine wpm_in P_Ow_group rfl (by decide) (by show ¬ 3 < 3; decide) ?_
  have hG := GrS_2 hO
  unfold grpR at k
  refine B_Ow_group_0 hO.1 (or_groups hO) (os_groups hO) (gr_has hG hg ?_)
  by_cases q : x < 0 ∨ nI gs.length ≤ x
  · rw [if_pos q]
    rw [if_neg (fun w => w q)] at k
    exact B_Ow_group_8 (fun z => absurd rfl z) (fun _ => B_Ow_group_11 k)
  · rw [if_neg q]
    rw [if_pos q] at k
    refine B_Ow_group_8 (fun _ => ?_) (fun z => absurd z (by decide))
    obtain ⟨i, a, rfl, ha, ea, hi⟩ := isg_get hg.1 q
    obtain ⟨a1, a2, a3⟩ := hg.1.at ha
    have hl := (List.getElem?_eq_some_iff.mp ha).1
    rw [ea, nI_clamp (by omega)] at k
    have va : vp_in (nI i) 14 := vp_in_nI a3 (by omega)
    unfold grpA at k
    refine B_Ow_group_13 (lo := 0) (tg := [40, 50, 60]) (df := 77) rfl (fun z => ?_) (fun t z e => ?_)
    · have n0 : ¬ y = 0 := fun w => by subst w; revert z; decide
      have n1 : ¬ y = 1 := fun w => by subst w; revert z; decide
      have n2 : ¬ y = 2 := fun w => by subst w; revert z; decide
      rw [if_neg n0, if_neg n1, if_neg n2] at k
      refine B_Ow_group_77 (fun w => ?_) (fun w => ?_)
      · rw [if_pos w] at k
        refine B_Ow_group_87 hO.1 (or_groups hO) (os_groups hO) (or_g_code hO) (os_g_code hO) va (or_g_length hO) (os_g_length hO) va ?_
        rw [nI_clamp (by omega), show (3 : Nat) = 2 + 1 from rfl, show (4 : Nat) = 2 + 2 from rfl, (hg.2.2.2 i a ha).1, (hg.2.2.2 i a ha).2]
        exact ow_shown a1 (B_Ow_group_112 k)
      · rw [if_neg w] at k
        exact B_Ow_group_83 (B_Ow_group_112 k)
    · have hy : y.toInt = 0 ∨ y.toInt = 1 ∨ y.toInt = 2 := by
        have : ([40, 50, 60] : List Nat).length = 3 := rfl
        rw [this] at z
        omega
      rcases hy with hy | hy | hy
      · rw [hy] at e
        have et : t = 40 := (Option.some.inj e).symm
        subst et
        have ey : y = 0 := toInt_is hy
        rw [if_pos ey] at k
        refine B_Ow_group_40 hO.1 (or_groups hO) (os_groups hO) (or_g_sound hO) (os_g_sound hO) va ?_
        rw [nI_clamp (by omega), show (5 : Nat) = 2 + 3 from rfl, hs i hl]
        exact k
      · rw [hy] at e
        have et : t = 50 := (Option.some.inj e).symm
        subst et
        have ey : y = 1 := toInt_is hy
        subst ey
        rw [if_neg (by decide), if_pos rfl] at k
        refine B_Ow_group_50 hO.1 (or_groups hO) (os_groups hO) (or_g_length hO) (os_g_length hO) va ?_
        rw [nI_clamp (by omega), show (4 : Nat) = 2 + 2 from rfl, (hg.2.2.2 i a ha).2]
        exact k
      · rw [hy] at e
        have et : t = 60 := (Option.some.inj e).symm
        subst et
        have ey : y = 2 := toInt_is hy
        subst ey
        rw [if_neg (by decide), if_neg (by decide), if_pos rfl] at k
        refine B_Ow_group_60 hO.1 (or_groups hO) (os_groups hO) (gr_isIn hG hg hl (fun w => ?_) (fun w => ?_))
        · rw [if_pos w] at k
          exact B_Ow_group_68 (fun z => absurd z (by decide)) (fun _ => B_Ow_group_71 (B_Ow_group_76 k))
        · rw [if_neg w] at k
          exact B_Ow_group_68 (fun _ => B_Ow_group_75 (B_Ow_group_76 k)) (fun z => absurd rfl z)
theorem MSo.fr {W : Nat → Nat → Prop} {h h' : PH} {n : Nat} {so : Nat → Int32} (hf : Fr W h h') (hw : ∀ c k, W c k → ¬ c = 20) (hg : MSo h n so) : MSo h' n so := fun k hk => by
  rw [hf.i 20 k (fun q => hw _ _ q rfl)]; exact hg k hk
theorem CSo.fr {W : Nat → Nat → Prop} {h h' : PH} {o n : Nat} {so : Nat → Int32} (hf : Fr W h h') (hw : ∀ c k, W c k → ¬ c = o + 3) (hg : CSo h o n so) : CSo h' o n so := fun k hk => by
  rw [hf.i (o + 3) k (fun q => hw _ _ q rfl)]; exact hg k hk
theorem wth_s : ∀ c k, Wth c k → ¬ c = 20 := by
  rintro c k ⟨rfl, rfl⟩ q
  omega
theorem md_group {d : Nat} {h : PH} {Q : PQ} {gs : List (List Nat)} {m : Nat} {so : Nat → Int32} {x y : Int32} (hM : MdS h) (hg : MGr h gs m) (hs : MSo h gs.length so) (k : Q (some (.int (grpR gs m so x y))) (w_i h 17 0 0)) : wpm (d + 3) 203 [.ref 17, .int x, .int y] h Q := by
  refine wpm_in P_Md_group rfl (by decide) (by show ¬ 3 < 3; decide) ?_
  unfold grpR at k
  refine B_Md_group_0 hM.1 ?_
  have hM := (th_fr h).md hM
  have hg := hg.fr (th_fr h) wth_g
  have hs := hs.fr (th_fr h) wth_s
  generalize w_i h 17 0 0 = h at k hM hg hs ⊢
  refine md_isGroup hM hg (fun q => ?_) (fun q => ?_)
  · rw [if_pos q] at k
    refine B_Md_group_10 (fun _ => ?_) (fun z => absurd z (by decide))
    obtain ⟨i, a, rfl, ha, ea, hi⟩ := isg_get hg.1 q
    obtain ⟨a1, a2, a3⟩ := hg.1.at ha
    have a7 := a1.2
    have hl := (List.getElem?_eq_some_iff.mp ha).1
    rw [ea, nI_clamp (by omega)] at k
    have va : vp_in (nI i) 14 := vp_in_nI a3 (by omega)
    unfold grpA at k
    refine B_Md_group_15 hM.1 (mr_size hM) (ms_size hM) va ?_
    rw [nI_clamp (by omega), (hg.2.2.2 i a ha).1, show (9 : Int32) = nI 9 from rfl, nI_add]
    refine md_in ?_
    by_cases w : (10 : Int32) ≤ y
    · obtain ⟨v, hv, rfl⟩ := nI_of (x := y) (fun e => by
        have := Int32.le_iff_toInt_le.mp w
        have := Int32.lt_iff_toInt_lt.mp e
        have e1 : (10 : Int32).toInt = 10 := rfl
        have e2 : (0 : Int32).toInt = 0 := rfl
        omega)
      have hv10 : 10 ≤ v := (nI_leI (a := 10) (by omega) hv).mp w
      have n0 : ¬ nI v = (0 : Int32) := fun e => by have := (nI_eq (b := 0) hv (by omega)).mp e; omega
      have n1 : ¬ nI v = (1 : Int32) := fun e => by have := (nI_eq (b := 1) hv (by omega)).mp e; omega
      have n2 : ¬ nI v = (2 : Int32) := fun e => by have := (nI_eq (b := 2) hv (by omega)).mp e; omega
      rw [if_neg n0, if_neg n1, if_neg n2, if_pos w] at k
      unfold shw at k
      rw [show (10 : Int32) = nI 10 from rfl, nI_subN hv10] at k
      by_cases z : a.length ≤ v - 10
      · rw [if_pos (Or.inr (nI_le z (by omega)))] at k
        rw [if_pos (Or.inr (nI_lt (by omega) hv))]
        refine B_Md_group_30 (fun _ => ?_) (fun e => absurd rfl e)
        refine B_Md_group_43 (fun _ => ?_) (fun e => absurd e n0)
        refine B_Md_group_56 (fun _ => ?_) (fun e => absurd e n1)
        refine B_Md_group_70 (fun _ => ?_) (fun e => absurd e n2)
        exact B_Md_group_94 (B_Md_group_95 k)
      · rw [if_neg (fun e => e.elim (nI_pos (by omega)) (nI_ge (by omega) (by omega)))] at k
        rw [if_neg (fun e => e.elim (nI_nlt (b := 10) hv10 hv) (nI_nlt (by omega) (by omega)))]
        refine B_Md_group_30 (fun e => absurd e (by decide)) (fun _ => ?_)
        refine B_Md_group_33 hM.1 ?_
        rw [show (10 : Int32) = nI 10 from rfl, nI_subN hv10]
        have gi : a[v - 10]? = some a[v - 10] := List.getElem?_eq_getElem (by omega)
        rw [nI_clamp (by omega), getD_some gi] at k
        refine md_letterAt hM (by omega) ?_
        rw [(hg.2.2.2 i a ha).2 _ _ gi]
        exact B_Md_group_42 k
    · rw [if_pos (Or.inl (Int32.not_le.mp w))]
      refine B_Md_group_30 (fun _ => ?_) (fun e => absurd rfl e)
      refine B_Md_group_43 (fun n0 => ?_) (fun n0 => ?_)
      · rw [if_neg n0] at k
        refine B_Md_group_56 (fun n1 => ?_) (fun n1 => ?_)
        · rw [if_neg n1] at k
          refine B_Md_group_70 (fun n2 => ?_) (fun n2 => ?_)
          · rw [if_neg n2, if_neg w] at k
            exact B_Md_group_94 (B_Md_group_95 k)
          · rw [if_pos n2] at k
            refine B_Md_group_75 hM.1 ?_
            rw [hg.2.2.1]
            refine md_isOf hg.1.m31 (by omega) (fun p => ?_) (fun p => ?_)
            · rw [if_pos p] at k
              exact B_Md_group_83 (fun z => absurd z (by decide)) (fun _ => B_Md_group_86 (B_Md_group_95 k))
            · rw [if_neg p] at k
              exact B_Md_group_83 (fun _ => B_Md_group_90 (B_Md_group_95 k)) (fun z => absurd rfl z)
        · rw [if_pos n1] at k
          refine B_Md_group_61 hM.1 (mr_size hM) (ms_size hM) va (B_Md_group_95 ?_)
          rw [nI_clamp (by omega), (hg.2.2.2 i a ha).1]
          exact k
      · rw [if_pos n0] at k
        refine B_Md_group_47 hM.1 (mr_soundOf hM) (ms_soundOf hM) va (B_Md_group_95 ?_)
        rw [nI_clamp (by omega), hs i hl]
        exact k
  · rw [if_neg q] at k
    exact B_Md_group_10 (fun z => absurd rfl z) (fun _ => B_Md_group_13 k)
