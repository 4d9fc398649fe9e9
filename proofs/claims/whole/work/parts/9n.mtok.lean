/-! table on the reference's side: tokens -/
def MBy (h : PH) (B : List Nat) : Prop := B.length ≤ 600 ∧ h_i h 17 13 = nI B.length ∧ ∀ (k n : Nat), B[k]? = some n → n < 256 ∧ h_i h 21 k = nI n
theorem MBy.fr {W : Nat → Nat → Prop} {h h' : PH} {B : List Nat} (hf : Fr W h h') (hw : ∀ k, ¬ W 21 k) (hw2 : ¬ W 17 13) (hB : MBy h B) : MBy h' B := ⟨hB.1, (hf.i _ _ hw2).trans hB.2.1, fun k n hn => ⟨(hB.2.2 k n hn).1, (hf.i _ _ (hw k)).trans (hB.2.2 k n hn).2⟩⟩
def byv (B : List Nat) (p : Nat) : Int32 := if p < B.length then nI (B.getD p 0) else -1
theorem byv_in {B : List Nat} {p n : Nat} (h : B[p]? = some n) : byv B p = nI n := by
  have := (List.getElem?_eq_some_iff.mp h).1
  unfold byv
  rw [if_pos this, List.getD_eq_getElem?_getD, h]
  rfl
theorem byv_out {B : List Nat} {p : Nat} (h : ¬ p < B.length) : byv B p = -1 := if_neg h
theorem md_byteAt {d : Nat} {h : PH} {Q : PQ} {B : List Nat} {p : Nat} (hM : MdS h) (hB : MBy h B) (hp : p < 2 ^ 31) (k : Q (some (.int (byv B p))) h) : wpm (d + 1) 180 [.ref 17, .int (nI p)] h Q := by
  refine wpm_in P_Md_byteAt rfl (by decide) (by show ¬ 2 < 2; decide) ?_
  have h6 := hB.1
  refine B_Md_byteAt_0 hM.1 (fun q => B_Md_byteAt_17 (B_Md_byteAt_18 ?_)) (fun q => ?_)
  · rw [hB.2.1, nI_leI (by omega) hp] at q
    rw [byv_out (by omega)] at k
    exact k
  · rw [hB.2.1, nI_leI (by omega) hp] at q
    have gb : B[p]? = some B[p] := List.getElem?_eq_getElem (by omega)
    refine B_Md_byteAt_8 hM.1 (mr_tape hM) (ms_tape hM) (vp_in_nI (by omega) (by omega)) (B_Md_byteAt_18 ?_)
    rw [nI_clamp hp, (hB.2.2 _ _ gb).2]
    rw [byv_in gb] at k
    exact k
def isS (B : List Nat) (p : Nat) : Prop := p < B.length ∧ sml (B.getD p 0) = true
theorem md_isSmall {d : Nat} {h : PH} {Q : PQ} {B : List Nat} {p : Nat} (hb : ∀ (k n : Nat), B[k]? = some n → n < 256) (kt : isS B p → Q (some (.int 1)) h) (kf : ¬ isS B p → Q (some (.int 0)) h) : wpm (d + 1) 181 [.int (byv B p)] h Q := by
  refine wpm_in P_Md_isSmall rfl (by decide) (by show ¬ 1 < 1; decide) ?_
  by_cases hp : p < B.length
  · have gb : B[p]? = some B[p] := List.getElem?_eq_getElem hp
    have hn := hb _ _ gb
    have eb : B.getD p 0 = B[p] := by rw [List.getD_eq_getElem?_getD, gb]; rfl
    have e97 : nI B[p] < (97 : Int32) ↔ B[p] < 97 := nI_ltI (b := 97) (by omega) (by omega)
    have e122 : (122 : Int32) < nI B[p] ↔ 122 < B[p] := nI_ltI (a := 122) (by omega) (by omega)
    refine B_Md_isSmall_0 (fun q => B_Md_isSmall_16 (B_Md_isSmall_17 rfl (kf (fun z => ?_)))) (fun q => B_Md_isSmall_6 (fun y => B_Md_isSmall_16 (B_Md_isSmall_17 rfl (kf (fun z => ?_)))) (fun y => B_Md_isSmall_12 (B_Md_isSmall_17 rfl (kt ⟨hp, ?_⟩))))
    · rw [byv_in gb, e97] at q
      have := sml_i z.2
      rw [eb] at this
      omega
    · rw [byv_in gb, e122] at y
      have := sml_i z.2
      rw [eb] at this
      omega
    · rw [byv_in gb, e97] at q
      rw [byv_in gb, e122] at y
      rw [eb]
      exact decide_eq_true ⟨by omega, by omega⟩
  · refine B_Md_isSmall_0 (fun q => B_Md_isSmall_16 (B_Md_isSmall_17 rfl (kf (fun z => hp z.1)))) (fun q => ?_)
    rw [byv_out hp] at q
    exact absurd (by decide) q
theorem isS_rlen {B : List Nat} {p : Nat} (hp : p ≤ B.length) : isS B p ↔ 0 < rlen B p := by
  constructor
  · rintro ⟨h1, h2⟩
    rcases Nat.eq_zero_or_pos (rlen B p) with z | z
    · exfalso
      rcases rlen_end hp with y | ⟨c, y1, y2⟩
      · omega
      · rw [z, Nat.add_zero] at y1
        rw [List.getD_eq_getElem?_getD, y1] at h2
        exact y2 h2
    · exact z
  · intro h
    obtain ⟨c, h1, h2⟩ := rlen_in (B := B) (p := p) (t := 0) h
    rw [Nat.add_zero] at h1
    exact ⟨(List.getElem?_eq_some_iff.mp h1).1, by rw [List.getD_eq_getElem?_getD, h1]; exact h2⟩
theorem isS_at {B : List Nat} {p i : Nat} (hp : p ≤ B.length) (hi : i ≤ rlen B p) : isS B (p + i) ↔ i < rlen B p := by
  constructor
  · rintro ⟨h1, h2⟩
    rcases Nat.lt_or_ge i (rlen B p) with z | z
    · exact z
    · exfalso
      have ei : i = rlen B p := by omega
      subst ei
      rcases rlen_end hp with y | ⟨c, y1, y2⟩
      · omega
      · rw [List.getD_eq_getElem?_getD, y1] at h2
        exact y2 h2
  · intro h
    obtain ⟨c, h1, h2⟩ := rlen_in (B := B) (p := p) (t := i) h
    exact ⟨(List.getElem?_eq_some_iff.mp h1).1, by rw [List.getD_eq_getElem?_getD, h1]; exact h2⟩
/-- the kind of a token, where it stops -/
def tkK (B : List Nat) (q : Nat) : Nat := if B.length ≤ q then 0 else if 0 < rlen B q then 1 else if B.getD q 0 = 61 ∨ B.getD q 0 = 124 ∨ B.getD q 0 = 59 then 2 else 3
def tkE (B : List Nat) (q : Nat) : Nat := if B.length ≤ q then q else if 0 < rlen B q then q + rlen B q else q + 1
def TKN (h : PH) (B : List Nat) (q : Nat) : Prop := q ≤ B.length ∧ (q < B.length → ¬ (B.getD q 0 = 32 ∨ B.getD q 0 = 10)) ∧ h_i h 17 14 = nI q ∧ h_i h 17 15 = nI (tkE B q) ∧ h_i h 17 16 = nI (tkK B q)
theorem tkE_le {B : List Nat} {q : Nat} (hq : q ≤ B.length) : tkE B q ≤ B.length := by
  have := rlen_le B q hq
  unfold tkE
  split
  · omega
  · split <;> omega
theorem prs_fuel {B : List Nat} : ∀ (f f' q : Nat) (s : PSt), B.length + 1 - q ≤ f → B.length + 1 - q ≤ f' → q ≤ B.length → prs B f q s = prs B f' q s
  | 0, _, _, _, h, _, _ => by omega
  | f + 1, 0, _, _, _, h, _ => by omega
  | f + 1, f' + 1, q, s, h1, h2, hq => by
    have hle := rlen_le B q hq
    unfold prs
    by_cases z : B.length ≤ q
    · rw [if_pos z, if_pos z]
    · rw [if_neg z, if_neg z]
      by_cases y : 0 < (rowAt B q).length
      · rw [if_pos y, if_pos y]
        rw [rowAt_len] at y ⊢
        rw [prs_fuel f f' (q + rlen B q) _ (by omega) (by omega) hle]
      · rw [if_neg y, if_neg y, prs_fuel f f' (q + 1) s (by omega) (by omega) (by omega), prs_fuel f f' (q + 1) _ (by omega) (by omega) (by omega)]
def AN (B : List Nat) (q : Nat) (s : PSt) (a : Nat × Nat × PSt) : Prop := q ≤ B.length ∧ prs B (B.length + 1 - q) q s = a
theorem prs_un (B : List Nat) (f p : Nat) (s : PSt) : prs B (f + 1) p s = if B.length ≤ p then (if s.1 = 0 then (0, p, s) else (2, B.length, s)) else if 0 < (rowAt B p).length then (if (stepR s (rowAt B p)).1 = 0 then prs B f (p + (rowAt B p).length) (stepR s (rowAt B p)).2 else ((stepR s (rowAt B p)).1, p, s)) else if B.getD p 0 = 32 ∨ B.getD p 0 = 10 then prs B f (p + 1) s else (if (stepS s (B.getD p 0)).1 = 0 then prs B f (p + 1) (stepS s (B.getD p 0)).2 else ((stepS s (B.getD p 0)).1, p, s)) := rfl
theorem AN.un {B : List Nat} {q : Nat} {s : PSt} {a : Nat × Nat × PSt} (h : AN B q s a) : (if B.length ≤ q then (if s.1 = 0 then (0, q, s) else (2, B.length, s)) else if 0 < rlen B q then (if (stepR s (rowAt B q)).1 = 0 then prs B (B.length - q) (q + rlen B q) (stepR s (rowAt B q)).2 else ((stepR s (rowAt B q)).1, q, s)) else if B.getD q 0 = 32 ∨ B.getD q 0 = 10 then prs B (B.length - q) (q + 1) s else (if (stepS s (B.getD q 0)).1 = 0 then prs B (B.length - q) (q + 1) (stepS s (B.getD q 0)).2 else ((stepS s (B.getD q 0)).1, q, s))) = a := by
  obtain ⟨h1, h2⟩ := h
  rw [show B.length + 1 - q = (B.length - q) + 1 by omega, prs_un, rowAt_len] at h2
  exact h2
theorem AN.blank {B : List Nat} {q : Nat} {s : PSt} {a : Nat × Nat × PSt} (h : AN B q s a) (hq : q < B.length) (hb : B.getD q 0 = 32 ∨ B.getD q 0 = 10) : AN B (q + 1) s a := by
  have h0 : ¬ 0 < rlen B q := fun z => by
    have := sml_i ((isS_rlen (by omega)).mpr z).2
    omega
  have := h.un
  rw [if_neg (by omega), if_neg h0, if_pos hb] at this
  refine ⟨by omega, ?_⟩
  rw [prs_fuel _ (B.length - q) _ _ (by omega) (by omega) (by omega)]
  exact this
theorem AN.row {B : List Nat} {q : Nat} {s : PSt} {a : Nat × Nat × PSt} (h : AN B q s a) (hk : tkK B q = 1) : ((stepR s (rowAt B q)).1 = 0 → AN B (q + rlen B q) (stepR s (rowAt B q)).2 a) ∧ (¬ (stepR s (rowAt B q)).1 = 0 → a.1 = (stepR s (rowAt B q)).1 ∧ a.2.1 = q) := by
  have hq := h.1
  have hle := rlen_le B q hq
  have h1 : ¬ B.length ≤ q ∧ 0 < rlen B q := by
    unfold tkK at hk
    split at hk
    · cases hk
    · split at hk
      · exact ⟨by assumption, by assumption⟩
      · split at hk <;> cases hk
  have := h.un
  rw [if_neg h1.1, if_pos h1.2] at this
  constructor
  · intro z
    rw [if_pos z] at this
    refine ⟨hle, ?_⟩
    rw [prs_fuel _ (B.length - q) _ _ (by omega) (by omega) hle]
    exact this
  · intro z
    rw [if_neg z] at this
    rw [← this]
    exact ⟨rfl, rfl⟩
theorem tkK_ne1 {B : List Nat} {q : Nat} (h : ¬ B.length ≤ q) (hk : ¬ tkK B q = 1) : ¬ 0 < rlen B q := fun z => hk (by
  unfold tkK
  rw [if_neg h, if_pos z])
theorem AN.sign {B : List Nat} {q : Nat} {s : PSt} {a : Nat × Nat × PSt} (h : AN B q s a) (hk : tkK B q = 2) (hb : q < B.length → ¬ (B.getD q 0 = 32 ∨ B.getD q 0 = 10)) (z : (stepS s (B.getD q 0)).1 = 0) : AN B (q + 1) (stepS s (B.getD q 0)).2 a := by
  have hq : ¬ B.length ≤ q := fun y => by
    unfold tkK at hk
    rw [if_pos y] at hk
    cases hk
  have := h.un
  rw [if_neg hq, if_neg (tkK_ne1 hq (by omega)), if_neg (hb (by omega)), if_pos z] at this
  refine ⟨by omega, ?_⟩
  rw [prs_fuel _ (B.length - q) _ _ (by omega) (by omega) (by omega)]
  exact this
theorem AN.bad {B : List Nat} {q : Nat} {s : PSt} {a : Nat × Nat × PSt} (h : AN B q s a) (hb : q < B.length → ¬ (B.getD q 0 = 32 ∨ B.getD q 0 = 10)) (h1 : ¬ tkK B q = 1) (h0 : tkK B q = 0 → ¬ s.1 = 0) (h2 : tkK B q = 2 → ¬ (stepS s (B.getD q 0)).1 = 0) : a.1 = (if tkK B q = 3 then 1 else 2) ∧ a.2.1 = q := by
  have := h.un
  have hq := h.1
  by_cases z : B.length ≤ q
  · have e0 : tkK B q = 0 := by
      unfold tkK
      rw [if_pos z]
    rw [if_pos z, if_neg (h0 e0)] at this
    rw [← this, e0]
    exact ⟨rfl, by show B.length = q; omega⟩
  · have hr := tkK_ne1 z h1
    rw [if_neg z, if_neg hr, if_neg (hb (by omega))] at this
    by_cases y : B.getD q 0 = 61 ∨ B.getD q 0 = 124 ∨ B.getD q 0 = 59
    · have e2 : tkK B q = 2 := by
        unfold tkK
        rw [if_neg z, if_neg hr, if_pos y]
      have hn := h2 e2
      rw [if_neg hn] at this
      rw [← this, e2]
      refine ⟨?_, rfl⟩
      show (stepS s (B.getD q 0)).1 = 2
      unfold stepS at hn ⊢
      rw [if_neg (fun u => u y)] at hn ⊢
      split
      · rename_i u
        rw [if_pos u] at hn
        exact absurd rfl hn
      · rename_i u
        rw [if_neg u] at hn
        split
        · rename_i u2
          rw [if_pos u2] at hn
          exact absurd rfl hn
        · rename_i u2
          rw [if_neg u2] at hn
          split
          · rename_i u3
            rw [if_pos u3] at hn
            exact absurd rfl hn
          · rfl
    · have e3 : tkK B q = 3 := by
        unfold tkK
        rw [if_neg z, if_neg hr, if_neg y]
      have es : stepS s (B.getD q 0) = (1, s) := by
        unfold stepS
        rw [if_pos y]
      rw [es, if_neg (by show ¬ 1 = 0; omega)] at this
      rw [← this, e3]
      exact ⟨rfl, rfl⟩
def Wnx (c k : Nat) : Prop := c = 17 ∧ (k = 14 ∨ k = 15 ∨ k = 16)
theorem md_next {d : Nat} {h : PH} {Q : PQ} {B : List Nat} {p : Nat} {s : PSt} {a : Nat × Nat × PSt} (hM : MdS h) (hB : MBy h B) (h15 : h_i h 17 15 = nI p) (ha : AN B p s a) (k : ∀ h' q, TKN h' B q → AN B q s a → p ≤ q → Fr Wnx h h' → Q none h') : wpm (d + 2) 182 [.ref 17] h Q := by
  refine wpm_in P_Md_next rfl (by decide) (by show ¬ 2 < 1; decide) ?_
  have h6 := hB.1
  have hby : ∀ (k n : Nat), B[k]? = some n → n < 256 := fun k n hn => (hB.2.2 k n hn).1
  have loop : ∀ (e q : Nat) (g : PH) (v1 : Value), B.length - q = e → p ≤ q → AN B q s a → h_i g 17 15 = nI q → Fr Wnx h g → wpx (d + 1) P_Md_next 0 [.ref 17, v1] [] g Q := by
    intro e
    induction e with
    | zero =>
      intro q g v1 he hpq ha h15 hf
      have hM' := hf.md hM
      have hB' : MBy g B := hB.fr hf (fun k z => by unfold Wnx at z; omega) (fun z => by unfold Wnx at z; omega)
      have hq := ha.1
      have eq0 : q = B.length := by omega
      have eb : byv B q = -1 := byv_out (by omega)
      refine B_Md_next_0 hM'.1 ?_
      rw [h15]
      refine md_byteAt hM' hB' (by omega) ?_
      rw [eb]
      refine B_Md_next_8 (fun z => absurd z (by decide)) (fun _ => B_Md_next_13 hM'.1 ?_)
      rw [h15]
      refine md_byteAt hM' hB' (by omega) ?_
      rw [eb]
      refine B_Md_next_21 (fun _ => B_Md_next_39 hM'.1 ?_) (fun z => absurd z (by decide))
      rw [wi_eq, h15]
      have hf2 : Fr Wnx h (w_i g 17 14 (nI q)) := hf.tr (Fr.wi _ _ ⟨rfl, Or.inl rfl⟩)
      have hM2 := hf2.md hM
      have hB2 : MBy (w_i g 17 14 (nI q)) B := hB.fr hf2 (fun k z => by unfold Wnx at z; omega) (fun z => by unfold Wnx at z; omega)
      refine md_byteAt hM2 hB2 (by omega) ?_
      rw [eb]
      refine B_Md_next_55 (fun z => absurd rfl z) (fun _ => B_Md_next_61 hM2.1 (B_Md_next_148 (k _ q ⟨hq, fun z => by omega, ?_, ?_, ?_⟩ ha hpq (hf2.tr (Fr.wi _ _ ⟨rfl, Or.inr (Or.inr rfl)⟩)))))
      · rw [wi_ne _ _ (by omega), wi_eq]
      · rw [wi_ne _ _ (by omega), wi_ne _ _ (by omega), h15]
        unfold tkE
        rw [if_pos (by omega)]
      · rw [wi_eq]
        unfold tkK
        rw [if_pos (by omega)]
        rfl
    | succ e ih =>
      intro q g v1 he hpq ha h15 hf
      have hM' := hf.md hM
      have hB' : MBy g B := hB.fr hf (fun k z => by unfold Wnx at z; omega) (fun z => by unfold Wnx at z; omega)
      have hq := ha.1
      have hqB : q < B.length := by omega
      have gb : B[q]? = some B[q] := List.getElem?_eq_getElem hqB
      have hn := hby _ _ gb
      have eg : B.getD q 0 = B[q] := by rw [List.getD_eq_getElem?_getD, gb]; rfl
      have eb : byv B q = nI B[q] := byv_in gb
      have hle := rlen_le B q hq
      generalize B[q] = c at gb hn eg eb
      have skip : (c = 32 ∨ c = 10) → wpx (d + 1) P_Md_next 26 [.ref 17, v1] [] g Q := fun z => by
        refine B_Md_next_26 hM'.1 ?_
        rw [h15, nI_1]
        exact ih (q + 1) _ _ (by omega) (by omega) (ha.blank hqB (by rw [eg]; exact z)) (wi_eq _ _ _ _) (hf.tr (Fr.wi _ _ ⟨rfl, Or.inr (Or.inl rfl)⟩))
      refine B_Md_next_0 hM'.1 ?_
      rw [h15]
      refine md_byteAt hM' hB' (by omega) ?_
      rw [eb]
      refine B_Md_next_8 (fun z => skip (Or.inl ((nI_eq (b := 32) (by omega) (by omega)).mp z))) (fun z1 => B_Md_next_13 hM'.1 ?_)
      rw [h15]
      refine md_byteAt hM' hB' (by omega) ?_
      rw [eb]
      refine B_Md_next_21 (fun z2 => B_Md_next_39 hM'.1 ?_) (fun z => skip (Or.inr ((nI_eq (b := 10) (by omega) (by omega)).mp z)))
      have hnb : ¬ (B.getD q 0 = 32 ∨ B.getD q 0 = 10) := by
        rw [eg]
        exact fun y => y.elim (fun y => z1 (by rw [y]; rfl)) (fun y => z2 (by rw [y]; rfl))
      rw [wi_eq, h15]
      have hf2 : Fr Wnx h (w_i g 17 14 (nI q)) := hf.tr (Fr.wi _ _ ⟨rfl, Or.inl rfl⟩)
      have hM2 := hf2.md hM
      have hB2 : MBy (w_i g 17 14 (nI q)) B := hB.fr hf2 (fun k z => by unfold Wnx at z; omega) (fun z => by unfold Wnx at z; omega)
      have e14 : h_i (w_i g 17 14 (nI q)) 17 14 = nI q := wi_eq _ _ _ _
      have e15 : h_i (w_i g 17 14 (nI q)) 17 15 = nI q := by rw [wi_ne _ _ (by omega)]; exact h15
      generalize w_i g 17 14 (nI q) = g2 at hf2 hM2 hB2 e14 e15 ⊢
      refine md_byteAt hM2 hB2 (by omega) ?_
      rw [eb]
      refine B_Md_next_55 (fun _ => B_Md_next_69 ?_) (fun z => absurd z (nI_neg1 (by omega)))
      have fin : ∀ (g3 : PH), Fr Wnx h g3 → h_i g3 17 14 = nI q → h_i g3 17 15 = nI (tkE B q) → h_i g3 17 16 = nI (tkK B q) → Q none g3 := fun g3 hf3 x1 x2 x3 => k g3 q ⟨hq, fun _ => hnb, x1, x2, x3⟩ ha hpq hf3
      rw [← eb]
      refine md_isSmall hby (fun z => ?_) (fun z => ?_)
      · have hr := (isS_rlen hq).mp z
        rw [eb]
        refine B_Md_next_73 (fun y => absurd y (by decide)) (fun _ => ?_)
        have run : ∀ (e2 i : Nat) (g3 : PH), rlen B q - i = e2 → i ≤ rlen B q → Fr Wnx h g3 → h_i g3 17 14 = nI q → h_i g3 17 15 = nI (q + i) → wpx (d + 1) P_Md_next 76 [.ref 17, .int (nI c)] [] g3 Q := by
          intro e2
          induction e2 with
          | zero =>
            intro i g3 he2 hi hf3 x1 x2
            have hM3 := hf3.md hM
            have hB3 : MBy g3 B := hB.fr hf3 (fun k z => by unfold Wnx at z; omega) (fun z => by unfold Wnx at z; omega)
            refine B_Md_next_76 hM3.1 ?_
            rw [x2]
            refine md_byteAt hM3 hB3 (by omega) (B_Md_next_84 (md_isSmall hby (fun y => ?_) (fun _ => ?_)))
            · have := (isS_at hq hi).mp y
              omega
            · refine B_Md_next_87 (fun _ => B_Md_next_103 hM3.1 (B_Md_next_148 (fin _ (hf3.tr (Fr.wi _ _ ⟨rfl, Or.inr (Or.inr rfl)⟩)) ?_ ?_ ?_))) (fun y => absurd rfl y)
              · rw [wi_ne _ _ (by omega)]
                exact x1
              · rw [wi_ne _ _ (by omega), x2]
                unfold tkE
                rw [if_neg (by omega), if_pos hr]
                congr 1
                omega
              · rw [wi_eq]
                unfold tkK
                rw [if_neg (by omega), if_pos hr]
                rfl
          | succ e2 ih2 =>
            intro i g3 he2 hi hf3 x1 x2
            have hM3 := hf3.md hM
            have hB3 : MBy g3 B := hB.fr hf3 (fun k z => by unfold Wnx at z; omega) (fun z => by unfold Wnx at z; omega)
            refine B_Md_next_76 hM3.1 ?_
            rw [x2]
            refine md_byteAt hM3 hB3 (by omega) (B_Md_next_84 (md_isSmall hby (fun _ => ?_) (fun y => absurd ((isS_at hq hi).mpr (by omega)) y)))
            refine B_Md_next_87 (fun y => absurd y (by decide)) (fun _ => B_Md_next_90 hM3.1 ?_)
            rw [x2, nI_1]
            exact ih2 (i + 1) _ (by omega) (by omega) (hf3.tr (Fr.wi _ _ ⟨rfl, Or.inr (Or.inl rfl)⟩)) (by rw [wi_ne _ _ (by omega)]; exact x1) (wi_eq _ _ _ _)
        exact run _ 0 g2 rfl (Nat.zero_le _) hf2 e14 e15
      · have hr : ¬ 0 < rlen B q := fun y => z ((isS_rlen hq).mpr y)
        rw [eb]
        have eE : tkE B q = q + 1 := by
          unfold tkE
          rw [if_neg (by omega), if_neg hr]
        have hf3 : Fr Wnx h (w_i g2 17 15 (nI (q + 1))) := hf2.tr (Fr.wi _ _ ⟨rfl, Or.inr (Or.inl rfl)⟩)
        have x1 : h_i (w_i g2 17 15 (nI (q + 1))) 17 14 = nI q := by rw [wi_ne _ _ (by omega)]; exact e14
        have x2 : h_i (w_i g2 17 15 (nI (q + 1))) 17 15 = nI (tkE B q) := by rw [wi_eq, eE]
        have hM3 := hf3.md hM
        have end2 : (c = 61 ∨ c = 124 ∨ c = 59) → wpx (d + 1) P_Md_next 140 [.ref 17, .int (nI c)] [.ref 17] (w_i g2 17 15 (nI (q + 1))) Q := fun y => by
          refine B_Md_next_140 (B_Md_next_145 hM3.1 (B_Md_next_148 (fin _ (hf3.tr (Fr.wi _ _ ⟨rfl, Or.inr (Or.inr rfl)⟩)) ?_ ?_ ?_)))
          · rw [wi_ne _ _ (by omega)]
            exact x1
          · rw [wi_ne _ _ (by omega)]
            exact x2
          · rw [wi_eq]
            unfold tkK
            rw [if_neg (by omega), if_neg hr, eg, if_pos y]
            rfl
        refine B_Md_next_73 (fun _ => B_Md_next_111 hM2.1 (fun y => ?_) (fun y1 => ?_)) (fun y => absurd rfl y)
        · rw [e15, nI_1]
          exact end2 (Or.inl ((nI_eq (b := 61) (by omega) (by omega)).mp y))
        · rw [e15, nI_1]
          refine B_Md_next_128 (fun y => end2 (Or.inr (Or.inl ((nI_eq (b := 124) (by omega) (by omega)).mp y)))) (fun y2 => B_Md_next_134 (fun y3 => ?_) (fun y => end2 (Or.inr (Or.inr ((nI_eq (b := 59) (by omega) (by omega)).mp y)))))
          refine B_Md_next_144 (B_Md_next_145 hM3.1 (B_Md_next_148 (fin _ (hf3.tr (Fr.wi _ _ ⟨rfl, Or.inr (Or.inr rfl)⟩)) ?_ ?_ ?_)))
          · rw [wi_ne _ _ (by omega)]
            exact x1
          · rw [wi_ne _ _ (by omega)]
            exact x2
          · rw [wi_eq]
            unfold tkK
            rw [if_neg (by omega), if_neg hr, eg, if_neg (fun u => u.elim (fun u => y1 (by rw [u]; rfl)) (fun u => u.elim (fun u => y2 (by rw [u]; rfl)) (fun u => y3 (by rw [u]; rfl))))]
            rfl
  exact loop _ p h _ rfl (Nat.le_refl _) ha h15 (Fr.rf _ _)
