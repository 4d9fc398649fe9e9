/-! table on the reference's side: what a token makes -/
def MPs (h : PH) (s : PSt) : Prop := h_i h 17 21 = nI s.2.1.length ∧ h_i h 17 22 = nI s.2.2.1.length ∧ (∀ k l, s.2.1[k]? = some l → h_i h 22 k = nI (pkN l)) ∧ (∀ k l, s.2.2.1[k]? = some l → h_i h 24 k = nI l.length ∧ ∀ j x, l[j]? = some x → h_i h 23 (8 * k + j) = nI (x + 96)) ∧ ∀ k x, s.2.2.2[k]? = some x → h_i h 25 k = nI x
theorem MPs.fr {W : Nat → Nat → Prop} {h h' : PH} {s : PSt} (hf : Fr W h h') (hw : ∀ c k, W c k → ¬ ((c = 17 ∧ (k = 21 ∨ k = 22)) ∨ (22 ≤ c ∧ c ≤ 25))) (hs : MPs h s) : MPs h' s := by
  obtain ⟨a, b, c, d, e⟩ := hs
  exact ⟨(hf.i _ _ (fun q => hw _ _ q (by omega))).trans a, (hf.i _ _ (fun q => hw _ _ q (by omega))).trans b, fun k l hl => (hf.i _ _ (fun q => hw _ _ q (by omega))).trans (c k l hl), fun k l hl => ⟨(hf.i _ _ (fun q => hw _ _ q (by omega))).trans (d k l hl).1, fun j x hx => (hf.i _ _ (fun q => hw _ _ q (by omega))).trans ((d k l hl).2 j x hx)⟩, fun k x hx => (hf.i _ _ (fun q => hw _ _ q (by omega))).trans (e k x hx)⟩
def PG (B : List Nat) (g : PH) (s : PSt) (q : Nat) (a : Nat × Nat × PSt) : Prop := MPs g s ∧ TKN g B q ∧ h_i g 17 19 = 0 ∧ AN B q s a ∧ okS s
def PB (g : PH) (a : Nat × Nat × PSt) : Prop := h_i g 17 19 = nI a.1 ∧ ¬ a.1 = 0 ∧ a.1 ≤ 4 ∧ h_i g 17 20 = nI a.2.1
def Wps (c k : Nat) : Prop := (c = 17 ∧ (14 ≤ k ∧ k ≤ 16 ∨ 19 ≤ k ∧ k ≤ 22)) ∨ (22 ≤ c ∧ c ≤ 25)
theorem PB.no {g : PH} {a : Nat × Nat × PSt} (h : PB g a) : ¬ h_i g 17 19 = 0 := fun z => by
  obtain ⟨h1, h2, h3, _⟩ := h
  rw [h1] at z
  exact h2 ((nI_eq (b := 0) (by omega) (by omega)).mp z)
theorem md_isGood {d : Nat} {h : PH} {Q : PQ} (hM : MdS h) (kt : h_i h 17 19 = 0 → Q (some (.int 1)) h) (kf : ¬ h_i h 17 19 = 0 → Q (some (.int 0)) h) : wpm (d + 1) 183 [.ref 17] h Q := by
  refine wpm_in P_Md_isGood rfl (by decide) (by show ¬ 1 < 1; decide) ?_
  exact B_Md_isGood_0 hM.1 (fun z => B_Md_isGood_11 (B_Md_isGood_12 rfl (kf z))) (fun z => B_Md_isGood_7 (B_Md_isGood_12 rfl (kt z)))
theorem md_fails {d : Nat} {h : PH} {Q : PQ} {B : List Nat} {q e : Nat} {a : Nat × Nat × PSt} (hM : MdS h) (ht : TKN h B q) (h19 : h_i h 17 19 = 0) (he0 : ¬ e = 0) (he4 : e ≤ 4) (ha : a.1 = (if tkK B q = 3 then 1 else e)) (hq : a.2.1 = q) (k : ∀ h', PB h' a → Fr Wps h h' → Q none h') : wpm (d + 1) 184 [.ref 17, .int (nI e)] h Q := by
  refine wpm_in P_Md_fails rfl (by decide) (by show ¬ 2 < 2; decide) ?_
  have hk3 : tkK B q < 2 ^ 31 := by
    unfold tkK
    repeat' split
    all_goals decide
  have fin : ∀ e2 : Nat, a.1 = e2 → ¬ e2 = 0 → e2 ≤ 4 → wpx d P_Md_fails 21 [.ref 17, .int (nI e)] [.int (nI e2), .ref 17] h Q := fun e2 h1 h2 h3 => by
    refine B_Md_fails_21 hM.1 hM.1 (B_Md_fails_32 (k _ ⟨?_, by omega, by omega, ?_⟩ ((Fr.wi h _ (by unfold Wps; omega)).tr (Fr.wi _ _ (by unfold Wps; omega)))))
    · rw [wi_ne _ _ (by omega), wi_eq, h1]
    · rw [wi_eq, wi_ne _ _ (by omega), ht.2.2.1, hq]
  refine B_Md_fails_0 hM.1 (fun z => absurd h19 z) (fun _ => B_Md_fails_7 hM.1 (fun z => B_Md_fails_20 ?_) (fun z => B_Md_fails_16 ?_))
  · rw [ht.2.2.2.2] at z
    have z3 : ¬ tkK B q = 3 := fun y => z (by rw [y]; rfl)
    rw [if_neg z3] at ha
    exact fin e ha he0 he4
  · rw [ht.2.2.2.2] at z
    have z3 : tkK B q = 3 := (nI_eq (b := 3) hk3 (by omega)).mp z
    rw [if_pos z3] at ha
    exact fin 1 ha (by omega) (by omega)
theorem md_goOnB {d : Nat} {h : PH} {Q : PQ} (hM : MdS h) (hb : ¬ h_i h 17 19 = 0) (k : Q none h) : wpm (d + 2) 185 [.ref 17] h Q := by
  refine wpm_in P_Md_goOn rfl (by decide) (by show ¬ 1 < 1; decide) ?_
  exact B_Md_goOn_0 hM.1 (md_isGood hM (fun z => absurd z hb) (fun _ => B_Md_goOn_4 (fun _ => B_Md_goOn_11 k) (fun z => absurd rfl z)))
theorem md_goOn {d : Nat} {h : PH} {Q : PQ} {B : List Nat} {p : Nat} {s : PSt} {a : Nat × Nat × PSt} (hM : MdS h) (hB : MBy h B) (hs : MPs h s) (h15 : h_i h 17 15 = nI p) (h19 : h_i h 17 19 = 0) (ha : AN B p s a) (ho : okS s) (k : ∀ h' q, PG B h' s q a → p ≤ q → Fr Wps h h' → Q none h') : wpm (d + 3) 185 [.ref 17] h Q := by
  refine wpm_in P_Md_goOn rfl (by decide) (by show ¬ 1 < 1; decide) ?_
  refine B_Md_goOn_0 hM.1 (md_isGood hM (fun _ => B_Md_goOn_4 (fun z => absurd z (by decide)) (fun _ => B_Md_goOn_7 hM.1 (md_next hM hB h15 ha (fun h' q ht ha' hpq hf => B_Md_goOn_11 (k h' q ⟨hs.fr hf (fun c k z => by unfold Wnx at z; omega), ht, (hf.i _ _ (fun z => by unfold Wnx at z; omega)).trans h19, ha', ho⟩ hpq (hf.up (fun c k z => by unfold Wnx at z; unfold Wps; omega)))))) ) (fun z => absurd h19 z))
theorem tkK_le (B : List Nat) (q : Nat) : tkK B q ≤ 3 := by
  unfold tkK
  repeat' split
  all_goals decide
theorem tkK_row {B : List Nat} {q : Nat} (h : tkK B q = 1) : q < B.length ∧ 0 < rlen B q ∧ tkE B q = q + rlen B q := by
  unfold tkK at h
  unfold tkE
  split at h
  · cases h
  · split at h
    · rename_i z1 z2
      rw [if_neg z1, if_pos z2]
      exact ⟨by omega, z2, rfl⟩
    · split at h <;> cases h
theorem tkK_sign {B : List Nat} {q : Nat} (h : tkK B q = 2) : q < B.length ∧ tkE B q = q + 1 ∧ (B.getD q 0 = 61 ∨ B.getD q 0 = 124 ∨ B.getD q 0 = 59) := by
  unfold tkK at h
  unfold tkE
  split at h
  · cases h
  · split at h
    · cases h
    · rename_i z1 z2
      split at h
      · rename_i z3
        rw [if_neg z1, if_neg z2]
        exact ⟨by omega, rfl, z3⟩
      · cases h
theorem md_isSign {d : Nat} {h : PH} {Q : PQ} {B : List Nat} {q c : Nat} (hM : MdS h) (hB : MBy h B) (ht : TKN h B q) (hc : c < 256) (kt : tkK B q = 2 → B.getD q 0 = c → Q (some (.int 1)) h) (kf : ¬ (tkK B q = 2 ∧ B.getD q 0 = c) → Q (some (.int 0)) h) : wpm (d + 2) 186 [.ref 17, .int (nI c)] h Q := by
  refine wpm_in P_Md_isSign rfl (by decide) (by show ¬ 2 < 2; decide) ?_
  have h6 := hB.1
  have hk := tkK_le B q
  have e2 : h_i h 17 16 = (2 : Int32) ↔ tkK B q = 2 := by rw [ht.2.2.2.2]; exact nI_eq (b := 2) (by omega) (by omega)
  refine B_Md_isSign_0 hM.1 (fun z => B_Md_isSign_24 (B_Md_isSign_25 rfl (kf (fun y => z (e2.mpr y.1))))) (fun z => B_Md_isSign_8 hM.1 ?_)
  have z2 := e2.mp z
  obtain ⟨s1, s2, s3⟩ := tkK_sign z2
  have gb : B[q]? = some B[q] := List.getElem?_eq_getElem s1
  have hn := (hB.2.2 _ _ gb).1
  have eb : B.getD q 0 = B[q] := by rw [List.getD_eq_getElem?_getD, gb]; rfl
  rw [ht.2.2.1]
  refine md_byteAt hM hB (by omega) ?_
  rw [byv_in gb]
  refine B_Md_isSign_16 (fun y => B_Md_isSign_24 (B_Md_isSign_25 rfl (kf (fun u => y ?_)))) (fun y => B_Md_isSign_20 (B_Md_isSign_25 rfl (kt z2 ?_)))
  · rw [← eb, u.2]
  · rw [eb]
    exact (nI_eq (by omega) (by omega)).mp y
theorem md_isShort {d : Nat} {h : PH} {Q : PQ} {B : List Nat} {q : Nat} (hM : MdS h) (h6 : B.length ≤ 600) (ht : TKN h B q) (kt : tkK B q = 1 → rlen B q ≤ 6 → Q (some (.int 1)) h) (kf : ¬ (tkK B q = 1 ∧ rlen B q ≤ 6) → Q (some (.int 0)) h) : wpm (d + 1) 188 [.ref 17] h Q := by
  refine wpm_in P_Md_isShort rfl (by decide) (by show ¬ 1 < 1; decide) ?_
  have hk := tkK_le B q
  have e1 : h_i h 17 16 = (1 : Int32) ↔ tkK B q = 1 := by rw [ht.2.2.2.2]; exact nI_eq (b := 1) (by omega) (by omega)
  refine B_Md_isShort_0 hM.1 (fun z => B_Md_isShort_26 (B_Md_isShort_27 rfl (kf (fun y => z (e1.mpr y.1))))) (fun z => ?_)
  have z1 := e1.mp z
  obtain ⟨r1, r2, r3⟩ := tkK_row z1
  have hle := rlen_le B q (by omega)
  have e3 : h_i h 17 15 - h_i h 17 14 = nI (rlen B q) := by
    rw [ht.2.2.1, ht.2.2.2.1, r3, nI_subN (by omega)]
    congr 1
    omega
  refine B_Md_isShort_8 hM.1 (fun y => B_Md_isShort_26 (B_Md_isShort_27 rfl (kf (fun u => ?_)))) (fun y => B_Md_isShort_22 (B_Md_isShort_27 rfl (kt z1 ?_)))
  · rw [e3] at y
    have := (nI_ltI (a := 6) (by omega) (by omega)).mp y
    have := u.2
    omega
  · rw [e3] at y
    have : ¬ 6 < rlen B q := fun u => y ((nI_ltI (a := 6) (by omega) (by omega)).mpr u)
    omega
theorem row_okn {B : List Nat} {q : Nat} (h1 : tkK B q = 1) (h6 : rlen B q ≤ 6) : okn (rowAt B q) := ⟨rowAt_ok, by rw [rowAt_len]; exact h6, by rw [rowAt_len]; exact (tkK_row h1).2.1⟩
theorem okn.lt {l : List Nat} (h : okn l) : pkN l < 2 ^ 30 := by
  have h1 := pkN_lt h.r.lt
  have h2 : 32 ^ l.length ≤ 32 ^ 6 := Nat.pow_le_pow_right (by omega) h.2.1
  have h3 : (32 : Nat) ^ 6 = 2 ^ 30 := by decide
  omega
theorem okn.inj {l m : List Nat} (hl : okn l) (hm : okn m) : nI (pkN l) = nI (pkN m) ↔ l = m := by
  have h1 := hl.lt
  have h2 := hm.lt
  rw [nI_eq (by omega) (by omega)]
  exact ⟨fun e => pkN_inj _ (Nat.le_refl _) hl.r.in32 hm.r.in32 e, fun e => by rw [e]⟩
theorem md_packed {d : Nat} {h : PH} {Q : PQ} {B : List Nat} {q : Nat} (hM : MdS h) (hB : MBy h B) (ht : TKN h B q) (h1 : tkK B q = 1) (h6 : rlen B q ≤ 6) (k : Q (some (.int (nI (pkN (rowAt B q))))) h) : wpm (d + 2) 187 [.ref 17] h Q := by
  refine wpm_in P_Md_packed rfl (by decide) (by show ¬ 3 < 1; decide) (B_Md_packed_0 hM.1 ?_)
  obtain ⟨r1, r2, r3⟩ := tkK_row h1
  have hle := rlen_le B q (by omega)
  have h600 := hB.1
  have hrl := rowAt_len B q
  rw [ht.2.2.1]
  have loop : ∀ (c i : Nat), rlen B q - i = c → i ≤ rlen B q → wpx (d + 1) P_Md_packed 7 [.ref 17, .int (nI (pkN ((rowAt B q).take i))), .int (nI (q + i))] [] h Q := by
    intro c
    induction c with
    | zero =>
      intro i hc hi
      refine B_Md_packed_7 hM.1 (fun _ => B_Md_packed_35 ?_) (fun z => ?_)
      · rw [List.take_of_length_le (by omega)]
        exact k
      · rw [ht.2.2.2.1, r3, nI_leI (by omega) (by omega)] at z
        omega
    | succ c ih =>
      intro i hc hi
      obtain ⟨n, z1, z2⟩ := rlen_in (B := B) (p := q) (t := i) (by omega)
      have hn := (hB.2.2 _ _ z1).1
      have hs := sml_i z2
      have gx : (rowAt B q)[i]? = some (rowAt B q)[i] := List.getElem?_eq_getElem (by omega)
      generalize (rowAt B q)[i] = x at gx
      obtain ⟨n', w1, w2, w3⟩ := rowAt_at gx
      rw [z1] at w1
      have en : n = n' := Option.some.inj w1
      subst en
      refine B_Md_packed_7 hM.1 (fun z => ?_) (fun _ => B_Md_packed_15 hM.1 (md_byteAt hM hB (by omega) ?_))
      · rw [ht.2.2.2.1, r3, nI_leI (by omega) (by omega)] at z
        omega
      · rw [byv_in z1]
        refine B_Md_packed_24 ?_
        rw [show (32 : Int32) = nI 32 from rfl, nI_mulN, nI_add, nI_1, show (96 : Int32) = nI 96 from rfl, nI_subN (by omega)]
        have e : pkN ((rowAt B q).take i) * 32 + n - 96 = pkN ((rowAt B q).take (i + 1)) := by
          rw [List.take_add_one, gx]
          show _ = pkN ((rowAt B q).take i ++ [x])
          rw [pkN_snoc, w3]
          omega
        rw [e]
        exact ih (i + 1) (by omega) (by omega)
  have := loop _ 0 rfl (Nat.zero_le _)
  rw [List.take_zero] at this
  exact this
theorem okn_snd : okn snd5 := by
  refine ⟨fun x hx => ?_, by decide, by decide⟩
  simp only [snd5, List.mem_cons, List.not_mem_nil, or_false] at hx
  omega
theorem md_isSound {d : Nat} {h : PH} {Q : PQ} {B : List Nat} {q : Nat} (hM : MdS h) (hB : MBy h B) (ht : TKN h B q) (kt : tkK B q = 1 → rowAt B q = snd5 → Q (some (.int 1)) h) (kf : ¬ (tkK B q = 1 ∧ rowAt B q = snd5) → Q (some (.int 0)) h) : wpm (d + 3) 189 [.ref 17] h Q := by
  refine wpm_in P_Md_isSound rfl (by decide) (by show ¬ 1 < 1; decide) ?_
  refine B_Md_isSound_0 hM.1 (md_isShort hM hB.1 ht (fun z1 z2 => ?_) (fun z => ?_))
  · refine B_Md_isSound_4 (fun z => absurd z (by decide)) (fun _ => B_Md_isSound_7 hM.1 (md_packed hM hB ht z1 z2 ?_))
    have e : nI (pkN (rowAt B q)) = (20436420 : Int32) ↔ rowAt B q = snd5 := okn.inj (row_okn z1 z2) okn_snd
    exact B_Md_isSound_11 (fun y => B_Md_isSound_20 (B_Md_isSound_21 rfl (kf (fun u => y (e.mpr u.2))))) (fun y => B_Md_isSound_16 (B_Md_isSound_21 rfl (kt z1 (e.mp y))))
  · refine B_Md_isSound_4 (fun _ => B_Md_isSound_20 (B_Md_isSound_21 rfl (kf (fun u => z ⟨u.1, ?_⟩)))) (fun y => absurd rfl y)
    have := congrArg List.length u.2
    rw [rowAt_len] at this
    have e5 : snd5.length = 5 := rfl
    omega
