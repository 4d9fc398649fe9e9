/-! table on the class's side: groups told, rows, the text read -/
theorem te_takeGroup {d : Nat} {h : PH} {Q : PQ} {s : PSt} {l : List Nat} (hO : OwS h) (hs : CTl h s) (ho : okS s) (h7 : h_i h 8 7 = 0) (h3 : s.1 = 3) (hl : okn l) (k : ∀ h', TO h' s (stepR s l) → Fr Wte h h' → Q none h') : wpm (d + 1) 89 [.ref 8, .long (pk l), .int (nI l.length)] h Q := by
  refine wpm_in P_Te_takeGroup rfl (by decide) (by show ¬ 5 < 4; decide) (B_Te_takeGroup_0 ?_)
  have hT := os_teller hO
  have h14 := ho.2.2.1
  have hn0 := ho.2.2.2.2.2.2.2.1 (by omega)
  have h10 := ho.2.1
  obtain ⟨a1, a2, a3, a4, a5, a6⟩ := hs
  unfold stepR at k
  rw [if_neg (by omega), if_neg (by have := hl.2.1; omega), if_neg (by omega), if_pos h3] at k
  have loop : ∀ (c j : Nat), s.2.2.1.length - j = c → j ≤ s.2.2.1.length → (∀ (t : Nat) (l' : List Nat), t < j → s.2.2.1[t]? = some l' → l' ≠ l) → wpx d P_Te_takeGroup 3 [.ref 8, .long (pk l), .retAddr 2, .int (nI l.length), .int (nI j)] [] h Q := by
    intro c
    induction c with
    | zero =>
      intro j hc hj hi
      have ej : j = s.2.2.1.length := by omega
      have hnot : ¬ l ∈ s.2.2.1 := fun u => by
        obtain ⟨t, ht⟩ := List.mem_iff_getElem?.mp u
        have := (List.getElem?_eq_some_iff.mp ht).1
        exact hi t l (by omega) ht rfl
      rw [if_neg hnot] at k
      refine B_Te_takeGroup_3 hT (fun _ => B_Te_takeGroup_36 hT (fun y => ?_) (fun y => ?_)) (fun q => ?_)
      · rw [a3] at y
        have y' := (nI_ltI (b := 14) (by omega) (by omega)).mp y
        rw [if_neg (fun u => u y')] at k
        have v1 : vp_in (nI s.2.2.1.length) 14 := vp_in_nI y' (by omega)
        refine B_Te_takeGroup_51 hT (or_t_code hO) (os_t_code hO) (by rw [a3]; exact v1) (or_t_length hO) (os_t_length hO) (by rw [wl_i, a3]; exact v1) (or_t_sound hO) (os_t_sound hO) (by rw [a3, nI_clamp (by omega), wi_ne _ _ (by omega), wl_i, a3]; exact v1) ?_
        rw [a3, nI_clamp (by omega), wl_i, a3, nI_clamp (by omega), wi_ne _ _ (by omega), wl_i, a3, nI_clamp (by omega), wi_ne _ _ (by omega), wl_i, a2, show nI s.2.1.length - (1 : Int32) = nI (s.2.1.length - 1) from nI_subN (b := 1) (by omega)]
        refine B_Te_takeGroup_86 hT (k _ ?_ ?_)
        · rw [wi_ne _ _ (by omega), wi_ne _ _ (by omega), wl_i, a3, nI_1]
          refine to_ok ⟨wi_eq _ _ _ _, ?_, ?_, fun t l' ht => ?_, fun t l' ht => ?_, fun t x ht => ?_⟩ ?_
          · rw [wi_ne _ _ (by omega), wi_ne _ _ (by omega), wi_ne _ _ (by omega), wi_ne _ _ (by omega), wl_i]
            exact a2
          · rw [wi_ne _ _ (by omega), wi_eq, List.length_append]
            rfl
          · show h_l (w_l h 10 s.2.2.1.length (pk l)) 9 t = _
            rw [h_l_wl, if_neg (by omega)]
            exact a4 t l' ht
          · by_cases e : t = s.2.2.1.length
            · subst e
              rw [List.getElem?_append_right (Nat.le_refl _), Nat.sub_self] at ht
              cases ht
              refine ⟨?_, ?_⟩
              · show h_l (w_l h 10 s.2.2.1.length (pk l)) 10 s.2.2.1.length = _
                rw [h_l_wl, if_pos ⟨rfl, rfl⟩]
              · rw [wi_ne _ _ (by omega), wi_ne _ _ (by omega), wi_ne _ _ (by omega), wi_eq]
            · have hlt := (List.getElem?_eq_some_iff.mp ht).1
              rw [List.length_append] at hlt
              have e1 : [l].length = 1 := rfl
              rw [List.getElem?_append_left (by omega)] at ht
              refine ⟨?_, ?_⟩
              · show h_l (w_l h 10 s.2.2.1.length (pk l)) 10 t = _
                rw [h_l_wl, if_neg (fun u => e u.2)]
                exact (a5 t l' ht).1
              · rw [wi_ne _ _ (by omega), wi_ne _ _ (by omega), wi_ne _ _ (by omega), wi_ne _ _ (by omega), wl_i]
                exact (a5 t l' ht).2
          · by_cases e : t = s.2.2.2.length
            · rw [e, List.getElem?_append_right (Nat.le_refl _), Nat.sub_self] at ht
              cases ht
              rw [wi_ne _ _ (by omega), wi_ne _ _ (by omega), e, ho.2.2.2.1, wi_eq]
            · have hlt := (List.getElem?_eq_some_iff.mp ht).1
              rw [List.length_append] at hlt
              have e1 : [s.2.1.length - 1].length = 1 := rfl
              have hsl := ho.2.2.2.1
              rw [List.getElem?_append_left (by omega)] at ht
              rw [wi_ne _ _ (by omega), wi_ne _ _ (by omega), wi_ne _ _ (by omega), wi_ne _ _ (by omega), wl_i]
              exact a6 t x ht
          · rw [wi_ne _ _ (by omega), wi_ne _ _ (by omega), wi_ne _ _ (by omega), wi_ne _ _ (by omega), wl_i]
            exact h7
        · exact (Fr.wl _ _ ⟨by omega, by omega⟩).tr ((Fr.wi _ _ ⟨by omega, by omega⟩).tr ((Fr.wi _ _ ⟨by omega, by omega⟩).tr (Fr.tr fr8 fr8)))
      · rw [a3] at y
        rw [if_pos (fun u => y ((nI_ltI (b := 14) (by omega) (by omega)).mpr u))] at k
        exact B_Te_takeGroup_45 hT (k _ (to_bad (by decide) (wi_eq _ _ _ _)) fr8)
      · rw [a3, nI_leI (by omega) (by omega)] at q
        omega
    | succ c ih =>
      intro j hc hj hi
      have gj : s.2.2.1[j]? = some s.2.2.1[j] := List.getElem?_eq_getElem (by omega)
      generalize s.2.2.1[j] = l' at gj
      have hl' := ho.2.2.2.2.2.1 l' (List.mem_of_getElem? gj)
      have ec : h_l h 10 (nI j).toNatClampNeg = pk l' := by
        rw [nI_clamp (by omega)]
        exact (a5 j l' gj).1
      refine B_Te_takeGroup_3 hT (fun q => ?_) (fun _ => B_Te_takeGroup_12 hT (or_t_code hO) (os_t_code hO) (vp_in_nI (by omega) (by omega)) (fun q => B_Te_takeGroup_30 ?_) (fun q => ?_))
      · rw [a3, nI_leI (by omega) (by omega)] at q
        omega
      · rw [ec, lg_cmp0] at q
        rw [nI_1]
        refine ih (j + 1) (by omega) (by omega) (fun t l2 ht h2 => ?_)
        by_cases e : t = j
        · subst e
          rw [gj] at h2
          cases h2
          exact fun u => q (by rw [u])
        · exact hi t l2 (by omega) h2
      · rw [ec, lg_cmp0] at q
        have e := (pk_inj hl'.r hl.r).mp q
        rw [if_pos (by rw [← e]; exact List.mem_of_getElem? gj)] at k
        exact B_Te_takeGroup_24 hT (k _ (to_bad (by decide) (wi_eq _ _ _ _)) fr8)
  exact loop _ 0 rfl (Nat.zero_le _) (fun t l' ht => absurd ht (by omega))
theorem te_takeRow {d : Nat} {h : PH} {Q : PQ} {s : PSt} {l : List Nat} {v : Int64} (hO : OwS h) (hs : CTl h s) (ho : okS s) (h7 : h_i h 8 7 = 0) (hln : l.length < 2 ^ 31) (hl : ∀ x ∈ l, 0 < x ∧ x < 27) (hl0 : 0 < l.length) (hv : l.length ≤ 6 → v = pk l) (k : ∀ h', TO h' s (stepR s l) → Fr Wte h h' → Q none h') : wpm (d + 2) 86 [.ref 8, .long v, .int (nI l.length)] h Q := by
  refine wpm_in P_Te_takeRow rfl (by decide) (by show ¬ 5 < 4; decide) ?_
  have hT := os_teller hO
  have h4 := ho.1
  have est : ∀ n : Nat, n < 5 → (h_i h 8 6 = nI n ↔ s.1 = n) := fun n hn => by rw [hs.1, nI_eq (by omega) (by omega)]
  -- behind the question whether the row is 'sound'
  have main : ∀ b : Int32, (b = 0 ↔ ¬ l = snd5) → ∀ v4, wpx (d + 1) P_Te_takeRow 18 [.ref 8, .long v, .retAddr 2, .int (nI l.length), v4] [.int b] h Q := fun b hb v4 => by
    refine B_Te_takeRow_18 hT (fun z => B_Te_takeRow_36 (fun y => ?_) (fun y => ?_)) (fun z => B_Te_takeRow_27 hT (te_takeLine hO hs ho h7 ((est 0 (by omega)).mp z) hb (fun h' hr hf => B_Te_takeRow_33 (B_Te_takeRow_90 (k h' hr hf)))))
    · have hn0 : ¬ s.1 = 0 := fun u => z ((est 0 (by omega)).mpr u)
      have l6 : l.length ≤ 6 := (nI_leI (b := 6) (by omega) (by omega)).mp y
      have hokn : okn l := ⟨hl, l6, hl0⟩
      rw [hv l6]
      refine B_Te_takeRow_50 hT (fun u => B_Te_takeRow_68 hT (fun w => B_Te_takeRow_85 hT (B_Te_takeRow_90 (k _ ?_ fr8))) (fun w => B_Te_takeRow_76 hT (te_takeGroup hO hs ho h7 ((est 3 (by omega)).mp w) hokn (fun h' hr hf => B_Te_takeRow_82 (B_Te_takeRow_90 (k h' hr hf)))))) (fun u => B_Te_takeRow_58 hT (te_takeName hO hs ho h7 ((est 1 (by omega)).mp u) hokn hb (fun h' hr hf => B_Te_takeRow_65 (B_Te_takeRow_90 (k h' hr hf)))))
      have e : stepR s l = (2, s) := by
        unfold stepR
        rw [if_neg hn0, if_neg (by omega), if_neg (fun y => u ((est 1 (by omega)).mpr y)), if_neg (fun y => w ((est 3 (by omega)).mpr y))]
      rw [e]
      exact to_bad (by decide) (wi_eq _ _ _ _)
    · have hn0 : ¬ s.1 = 0 := fun u => z ((est 0 (by omega)).mpr u)
      have l6 : ¬ l.length ≤ 6 := fun u => y ((nI_leI (b := 6) (by omega) (by omega)).mpr u)
      have e : stepR s l = (2, s) := by
        unfold stepR
        rw [if_neg hn0, if_pos (by omega)]
      refine B_Te_takeRow_42 hT (B_Te_takeRow_90 (k _ ?_ fr8))
      rw [e]
      exact to_bad (by decide) (wi_eq _ _ _ _)
  have esnd : (20436420 : Int64) = pk snd5 := by decide
  have osnd : okr snd5 := by
    refine ⟨fun x hx => ?_, by decide⟩
    simp only [snd5, List.mem_cons, List.not_mem_nil, or_false] at hx
    omega
  refine B_Te_takeRow_0 (fun z => B_Te_takeRow_17 (main 0 ⟨fun _ u => z (by rw [u]; rfl), fun _ => rfl⟩ _)) (fun z => B_Te_takeRow_5 (fun y => B_Te_takeRow_17 (main 0 ⟨fun _ u => ?_, fun _ => rfl⟩ _)) (fun y => B_Te_takeRow_13 (main 1 ⟨fun u => absurd u (by decide), fun u => absurd ?_ u⟩ _)))
  · have l5 : l.length = 5 := (nI_eq (b := 5) (by omega) (by omega)).mp z
    rw [hv (by omega), lg_cmp0, esnd] at y
    exact y (by rw [u])
  · have l5 : l.length = 5 := (nI_eq (b := 5) (by omega) (by omega)).mp z
    rw [hv (by omega), lg_cmp0, esnd] at y
    exact (pk_inj ⟨fun x hx => by have := hl x hx; omega, by omega⟩ osnd).mp y
/-- the bytes of the tape on the class's side -/
def CBy (h : PH) (B : List Nat) : Prop := B.length ≤ 600 ∧ ∀ (k n : Nat), B[k]? = some n → n < 256 ∧ h_i h 1 k = (nI n).toInt8.toInt32
theorem sb_small : ∀ n, n < 256 → ((¬ (nI n).toInt8.toInt32 < (97 : Int32)) ∧ (¬ (122 : Int32) < (nI n).toInt8.toInt32) ↔ sml n = true) := by decide +kernel
theorem sb_is : ∀ n, n < 256 → ∀ k, k < 128 → ((nI n).toInt8.toInt32 = nI k ↔ n = k) := by decide +kernel
theorem sb_96 : ∀ n, n < 256 → sml n = true → ((nI n).toInt8.toInt32 - (96 : Int32)).toInt64 = lN (n - 96) := by decide +kernel
theorem tw_in (p : Nat → Bool) : ∀ (l : List Nat) (t : Nat), t < (l.takeWhile p).length → ∃ c, l[t]? = some c ∧ p c = true
  | [], t, h => absurd h (Nat.not_lt_zero _)
  | x :: l, t, h => by
    rw [List.takeWhile_cons] at h
    by_cases q : p x = true
    · rw [if_pos q] at h
      match t, h with
      | 0, _ => exact ⟨x, rfl, q⟩
      | t + 1, h => exact tw_in p l t (Nat.lt_of_succ_lt_succ h)
    · rw [if_neg q] at h
      exact absurd h (Nat.not_lt_zero _)
theorem tw_end (p : Nat → Bool) : ∀ l : List Nat, (l.takeWhile p).length = l.length ∨ ∃ c, l[(l.takeWhile p).length]? = some c ∧ ¬ p c = true
  | [] => Or.inl rfl
  | x :: l => by
    rw [List.takeWhile_cons]
    by_cases q : p x = true
    · rw [if_pos q]
      rcases tw_end p l with h | ⟨c, h1, h2⟩
      · refine Or.inl ?_
        show (l.takeWhile p).length + 1 = l.length + 1
        rw [h]
      · exact Or.inr ⟨c, h1, h2⟩
    · rw [if_neg q]
      exact Or.inr ⟨x, rfl, q⟩
def rlen (B : List Nat) (p : Nat) : Nat := ((B.drop p).takeWhile sml).length
theorem rowAt_len (B : List Nat) (p : Nat) : (rowAt B p).length = rlen B p := by
  unfold rowAt rlen
  rw [List.length_map]
theorem rlen_le (B : List Nat) (p : Nat) : p ≤ B.length → p + rlen B p ≤ B.length := by
  intro hp
  have := (List.takeWhile_sublist (p := sml) (l := B.drop p)).length_le
  rw [List.length_drop] at this
  unfold rlen
  omega
theorem rlen_in {B : List Nat} {p t : Nat} (h : t < rlen B p) : ∃ c, B[p + t]? = some c ∧ sml c = true := by
  obtain ⟨c, h1, h2⟩ := tw_in sml (B.drop p) t h
  rw [List.getElem?_drop] at h1
  exact ⟨c, h1, h2⟩
theorem rlen_end {B : List Nat} {p : Nat} (hp : p ≤ B.length) : p + rlen B p = B.length ∨ ∃ c, B[p + rlen B p]? = some c ∧ ¬ sml c = true := by
  rcases tw_end sml (B.drop p) with h | ⟨c, h1, h2⟩
  · rw [List.length_drop] at h
    unfold rlen
    exact Or.inl (by omega)
  · rw [List.getElem?_drop] at h1
    exact Or.inr ⟨c, h1, h2⟩
theorem rowAt_at {B : List Nat} {p t x : Nat} (h : (rowAt B p)[t]? = some x) : ∃ c, B[p + t]? = some c ∧ sml c = true ∧ x = c - 96 := by
  unfold rowAt at h
  rw [List.getElem?_map] at h
  cases hc : ((B.drop p).takeWhile sml)[t]? with
  | none =>
    rw [hc] at h
    cases h
  | some c =>
    rw [hc] at h
    have hx : c - 96 = x := Option.some.inj h
    have hlt := (List.getElem?_eq_some_iff.mp hc).1
    obtain ⟨c', h1, h2⟩ := rlen_in (B := B) (p := p) (t := t) hlt
    have e : (B.drop p)[t]? = some c := by
      rw [← List.takeWhile_append_dropWhile (p := sml) (l := B.drop p), List.getElem?_append_left hlt]
      exact hc
    rw [List.getElem?_drop, h1] at e
    have := Option.some.inj e
    subst this
    exact ⟨c', h1, h2, hx.symm⟩
theorem sml_i {c : Nat} (h : sml c = true) : 97 ≤ c ∧ c ≤ 122 := of_decide_eq_true h
theorem rowAt_ok {B : List Nat} {p : Nat} : ∀ x ∈ rowAt B p, 0 < x ∧ x < 27 := fun x hx => by
  obtain ⟨t, ht⟩ := List.mem_iff_getElem?.mp hx
  obtain ⟨c, h1, h2, h3⟩ := rowAt_at ht
  have := sml_i h2
  omega
theorem te_rowStop {d : Nat} {h : PH} {Q : PQ} {B : List Nat} {p : Nat} (hO : OwS h) (hB : CBy h B) (hp : p ≤ B.length) (k : Q (some (.int (nI (p + rlen B p)))) h) : wpm (d + 1) 84 [.ref 1, .int (nI p), .int (nI B.length)] h Q := by
  refine wpm_in P_Te_rowStop rfl (by decide) (by show ¬ 4 < 3; decide) (B_Te_rowStop_0 ?_)
  have h6 := hB.1
  have hle := rlen_le B p hp
  have loop : ∀ (c i : Nat), rlen B p - i = c → i ≤ rlen B p → wpx d P_Te_rowStop 2 [.ref 1, .int (nI p), .int (nI B.length), .int (nI (p + i))] [] h Q := by
    intro c
    induction c with
    | zero =>
      intro i hc hi
      have ei : i = rlen B p := by omega
      subst ei
      refine B_Te_rowStop_2 (fun _ => B_Te_rowStop_29 k) (fun q => ?_)
      rw [nI_leI (by omega) (by omega)] at q
      rcases rlen_end hp with z | ⟨n, z1, z2⟩
      · omega
      · obtain ⟨n1, n2⟩ := hB.2 _ n z1
        have va : vp_in (nI (p + rlen B p)) 600 := vp_in_nI (by omega) (by omega)
        refine B_Te_rowStop_7 (os_tape hO) va (fun _ => B_Te_rowStop_29 k) (fun y => B_Te_rowStop_15 (os_tape hO) va (fun _ => B_Te_rowStop_29 k) (fun u => ?_))
        rw [nI_clamp (by omega), n2] at y u
        exact absurd ((sb_small n n1).mp ⟨y, u⟩) z2
    | succ c ih =>
      intro i hc hi
      obtain ⟨n, z1, z2⟩ := rlen_in (B := B) (p := p) (t := i) (by omega)
      obtain ⟨n1, n2⟩ := hB.2 _ n z1
      have va : vp_in (nI (p + i)) 600 := vp_in_nI (by omega) (by omega)
      obtain ⟨y1, y2⟩ := (sb_small n n1).mpr z2
      refine B_Te_rowStop_2 (fun q => ?_) (fun _ => B_Te_rowStop_7 (os_tape hO) va (fun y => ?_) (fun _ => B_Te_rowStop_15 (os_tape hO) va (fun u => ?_) (fun _ => B_Te_rowStop_23 ?_)))
      · rw [nI_leI (by omega) (by omega)] at q
        omega
      · rw [nI_clamp (by omega), n2] at y
        exact absurd y y1
      · rw [nI_clamp (by omega), n2] at u
        exact absurd u y2
      · rw [nI_1]
        exact ih (i + 1) (by omega) (by omega)
  exact loop _ 0 rfl (Nat.zero_le _)
theorem te_rowCode {d : Nat} {h : PH} {Q : PQ} {B : List Nat} {p : Nat} (hO : OwS h) (hB : CBy h B) (hp : p ≤ B.length) (k : ∀ v : Int64, ((rowAt B p).length ≤ 6 → v = pk (rowAt B p)) → Q (some (.long v)) h) : wpm (d + 1) 85 [.ref 1, .int (nI p), .int (nI (p + rlen B p))] h Q := by
  refine wpm_in P_Te_rowCode rfl (by decide) (by show ¬ 6 < 3; decide) (B_Te_rowCode_0 ?_)
  have h6 := hB.1
  have hle := rlen_le B p hp
  have hrl := rowAt_len B p
  have loop : ∀ (c i : Nat) (v : Int64), rlen B p - i = c → i ≤ rlen B p → (i ≤ 6 → v = pk ((rowAt B p).take i)) → wpx d P_Te_rowCode 5 [.ref 1, .int (nI p), .int (nI (p + rlen B p)), .long v, .retAddr 2, .int (nI (p + i))] [] h Q := by
    intro c
    induction c with
    | zero =>
      intro i v hc hi hv
      have ei : i = rlen B p := by omega
      refine B_Te_rowCode_5 (fun _ => B_Te_rowCode_30 (k v (fun z => ?_))) (fun q => ?_)
      · have := hv (by omega)
        rw [List.take_of_length_le (by omega)] at this
        exact this
      · rw [nI_leI (by omega) (by omega)] at q
        omega
    | succ c ih =>
      intro i v hc hi hv
      obtain ⟨n, z1, z2⟩ := rlen_in (B := B) (p := p) (t := i) (by omega)
      obtain ⟨n1, n2⟩ := hB.2 _ n z1
      refine B_Te_rowCode_5 (fun q => ?_) (fun _ => B_Te_rowCode_11 (os_tape hO) (vp_in_nI (by omega) (by omega)) ?_)
      · rw [nI_leI (by omega) (by omega)] at q
        omega
      · rw [nI_clamp (by omega), n2, nI_1]
        refine ih (i + 1) _ (by omega) (by omega) (fun z => ?_)
        have gx : (rowAt B p)[i]? = some (rowAt B p)[i] := List.getElem?_eq_getElem (by omega)
        generalize (rowAt B p)[i] = x at gx
        obtain ⟨n', w1, w2, w3⟩ := rowAt_at gx
        rw [z1] at w1
        have en : n = n' := Option.some.inj w1
        subst en
        have hx := rowAt_ok x (List.mem_of_getElem? gx)
        have hokr : okr ((rowAt B p).take i) := ⟨fun y hy => by have := rowAt_ok y (List.mem_of_mem_take hy); omega, by rw [List.length_take]; omega⟩
        rw [hv (by omega), sb_96 n n1 z2, ← w3, pk_sh hokr (by omega), List.take_add_one, gx]
        rfl
  have := loop _ 0 0 rfl (Nat.zero_le _) (fun _ => by rw [List.take_zero]; rfl)
  exact this
