/-! word on both sides -/
def okt (tp : List Int32) : Prop := ∀ v ∈ tp, ∃ n, n < 256 ∧ v = nI n
def wLet (v : Int32) : Prop := (97 : Int32) ≤ v ∧ v ≤ (123 : Int32)
theorem t_1 : ∀ n, n < 256 → ((¬ (nI n).toInt8.toInt32 ≤ (96 : Int32)) ∧ (nI n).toInt8.toInt32 ≤ (123 : Int32) ↔ 97 ≤ n ∧ n ≤ 123) := by decide +kernel
theorem t_2 : ∀ n, n < 124 → 97 ≤ n → (nI n).toInt8.toInt32 - (96 : Int32) = nI (n - 96) := by decide +kernel
theorem t_3 : ∀ x, x < 28 → (nI x).toInt8.toInt32.toInt8.toInt32 = nI x := by decide +kernel
def isWd (tp : List Int32) : Prop := ∀ v ∈ tp, 97 ≤ v.toNatClampNeg ∧ v.toNatClampNeg ≤ 123
def wdL (tp : List Int32) : List Nat := tp.map (fun v => v.toNatClampNeg - 96)
theorem wdL_at {tp : List Int32} {k x : Nat} (h : (wdL tp)[k]? = some x) : ∃ v, tp[k]? = some v ∧ x = v.toNatClampNeg - 96 := by
  unfold wdL at h
  rw [List.getElem?_map] at h
  cases hk : tp[k]? with
  | none => rw [hk] at h; cases h
  | some v => rw [hk] at h; exact ⟨v, rfl, (Option.some.inj h).symm⟩
theorem wdL_ok {tp : List Int32} (hw : isWd tp) (hl : tp.length ≤ 40) : okw (wdL tp) := by
  refine ⟨by unfold wdL; rw [List.length_map]; omega, fun x hx => ?_⟩
  obtain ⟨v, hv, rfl⟩ := List.mem_map.mp hx
  have := hw v hv
  omega
def Wcd (c k : Nat) : Prop := (c = 13 ∧ k = 1) ∨ c = 14
def Wcw (c k : Nat) : Prop := (c = 0 ∧ k = 1) ∨ Wcd c k
def Wmd (c k : Nat) : Prop := (c = 17 ∧ k = 24) ∨ c = 26
def Wmw (c k : Nat) : Prop := (c = 17 ∧ (k = 0 ∨ k = 12)) ∨ Wmd c k
theorem wo_add {d : Nat} {h : PH} {Q : PQ} {w : List Nat} {x : Nat} (hO : OwS h) (hw : CWd h w) (h0 : 0 < x) (hx : x < 28) (hl : w.length < 800) (k : ∀ h', CWd h' (w ++ [x]) → Fr Wcd h h' → Q none h') : wpm (d + 1) 107 [.ref 13, .int (nI x)] h Q := by
  refine wpm_in P_Wo_add rfl (by decide) (by show ¬ 2 < 2; decide) ?_
  refine B_Wo_add_0 (os_theWord hO) (fun q => ?_) (fun _ => ?_)
  · rw [hw.2.1] at q
    have := (nI_leI (a := 800) (by omega) (by omega)).mp q
    omega
  · refine B_Wo_add_10 (os_theWord hO) (or_w_sign hO) (os_w_sign hO) (by rw [hw.2.1]; exact vp_in_nI hl (by omega)) (B_Wo_add_31 ?_)
    rw [hw.2.1, nI_clamp (by omega), t_3 x hx, wi_ne h (nI x) (by omega), hw.2.1, nI_1]
    refine k _ ⟨⟨by rw [List.length_append]; show w.length + 1 ≤ 800; omega, fun y hy => ?_⟩, ?_, fun j y hj => ?_⟩ ?_
    · rcases List.mem_append.mp hy with q | q
      · exact hw.1.2 y q
      · rw [List.mem_singleton.mp q]; exact ⟨h0, hx⟩
    · rw [wi_eq, List.length_append]; rfl
    · rw [wi_ne _ _ (by omega)]
      by_cases e : j = w.length
      · subst e
        rw [wi_eq]
        rw [List.getElem?_append_right (Nat.le_refl _), Nat.sub_self] at hj
        cases hj
        rfl
      · rw [wi_ne _ _ (by omega)]
        have hlt := (List.getElem?_eq_some_iff.mp hj).1
        rw [List.length_append] at hlt
        have hlt' : j < w.length := by have : [x].length = 1 := rfl; omega
        rw [List.getElem?_append_left hlt'] at hj
        exact hw.2.2 j y hj
    · exact (Fr.wi h (nI x) (Or.inr rfl)).tr (Fr.wi _ _ (Or.inl ⟨rfl, rfl⟩))
theorem wo_clear {d : Nat} {h : PH} {Q : PQ} (hO : OwS h) (k : ∀ h', CWd h' [] → Fr Wcd h h' → Q none h') : wpm (d + 1) 106 [.ref 13] h Q := by
  refine wpm_in P_Wo_clear rfl (by decide) (by show ¬ 1 < 1; decide) ?_
  refine B_Wo_clear_0 (os_theWord hO) (k _ ⟨⟨Nat.zero_le _, fun x hx => by cases hx⟩, by rw [wi_eq]; rfl, fun j x hj => by cases hj⟩ (Fr.wi h _ (Or.inl ⟨rfl, rfl⟩)))
theorem md_takesWord {d : Nat} {h : PH} {Q : PQ} {w : List Nat} {r n f : Nat} (hM : MdS h) (hs : h_sh h r = some (1, n)) (hr : r ≠ 26) (hn : n < 2 ^ 31) (hb : f + w.length ≤ n) (hw : okw w) (hc : ∀ k x, w[k]? = some x → h_i h r (f + k) = nI (x + 96)) (k : ∀ h', MWd h' w → Fr Wmd h h' → Q none h') : wpm (d + 1) 221 [.ref 17, .ref r, .int (nI f), .int (nI w.length)] h Q := by
  refine wpm_in P_Md_takesWord rfl (by decide) (by show ¬ 5 < 4; decide) ?_
  refine B_Md_takesWord_0 ?_
  have h8 := hw.1
  have loop : ∀ (c j : Nat) (g : PH), w.length - j = c → j ≤ w.length → Fr (fun c _ => c = 26) h g → (∀ i x, i < j → w[i]? = some x → h_i g 26 i = nI (x + 96)) → wpx d P_Md_takesWord 3 [.ref 17, .ref r, .int (nI f), .int (nI w.length), .int (nI j)] [] g Q := by
    intro c
    induction c with
    | zero =>
      intro j g hj hle hf hi
      refine B_Md_takesWord_3 (fun _ => ?_) (fun q => ?_)
      · refine B_Md_takesWord_28 (hf.md hM).1 (k _ ⟨hw, wi_eq .., fun i x hx => ?_⟩ ?_)
        · rw [wi_ne _ _ (by omega)]
          have hlt := (List.getElem?_eq_some_iff.mp hx).1
          exact hi i x (by omega) hx
        · exact (hf.up (fun c k q => Or.inr q)).tr (Fr.wi _ _ (Or.inl ⟨rfl, rfl⟩))
      · rw [nI_leI (by omega) (by omega)] at q
        omega
    | succ c ih =>
      intro j g hj hle hf hi
      refine B_Md_takesWord_3 (fun q => ?_) (fun _ => ?_)
      · rw [nI_leI (by omega) (by omega)] at q
        omega
      · have hG := hf.md hM
        refine B_Md_takesWord_9 hG.1 (mr_word hG) (by rw [hf.1]; exact hs) (by rw [nI_add]; exact vp_in_nI (by omega) hn) (ms_word hG) (vp_in_nI (by omega) (by omega)) ?_
        have gj : w[j]? = some w[j] := List.getElem?_eq_getElem (by omega)
        rw [nI_add, nI_clamp (by omega), nI_clamp (by omega), hf.i r (f + j) hr, hc j _ gj, nI_1]
        refine ih (j + 1) _ (by omega) (by omega) (hf.tr (Fr.wi _ _ rfl)) (fun i x hlt hx => ?_)
        by_cases e : i = j
        · subst e
          rw [wi_eq]
          rw [gj] at hx
          rw [Option.some.inj hx]
        · rw [wi_ne _ _ (by omega)]
          exact hi i x (by omega) hx
  exact loop _ 0 h rfl (Nat.zero_le _) (Fr.rf _ h) (fun i x hlt => absurd hlt (by omega))
theorem md_word {d : Nat} {h : PH} {Q : PQ} {tp : List Int32} (hM : MdS h) (ht : MTp h tp) (hk : okt tp) (kt : tp.length ≤ 40 → isWd tp → ∀ h', MTp h' [] → MWd h' (wdL tp) → Fr Wmw h h' → Q (some (.int (nI tp.length))) h') (kf : ¬ (tp.length ≤ 40 ∧ isWd tp) → ∀ h', MTp h' [] → Fr (fun c k => c = 17 ∧ (k = 0 ∨ k = 12)) h h' → Q (some (.int (-1))) h') : wpm (d + 2) 228 [.ref 17] h Q := by
  refine wpm_in P_Md_word rfl (by decide) (by show ¬ 4 < 1; decide) ?_
  have h6 := ht.2.1
  have e12 : h_i (w_i h 17 0 0) 17 12 = nI tp.length := by rw [wi_ne _ _ (by omega)]; exact ht.1
  have hF : Fr (fun c k => c = 17 ∧ (k = 0 ∨ k = 12)) h (w_i (w_i h 17 0 0) 17 12 0) := (Fr.wi h _ ⟨rfl, Or.inl rfl⟩).tr (Fr.wi _ _ ⟨rfl, Or.inr rfl⟩)
  have hT : MTp (w_i (w_i h 17 0 0) 17 12 0) [] := ⟨by rw [wi_eq]; rfl, Nat.zero_le _, fun j v hj => by cases hj⟩
  have hM' := hF.md hM
  have hv : ∀ j v, tp[j]? = some v → h_i (w_i (w_i h 17 0 0) 17 12 0) 21 j = v := fun j v hj => by
    rw [hF.i 21 j (fun q => by omega)]; exact ht.2.2 j v hj
  have main : ∀ b : Bool, (b = true ↔ tp.length ≤ 40) → wpx (d + 1) P_Md_word 29 [.ref 17, .int (nI tp.length), .int (if b then 1 else 0), .int (nI 0)] [] (w_i (w_i h 17 0 0) 17 12 0) Q := by
    intro b0 hb0
    generalize w_i (w_i h 17 0 0) 17 12 0 = g at hF hT hM' hv
    have loop : ∀ (c j : Nat) (b : Bool), tp.length - j = c → j ≤ tp.length → (b = true ↔ tp.length ≤ 40 ∧ ∀ i v, i < j → tp[i]? = some v → 97 ≤ v.toNatClampNeg ∧ v.toNatClampNeg ≤ 123) → wpx (d + 1) P_Md_word 29 [.ref 17, .int (nI tp.length), .int (if b then 1 else 0), .int (nI j)] [] g Q := by
      intro c
      induction c with
      | zero =>
        intro j b hj hle hb
        refine B_Md_word_29 (fun _ => ?_) (fun q => ?_)
        · have ej : j = tp.length := by omega
          cases b with
          | true =>
            obtain ⟨b1, b2⟩ := hb.mp rfl
            have hw : isWd tp := fun v hv => by
              obtain ⟨i, hi, rfl⟩ := List.getElem_of_mem hv
              exact b2 i _ (by omega) (List.getElem?_eq_getElem hi)
            refine B_Md_word_70 (fun _ => ?_) (fun z => absurd z (by decide))
            refine B_Md_word_76 hM'.1 (mr_tape hM') ?_
            have key := @md_takesWord d g (fun r h' => wpx (d + 1) P_Md_word 86 [.ref 17, .int (nI tp.length), .int (if true = true then 1 else 0), .int (nI j)] (r.toList ++ []) h' Q) (wdL tp) 21 600 0 hM' (ms_tape hM') (by decide) (by decide) (by unfold wdL; rw [List.length_map]; omega) (wdL_ok hw b1) (fun i x hx => by
              obtain ⟨v, hi, rfl⟩ := wdL_at hx
              obtain ⟨n, hn, rfl⟩ := hk v (List.mem_of_getElem? hi)
              have := hw _ (List.mem_of_getElem? hi)
              rw [nI_clamp (by omega)] at this ⊢
              rw [Nat.zero_add, hv i _ hi]
              congr 1
              omega)
            rw [show (wdL tp).length = tp.length from by unfold wdL; rw [List.length_map]] at key
            refine key (fun h' hw' hf' => B_Md_word_86 ?_)
            refine kt b1 hw h' ?_ hw' ((hF.up (fun c k q => Or.inl q)).tr (hf'.up (fun c k q => Or.inr q)))
            refine ⟨?_, Nat.zero_le _, fun j v hj => by cases hj⟩
            rw [hf'.i 17 12 (fun q => by rcases q with q | q <;> omega)]
            exact hT.1
          | false =>
            refine B_Md_word_70 (fun z => absurd rfl z) (fun _ => B_Md_word_74 (kf (fun q => ?_) _ hT hF))
            have := hb.mpr ⟨q.1, fun i v _ hi => q.2 v (List.mem_of_getElem? hi)⟩
            cases this
        · rw [nI_leI (by omega) (by omega)] at q
          omega
      | succ c ih =>
        intro j b hj hle hb
        refine B_Md_word_29 (fun q => ?_) (fun _ => ?_)
        · rw [nI_leI (by omega) (by omega)] at q
          omega
        · have gj : tp[j]? = some tp[j] := List.getElem?_eq_getElem (by omega)
          generalize tp[j] = v at gj
          obtain ⟨n, hn, rfl⟩ := hk v (List.mem_of_getElem? gj)
          have vj : vp_in (nI j) 600 := vp_in_nI (by omega) (by omega)
          have no : ¬ (97 ≤ n ∧ n ≤ 123) → wpx (d + 1) P_Md_word 61 [.ref 17, .int (nI tp.length), .int (if b then 1 else 0), .int (nI j)] [.int (if b then 1 else 0)] g Q := fun hno => by
            refine B_Md_word_61 (B_Md_word_62 ?_)
            rw [nI_1, show ((if b then 1 else 0 : Int32) &&& 0) = (if false then 1 else 0 : Int32) from by cases b <;> decide]
            refine ih (j + 1) false (by omega) (by omega) ⟨(fun z => by cases z), fun z => ?_⟩
            have := z.2 j _ (by omega) gj
            rw [nI_clamp (by omega)] at this
            exact absurd this hno
          refine B_Md_word_34 hM'.1 (mr_tape hM') (ms_tape hM') vj (fun q => ?_) (fun q => ?_)
          · rw [nI_clamp (by omega), hv j _ gj] at q
            have := (nI_ltI (b := 97) (by omega) (by omega)).mp q
            exact no (by omega)
          · rw [nI_clamp (by omega), hv j _ gj] at q
            have q' : ¬ n < 97 := fun e => q (nI_lt (b := 97) e (by omega))
            refine B_Md_word_46 hM'.1 (mr_tape hM') (ms_tape hM') vj (fun z => ?_) (fun z => ?_)
            · rw [nI_clamp (by omega), hv j _ gj] at z
              have := (nI_ltI (a := 123) (by omega) (by omega)).mp z
              exact no (by omega)
            · rw [nI_clamp (by omega), hv j _ gj] at z
              have z' : ¬ 123 < n := fun e => z (nI_lt (a := 123) e (by omega))
              refine B_Md_word_57 (B_Md_word_62 ?_)
              rw [nI_1, show ((if b then 1 else 0 : Int32) &&& 1) = (if b then 1 else 0 : Int32) from by cases b <;> decide]
              refine ih (j + 1) b (by omega) (by omega) ⟨fun e => ⟨(hb.mp e).1, fun i v hi hv' => ?_⟩, fun e => hb.mpr ⟨e.1, fun i v hi hv' => e.2 i v (by omega) hv'⟩⟩
              by_cases ei : i = j
              · subst ei
                rw [gj] at hv'
                rw [← Option.some.inj hv', nI_clamp (by omega)]
                omega
              · exact (hb.mp e).2 i v (by omega) hv'
    exact loop _ 0 b0 rfl (Nat.zero_le _) ⟨fun e => ⟨hb0.mp e, fun i v hi => absurd hi (by omega)⟩, fun e => hb0.mpr e.1⟩
  refine B_Md_word_0 hM.1 (fun q => ?_) (fun q => ?_)
  · rw [e12] at q ⊢
    have q' := (nI_ltI (a := 40) (by omega) (by omega)).mp q
    exact B_Md_word_25 (B_Md_word_26 (main false ⟨(fun z => by cases z), fun z => by omega⟩))
  · rw [e12] at q ⊢
    have q' : ¬ 40 < tp.length := fun e => q (nI_lt (a := 40) e (by omega))
    exact B_Md_word_21 (B_Md_word_26 (main true ⟨fun _ => by omega, fun _ => rfl⟩))
theorem ow_word {d : Nat} {h : PH} {Q : PQ} {tp : List Int32} (hO : OwS h) (ht : CTp h tp) (hk : okt tp) (kt : tp.length ≤ 40 → isWd tp → ∀ h', CTp h' [] → CWd h' (wdL tp) → Fr Wcw h h' → Q (some (.int (nI tp.length))) h') (kf : ¬ (tp.length ≤ 40 ∧ isWd tp) → ∀ h', CTp h' [] → Fr (fun c k => c = 0 ∧ k = 1) h h' → Q (some (.int (-1))) h') : wpm (d + 2) 132 [.ref 0] h Q := by
  refine wpm_in P_Ow_word rfl (by decide) (by show ¬ 3 < 1; decide) ?_
  have h6 := ht.2.1
  have e1 := ht.1
  have hF : Fr (fun c k => c = 0 ∧ k = 1) h (w_i h 0 1 0) := Fr.wi h _ ⟨rfl, rfl⟩
  have hT : CTp (w_i h 0 1 0) [] := ⟨by rw [wi_eq]; rfl, Nat.zero_le _, fun j v hj => by cases hj⟩
  have hO' := hF.ow hO
  have hv : ∀ j v, tp[j]? = some v → h_i (w_i h 0 1 0) 1 j = v.toInt8.toInt32 := fun j v hj => by
    rw [hF.i 1 j (fun q => by omega)]; exact ht.2.2 j v hj
  refine B_Ow_word_0 hO.1 (fun q => ?_) (fun q => ?_)
  · rw [e1] at q ⊢
    have q' : tp.length ≤ 40 := (nI_leI (b := 40) (by omega) (by omega)).mp q
    generalize w_i h 0 1 0 = g at hF hT hO' hv ⊢
    refine B_Ow_word_18 ?_
    have adds : ∀ (hw : isWd tp) (c j : Nat) (g' : PH), tp.length - j = c → j ≤ tp.length → CWd g' ((wdL tp).take j) → Fr Wcd g g' → wpx (d + 1) P_Ow_word 64 [.ref 0, .int (nI tp.length), .int (nI j)] [] g' Q := by
      intro hw c
      have el : (wdL tp).length = tp.length := by unfold wdL; rw [List.length_map]
      induction c with
      | zero =>
        intro j g' hj hle hc hf
        refine B_Ow_word_64 (fun _ => B_Ow_word_91 ?_) (fun q => ?_)
        · refine kt q' hw g' ⟨?_, Nat.zero_le _, fun j v hj => by cases hj⟩ ?_ ((hF.up (fun c k q => Or.inl q)).tr (hf.up (fun c k q => Or.inr q)))
          · rw [hf.i 0 1 (fun q => by rcases q with q | q <;> omega)]
            exact hT.1
          · rw [List.take_of_length_le (by omega)] at hc
            exact hc
        · rw [nI_leI (by omega) (by omega)] at q
          omega
      | succ c ih =>
        intro j g' hj hle hc hf
        refine B_Ow_word_64 (fun q => ?_) (fun _ => ?_)
        · rw [nI_leI (by omega) (by omega)] at q
          omega
        · have hG := hf.ow hO'
          have gj : tp[j]? = some tp[j] := List.getElem?_eq_getElem (by omega)
          generalize tp[j] = v at gj
          obtain ⟨n, hn, rfl⟩ := hk v (List.mem_of_getElem? gj)
          have hnn := hw _ (List.mem_of_getElem? gj)
          rw [nI_clamp (by omega)] at hnn
          refine B_Ow_word_69 hG.1 (or_theWord hG) (or_tape hG) (os_tape hG) (vp_in_nI (by omega) (by omega)) (os_theWord hG) ?_
          rw [nI_clamp (by omega), hf.i 1 j (fun q => by rcases q with q | q <;> omega), hv j _ gj, t_2 n (by omega) hnn.1]
          refine wo_add hG hc (by omega) (by omega) (by rw [List.length_take]; omega) (fun h' hc' hf' => B_Ow_word_85 ?_)
          rw [nI_1]
          refine ih (j + 1) h' (by omega) (by omega) ?_ (hf.tr hf')
          have gw : (wdL tp)[j]? = some (n - 96) := by
            unfold wdL
            rw [List.getElem?_map, gj]
            show some ((nI n).toNatClampNeg - 96) = _
            rw [nI_clamp (by omega)]
          rw [List.take_succ, gw]
          exact hc'
    have loop : ∀ (c j : Nat), tp.length - j = c → j ≤ tp.length → (∀ i v, i < j → tp[i]? = some v → 97 ≤ v.toNatClampNeg ∧ v.toNatClampNeg ≤ 123) → wpx (d + 1) P_Ow_word 20 [.ref 0, .int (nI tp.length), .int (nI j)] [] g Q := by
      intro c
      induction c with
      | zero =>
        intro j hj hle hb
        refine B_Ow_word_20 (fun _ => ?_) (fun q => ?_)
        · have hw : isWd tp := fun v hv => by
            obtain ⟨i, hi, rfl⟩ := List.getElem_of_mem hv
            exact hb i _ (by omega) (List.getElem?_eq_getElem hi)
          refine B_Ow_word_55 hO'.1 (or_theWord hO') (os_theWord hO') (wo_clear hO' (fun h' hc hf => B_Ow_word_62 ?_))
          exact adds hw _ 0 h' rfl (Nat.zero_le _) hc hf
        · rw [nI_leI (by omega) (by omega)] at q
          omega
      | succ c ih =>
        intro j hj hle hb
        refine B_Ow_word_20 (fun q => ?_) (fun _ => ?_)
        · rw [nI_leI (by omega) (by omega)] at q
          omega
        · have gj : tp[j]? = some tp[j] := List.getElem?_eq_getElem (by omega)
          generalize tp[j] = v at gj
          obtain ⟨n, hn, rfl⟩ := hk v (List.mem_of_getElem? gj)
          have vj : vp_in (nI j) 600 := vp_in_nI (by omega) (by omega)
          have no : ¬ (97 ≤ n ∧ n ≤ 123) → wpx (d + 1) P_Ow_word 47 [.ref 0, .int (nI tp.length), .int (nI j)] [] g Q := fun hno => by
            refine B_Ow_word_47 (kf (fun z => ?_) g hT hF)
            have := z.2 _ (List.mem_of_getElem? gj)
            rw [nI_clamp (by omega)] at this
            exact hno this
          refine B_Ow_word_25 hO'.1 (or_tape hO') (os_tape hO') vj (fun z => ?_) (fun z => ?_)
          · rw [nI_clamp (by omega), hv j _ gj] at z
            exact no (fun e => ((t_1 n hn).mpr e).1 z)
          · rw [nI_clamp (by omega), hv j _ gj] at z
            refine B_Ow_word_36 hO'.1 (or_tape hO') (os_tape hO') vj (fun y => ?_) (fun y => ?_)
            · rw [nI_clamp (by omega), hv j _ gj] at y
              have hn2 := (t_1 n hn).mp ⟨z, y⟩
              refine B_Ow_word_49 ?_
              rw [nI_1]
              refine ih (j + 1) (by omega) (by omega) (fun i v hi hv' => ?_)
              by_cases ei : i = j
              · subst ei
                rw [gj] at hv'
                rw [← Option.some.inj hv', nI_clamp (by omega)]
                omega
              · exact hb i v (by omega) hv'
            · rw [nI_clamp (by omega), hv j _ gj] at y
              exact no (fun e => y ((t_1 n hn).mpr e).2)
    exact loop _ 0 rfl (Nat.zero_le _) (fun i v hi => absurd hi (by omega))
  · rw [e1] at q ⊢
    have q' : ¬ tp.length ≤ 40 := fun e => q (nI_le (b := 40) e (by omega))
    exact B_Ow_word_16 (kf (fun z => q' z.1) _ hT hF)
