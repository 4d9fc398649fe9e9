/-! fool on the reference's side: a trial beside a row, the least one taken -/
def bfr : Option (List Nat) → List Nat → Prop
  | none, _ => True
  | some b, w => pkN w < pkN b
theorem bet_t {o : Option (List Nat)} {w : List Nat} (h : bfr o w) : bet o w = some w := by
  cases o with
  | none => rfl
  | some b => exact if_pos h
theorem bet_f {o : Option (List Nat)} {w : List Nat} (h : ¬ bfr o w) : bet o w = o := by
  cases o with
  | none => exact absurd trivial h
  | some b => exact if_neg h
/-- a word that lies in a row r from f on; how long it is stands at s, v -/
def SRw (h : PH) (r f s v : Nat) : Option (List Nat) → Prop
  | none => h_i h s v = -1
  | some b => lets b ∧ h_i h s v = nI b.length ∧ ∀ i x, b[i]? = some x → h_i h r (f + i) = nI (x + 96)
theorem SRw.fr {W : Nat → Nat → Prop} {h h' : PH} {r f s v : Nat} {o : Option (List Nat)} (hf : Fr W h h') (h1 : ¬ W s v) (h2 : ∀ b, o = some b → ∀ i, i < b.length → ¬ W r (f + i)) (hs : SRw h r f s v o) : SRw h' r f s v o := by
  cases o with
  | none => exact (hf.i _ _ h1).trans hs
  | some b => exact ⟨hs.1, (hf.i _ _ h1).trans hs.2.1, fun i x hx => (hf.i _ _ (h2 b rfl i (List.getElem?_eq_some_iff.mp hx).1)).trans (hs.2.2 i x hx)⟩
theorem md_isBefore {d : Nat} {h : PH} {Q : PQ} {r f s v n : Nat} {w : List Nat} {o : Option (List Nat)} (hM : MdS h) (hT : MTr h w) (lw : lets w) (hr : h_sh h r = some (1, n)) (hn : n < 2 ^ 31) (hS : SRw h r f s v o) (hb : ∀ b, o = some b → f + b.length ≤ n ∧ b.length ≤ 800) (kt : bfr o w → Q (some (.int 1)) h) (kf : ¬ bfr o w → Q (some (.int 0)) h) : wpm (d + 1) 218 [.ref 17, .ref r, .int (nI f), .int (h_i h s v)] h Q := by
  refine wpm_in P_Md_isBefore rfl (by decide) (by show ¬ 5 < 4; decide) ?_
  cases o with
  | none =>
    have e : h_i h s v = -1 := hS
    rw [e]
    exact B_Md_isBefore_0 (fun _ => B_Md_isBefore_12 (fun _ => B_Md_isBefore_24 (B_Md_isBefore_29 (by decide) (kt trivial))) (fun z => absurd (by decide) z)) (fun z => absurd (by decide) z)
  | some b =>
    obtain ⟨lb, e, hc⟩ := hS
    obtain ⟨hb1, hb2⟩ := hb b rfl
    obtain ⟨w1, w2, w3⟩ := hT
    rw [e]
    refine B_Md_isBefore_0 (fun z => absurd z (nI_pos (by omega))) (fun _ => B_Md_isBefore_4 hM.1 (fun z => B_Md_isBefore_30 ?_) (fun z => B_Md_isBefore_12 (fun y => absurd y (nI_pos (by omega))) (fun _ => B_Md_isBefore_16 hM.1 (fun y => B_Md_isBefore_28 (B_Md_isBefore_29 (by decide) (kf ?_))) (fun y => B_Md_isBefore_24 (B_Md_isBefore_29 (by decide) (kt ?_))))))
    · rw [w2, nI_eq (by omega) (by omega)] at z
      have loop : ∀ (c i : Nat), b.length - i = c → i ≤ b.length → (∀ j, j < i → w[j]? = b[j]?) → wpx d P_Md_isBefore 33 [.ref 17, .ref r, .int (nI f), .int (nI b.length), .int (nI i)] [] h Q := by
        intro c
        induction c with
        | zero =>
          intro i hi0 hi hs
          have ew : w = b := List.ext_getElem? (fun j => by
            by_cases y : j < i
            · exact hs j y
            · rw [List.getElem?_eq_none (by omega), List.getElem?_eq_none (by omega)])
          refine B_Md_isBefore_33 (fun _ => B_Md_isBefore_83 (kf (fun y => ?_))) (fun q => ?_)
          · have y' : pkN w < pkN b := y
            rw [ew] at y'
            omega
          · rw [nI_leI (by omega) (by omega)] at q
            omega
        | succ c ih =>
          intro i hi0 hi hs
          have gw : w[i]? = some w[i] := List.getElem?_eq_getElem (by omega)
          have gb : b[i]? = some b[i] := List.getElem?_eq_getElem (by omega)
          have xw := (lw _ (List.mem_of_getElem? gw)).2
          have xb := (lb _ (List.mem_of_getElem? gb)).2
          have vi : vp_in (nI i) 800 := vp_in_nI (by omega) (by omega)
          have vf : vp_in (nI f + nI i) n := by
            rw [nI_add]
            exact vp_in_nI (by omega) (by omega)
          refine B_Md_isBefore_33 (fun q => ?_) (fun _ => B_Md_isBefore_39 hM.1 (mr_trial hM) (ms_trial hM) vi hr vf (fun q => B_Md_isBefore_77 ?_) (fun q => B_Md_isBefore_55 hM.1 (mr_trial hM) (ms_trial hM) vi hr vf (fun y => B_Md_isBefore_75 (B_Md_isBefore_76 (by decide) (kf (fun u => ?_)))) (fun y => B_Md_isBefore_71 (B_Md_isBefore_76 (by decide) (kt ?_)))))
          · rw [nI_leI (by omega) (by omega)] at q
            omega
          · rw [nI_add, nI_clamp (by omega), nI_clamp (by omega), w3 _ _ gw, hc _ _ gb, nI_eq (by omega) (by omega)] at q
            rw [nI_1]
            refine ih (i + 1) (by omega) (by omega) (fun j hj => ?_)
            by_cases y : j = i
            · rw [y, gw, gb, show w[i] = b[i] by omega]
            · exact hs j (by omega)
          · rw [nI_add, nI_clamp (by omega), nI_clamp (by omega), w3 _ _ gw, hc _ _ gb, nI_eq (by omega) (by omega)] at q
            rw [nI_add, nI_clamp (by omega), nI_clamp (by omega), w3 _ _ gw, hc _ _ gb, nI_leI (by omega) (by omega)] at y
            have p := pkN_dif i b w _ _ lb lw z.symm gb gw (fun j hj => (hs j hj).symm) (by omega)
            have u' : pkN w < pkN b := u
            omega
          · rw [nI_add, nI_clamp (by omega), nI_clamp (by omega), w3 _ _ gw, hc _ _ gb, nI_leI (by omega) (by omega)] at y
            exact pkN_dif i w b _ _ lw lb z gw gb hs (by omega)
      exact loop b.length 0 rfl (Nat.zero_le _) (fun j hj => absurd hj (Nat.not_lt_zero _))
    · rw [w2, nI_eq (by omega) (by omega)] at z
      rw [w2, nI_leI (by omega) (by omega)] at y
      intro u
      have u' : pkN w < pkN b := u
      have := pkN_sh lb lw (show b.length < w.length by omega)
      omega
    · rw [w2, nI_leI (by omega) (by omega)] at y
      exact pkN_sh lw lb (by omega)
theorem md_takesLeast {d : Nat} {h : PH} {Q : PQ} {w : List Nat} {o : Option (List Nat)} (hM : MdS h) (hT : MTr h w) (lw : lets w) (hw : w.length ≤ 40) (hS : SRw h 40 0 17 47 o) (hb : ∀ b, o = some b → b.length ≤ 40) (k : ∀ h', SRw h' 40 0 17 47 (bet o w) → Fr (fun c k => c = 40 ∨ (c = 17 ∧ k = 47)) h h' → Q none h') : wpm (d + 2) 239 [.ref 17] h Q := by
  refine wpm_in P_Md_takesLeast rfl (by decide) (by show ¬ 2 < 1; decide) (B_Md_takesLeast_0 hM.1 (mr_least hM) ?_)
  have key : wpm (d + 1) 218 [.ref 17, .ref 40, .int (nI 0), .int (h_i h 17 47)] h (fun r h' => wpx (d + 1) P_Md_takesLeast 13 [.ref 17, .retAddr 0] (r.toList ++ []) h' Q) := by
    refine md_isBefore hM hT lw (ms_least hM) (by decide) hS (fun b e => ⟨by have := hb b e; omega, by have := hb b e; omega⟩) (fun z => ?_) (fun z => ?_)
    · rw [bet_t z] at k
      refine B_Md_takesLeast_13 (fun y => absurd y (by decide)) (fun _ => B_Md_takesLeast_16 ?_)
      have loop : ∀ (c i : Nat) (g : PH), w.length - i = c → i ≤ w.length → Fr (fun c _ => c = 40) h g → (∀ j x, j < i → w[j]? = some x → h_i g 40 j = nI (x + 96)) → wpx (d + 1) P_Md_takesLeast 18 [.ref 17, .int (nI i)] [] g Q := by
        intro c
        induction c with
        | zero =>
          intro i g hc hi hf hx
          have hMg := hf.md hM
          refine B_Md_takesLeast_18 hMg.1 (fun _ => B_Md_takesLeast_44 hMg.1 (B_Md_takesLeast_52 ?_)) (fun q => ?_)
          · rw [hf.i _ _ (by omega), hT.2.1]
            refine k _ ⟨lw, wi_eq _ _ _ _, fun j x hj => ?_⟩ ((hf.up (fun _ _ y => Or.inl y)).tr (Fr.wi _ _ (Or.inr ⟨rfl, rfl⟩)))
            rw [wi_ne _ _ (by omega), Nat.zero_add]
            exact hx j x (by have := (List.getElem?_eq_some_iff.mp hj).1; omega) hj
          · rw [hf.i _ _ (by omega), hT.2.1, nI_leI (by omega) (by omega)] at q
            omega
        | succ c ih =>
          intro i g hc hi hf hx
          have hMg := hf.md hM
          have gw : w[i]? = some w[i] := List.getElem?_eq_getElem (by omega)
          have vi : vp_in (nI i) 800 := vp_in_nI (by omega) (by omega)
          have vl : vp_in (nI i) 40 := vp_in_nI (by omega) (by omega)
          refine B_Md_takesLeast_18 hMg.1 (fun q => ?_) (fun _ => B_Md_takesLeast_26 hMg.1 (mr_least hMg) (mr_trial hMg) (ms_trial hMg) vi (ms_least hMg) vl ?_)
          · rw [hf.i _ _ (by omega), hT.2.1, nI_leI (by omega) (by omega)] at q
            omega
          · rw [nI_clamp (by omega), hf.i _ _ (by omega), hT.2.2 _ _ gw, nI_1]
            refine ih (i + 1) _ (by omega) (by omega) (hf.tr (Fr.wi g _ rfl)) (fun j x hj hx' => ?_)
            by_cases y : j = i
            · rw [y, gw] at hx'
              rw [y, wi_eq, Option.some.inj hx']
            · rw [wi_ne _ _ (by omega)]
              exact hx j x (by omega) hx'
      exact loop w.length 0 h rfl (Nat.zero_le _) (Fr.rf _ _) (fun j x hj => absurd hj (Nat.not_lt_zero _))
    · rw [bet_f z] at k
      exact B_Md_takesLeast_13 (fun _ => B_Md_takesLeast_52 (k h hS (Fr.rf _ _))) (fun y => absurd rfl y)
  exact key
