/-! spell on the class's side: what is asked, the search, the answer -/
def askF (S : Int32) : List Int32 → List Int32 → Nat → Option (List Int32)
  | [], acc, _ => some acc
  | x :: X, acc, i => if x = (-1 : Int32) then askF S X acc (i + 1) else if acc.length < i ∨ x < 0 ∨ ¬ x < S then none else askF S X (acc ++ [x]) (i + 1)
def spA (S : Int32) (L : List Int32) : Option (List Int32) := match askF S L [] 0 with
  | some (x :: X) => some (x :: X)
  | _ => none
theorem sp_ask {d : Nat} {h : PH} {Q : PQ} {c S : Nat} {x0 x1 x2 x3 : Int32} (hS : SpS h c) (hO : OwS h) (hs : h_i h 2 4 = nI S) (k0 : spA (nI S) [x0, x1, x2, x3] = none → ∀ h', Fr (Wsp c) h h' → Q (some (.int 0)) h') (k1 : ∀ A, spA (nI S) [x0, x1, x2, x3] = some A → A.length ≤ 4 → 0 < A.length → ∀ h', h_i h' c 1 = nI A.length → (∀ i a, A[i]? = some a → h_i h' (c + 1) i = a) → Fr (Wsp c) h h' → Q (some (.int 1)) h') : wpm (d + 1) 62 [.ref c, .ref 2, .int x0, .int x1, .int x2, .int x3] h Q := by
  refine wpm_in P_Sp_ask rfl (by decide) (by show ¬ 7 < 6; decide) ?_
  have hc63 : 63 ≤ c := hS.2.2.2.2.2.2.1
  refine B_Sp_ask_0 hS.1 hS.2.1.1 hS.2.1.2 (vp_in_nI (n := 0) (by omega) (by omega)) (vp_in_nI (n := 1) (by omega) (by omega)) (vp_in_nI (n := 2) (by omega) (by omega)) (vp_in_nI (n := 3) (by omega) (by omega)) ?_
  have loop : ∀ (X acc : List Int32) (i : Nat) (g : PH), [x0, x1, x2, x3].drop i = X → i + X.length = 4 → acc.length ≤ i → (∀ (t : Nat) (a : Int32), acc[t]? = some a → [x0, x1, x2, x3][t]? = some a) → (∀ (t : Nat) (a : Int32), [x0, x1, x2, x3][t]? = some a → h_i g (c + 1) t = a) → h_i g c 1 = nI acc.length → Fr (Wsp c) h g → askF (nI S) [x0, x1, x2, x3] [] 0 = askF (nI S) X acc i → wpx d P_Sp_ask 38 [.ref c, .ref 2, .int x0, .int x1, .int x2, .int x3, .int (nI i)] [] g Q := by
    intro X
    induction X with
    | nil =>
      intro acc i g hX hi hacc hpre hent hcnt hf hF
      have hS' := hS.fr hf
      have hi' : i = 4 := hi
      refine B_Sp_ask_38 (fun _ => B_Sp_ask_106 hS'.1 (fun q => ?_) (fun q => ?_)) (fun q => absurd ((nI_leI (a := 4) (by omega) (by omega)).mpr (by omega)) q)
      · rw [hcnt] at q
        have q0 := (nI_leI (b := 0) (by omega) (by omega)).mp q
        refine B_Sp_ask_117 (B_Sp_ask_118 rfl (k0 ?_ g hf))
        unfold spA
        rw [hF]
        cases acc with
        | nil => rfl
        | cons y Y =>
          have : (y :: Y).length = Y.length + 1 := rfl
          omega
      · rw [hcnt] at q
        cases acc with
        | nil => exact absurd (by decide) q
        | cons y Y =>
          refine B_Sp_ask_113 (B_Sp_ask_118 rfl (k1 (y :: Y) ?_ (by omega) (Nat.succ_pos _) g hcnt (fun t a ht => hent t a (hpre t a ht)) hf))
          unfold spA
          rw [hF]
          rfl
    | cons x X ih =>
      intro acc i g hX hi hacc hpre hent hcnt hf hF
      have hS' := hS.fr hf
      have hi' : i + (X.length + 1) = 4 := hi
      have hx : [x0, x1, x2, x3][i]? = some x := by
        have := List.getElem?_drop (xs := [x0, x1, x2, x3]) (i := i) (j := 0)
        rw [hX] at this
        exact this.symm
      have hX1 : [x0, x1, x2, x3].drop (i + 1) = X := by
        have := drop_atG hx
        rw [hX] at this
        exact (List.cons.inj this).2.symm
      have ex : h_i g (c + 1) (nI i).toNatClampNeg = x := by
        rw [nI_clamp (by omega)]
        exact hent i x hx
      have va : vp_in (nI i) 4 := vp_in_nI (by omega) (by omega)
      have eF : askF (nI S) (x :: X) acc i = if x = (-1 : Int32) then askF (nI S) X acc (i + 1) else if acc.length < i ∨ x < 0 ∨ ¬ x < nI S then none else askF (nI S) X (acc ++ [x]) (i + 1) := rfl
      rw [eF] at hF
      have bad : ¬ x = (-1 : Int32) → (acc.length < i ∨ x < 0 ∨ ¬ x < nI S) → wpx d P_Sp_ask 88 [.ref c, .ref 2, .int x0, .int x1, .int x2, .int x3, .int (nI i)] [] g Q := fun z1 z2 => by
        refine B_Sp_ask_88 (k0 ?_ g hf)
        unfold spA
        rw [hF, if_neg z1, if_pos z2]
      refine B_Sp_ask_38 (fun q => ?_) (fun _ => B_Sp_ask_44 hS'.1 hS'.2.1.1 hS'.2.1.2 va (fun q => ?_) (fun q => ?_))
      · have := (nI_leI (a := 4) (by omega) (by omega)).mp q
        omega
      · rw [ex] at q
        rw [if_pos q] at hF
        refine B_Sp_ask_100 ?_
        rw [nI_1]
        exact ih acc (i + 1) g hX1 (by omega) (by omega) hpre hent hcnt hf hF
      · rw [ex] at q
        refine B_Sp_ask_55 hS'.1 (fun z => ?_) (fun z => B_Sp_ask_64 hS'.1 hS'.2.1.1 hS'.2.1.2 va (fun y => ?_) (fun y => B_Sp_ask_74 hS'.1 hS'.2.1.1 hS'.2.1.2 va (by show h_sh g 2 = _; rw [hf.1]; exact os_groups hO) (fun u => ?_) (fun u => ?_)))
        · rw [hcnt, nI_ltI (by omega) (by omega)] at z
          exact bad q (Or.inl z)
        · rw [ex] at y
          exact bad q (Or.inr (Or.inl y))
        · rw [hcnt, nI_ltI (by omega) (by omega)] at z
          rw [ex] at y
          rw [ex, hf.i _ _ (fun v => by unfold Wsp at v; omega), hs] at u
          have hg3 : ¬ (acc.length < i ∨ x < 0 ∨ ¬ x < nI S) := fun v => v.elim z (fun v => v.elim y (fun v => v u))
          rw [if_neg q, if_neg hg3] at hF
          have ei : acc.length = i := by omega
          refine B_Sp_ask_90 hS'.1 (B_Sp_ask_100 ?_)
          rw [hcnt, nI_1, nI_1]
          refine ih (acc ++ [x]) (i + 1) _ hX1 (by omega) (by rw [List.length_append]; show acc.length + 1 ≤ i + 1; omega) (fun t a ht => ?_) (fun t a ht => by rw [wi_ne _ _ (by omega)]; exact hent t a ht) (by rw [wi_eq, List.length_append]; rfl) (hf.tr (Fr.wi _ _ ⟨Nat.le_refl _, by omega⟩)) hF
          by_cases ht2 : t < acc.length
          · rw [List.getElem?_append_left ht2] at ht
            exact hpre t a ht
          · have ht3 : t = acc.length := by
              have := (List.getElem?_eq_some_iff.mp ht).1
              rw [List.length_append] at this
              have e1 : [x].length = 1 := rfl
              omega
            subst ht3
            rw [List.getElem?_append_right (Nat.le_refl _), Nat.sub_self] at ht
            cases ht
            rw [ei]
            exact hx
        · rw [ex, hf.i _ _ (fun v => by unfold Wsp at v; omega), hs] at u
          exact bad q (Or.inr (Or.inr u))
  refine loop [x0, x1, x2, x3] [] 0 _ rfl rfl (Nat.zero_le _) (fun t a ht => by cases ht) (fun t a ht => ?_) (by rw [wi_eq]; rfl) ((Fr.wi h _ ⟨by omega, by omega⟩).tr ((Fr.wi _ _ ⟨by omega, by omega⟩).tr ((Fr.wi _ _ ⟨by omega, by omega⟩).tr ((Fr.wi _ _ ⟨by omega, by omega⟩).tr (Fr.wi _ _ ⟨by omega, by omega⟩))))) rfl
  match t, ht with
  | 0, ht =>
    cases ht
    rw [wi_ne _ _ (by omega), wi_ne _ _ (by omega), wi_ne _ _ (by omega), wi_ne _ _ (by omega), wi_eq]
  | 1, ht =>
    cases ht
    rw [wi_ne _ _ (by omega), wi_ne _ _ (by omega), wi_ne _ _ (by omega), wi_eq]
  | 2, ht =>
    cases ht
    rw [wi_ne _ _ (by omega), wi_ne _ _ (by omega), wi_eq]
  | 3, ht =>
    cases ht
    rw [wi_ne _ _ (by omega), wi_eq]
  | t + 4, ht => cases ht
theorem sp_search {d : Nat} {h : PH} {Q : PQ} {c : Nat} {gs : List (List Nat)} {m : Nat} {so : Nat → Int32} {A : List Int32} (hA4 : A.length ≤ 4) (hA0 : 0 < A.length) (hS : SpS h c) (hO : OwS h) (hg : CGr h 2 gs m) (hso : CSo h 2 gs.length so) (h1 : h_i h c 1 = nI A.length) (h2 : ∀ i a, A[i]? = some a → h_i h (c + 1) i = a) (k0 : spF gs m so A [] none = none → ∀ h', Fr (Wsp c) h h' → Q (some (.int 0)) h') (k1 : ∀ v, spF gs m so A [] none = some v → ∀ h', Fr (Wsp c) h h' → v.length = A.length → (catG gs v).length ≤ 28 → h_i h' c 1 = nI A.length → (∀ i k, v[i]? = some k → h_i h' (c + 4) i = nI k ∧ k < gs.length) → Q (some (.int 1)) h') : wpm (d + 9) 63 [.ref c, .ref 2] h Q := by
  refine wpm_in P_Sp_search rfl (by decide) (by show ¬ 4 < 2; decide) ?_
  have hc63 : 63 ≤ c := hS.2.2.2.2.2.2.1
  have hG := GrS_2 hO
  refine B_Sp_search_0 hS.1 hS.2.2.1.1 hS.2.2.1.2 (by rw [h1]; exact vp_in_nI (by omega) (by omega)) ?_
  rw [wi_ne _ _ (by omega), h1, nI_clamp (by omega)]
  -- all mins are laid
  have last : ∀ (g : PH) (x2 : Int32) (v3 : Value), Fr (fun a _ => a = c + 2) h g → (∀ i, i ≤ A.length → h_i g (c + 2) i = nI (alw gs m so (A.drop i))) → wpx (d + 8) P_Sp_search 61 [.ref c, .ref 2, .int x2, v3] [] g Q := fun g x2 v3 hf hm => by
    have hS' := hS.fr hf
    have hF : Fr (Wsp c) h (w_i (w_i g c 5 29) (c + 5) 0 1) := (hf.up (fun a k q => ⟨by omega, by omega⟩)).tr ((Fr.wi _ _ ⟨by omega, by omega⟩).tr (Fr.wi _ _ ⟨by omega, by omega⟩))
    have hcsp : CSp (w_i (w_i g c 5 29) (c + 5) 0 1) c gs m so A [] none := by
      refine ⟨?_, fun i a hi => ?_, fun i hi => ?_, fun i k hi => (by cases hi), fun i hi => ?_, ?_, Nat.le_refl _, fun v hv => (by cases hv)⟩
      · rw [wi_ne _ _ (by omega), wi_ne _ _ (by omega), hf.i _ _ (by omega)]
        exact h1
      · rw [wi_ne _ _ (by omega), wi_ne _ _ (by omega), hf.i _ _ (by omega)]
        exact h2 i a hi
      · rw [wi_ne _ _ (by omega), wi_ne _ _ (by omega)]
        exact hm i hi
      · have i0 : i = 0 := Nat.le_zero.mp hi
        subst i0
        rw [wi_eq, List.take_zero, rdc_nil]
        rfl
      · rw [wi_ne _ _ (by omega), wi_eq]
        rfl
    refine B_Sp_search_61 hS'.1 hS'.2.2.2.2.2.1.1 hS'.2.2.2.2.2.1.2 (vp_in_nI (n := 0) (by omega) (by omega)) ?_
    have rc0 := sp_goOn (c := c) (A0 := A) hA4 A (d + (4 - A.length)) (w_i (w_i g c 5 29) (c + 5) 0 1) (fun r h' => wpx (d + 8) P_Sp_search 82 [.ref c, .ref 2, .int x2, v3] (r.toList ++ []) h' Q) [] none rfl (Nat.zero_add _) (hS.fr hF) (hF.ow hO) (hg.fr hF (fun a k q => by unfold Wsp at q; omega)) (hso.fr' hF (fun k q => by unfold Wsp at q; omega)) hcsp (fun k hk => by cases hk) (rdc_nil _ _) (fun e => by rw [e] at hA0; exact absurd hA0 (by decide)) (Nat.le_refl _) (fun h' hs hf2 => ?_)
    · rw [show d + (4 - A.length) + A.length + 4 = d + 8 by omega] at rc0
      exact rc0
    · have hF2 := hF.tr hf2
      have hS2 := hS.fr hF2
      obtain ⟨a1, a2, a3, a4, a5, a6, a7, a8⟩ := hs
      refine B_Sp_search_82 hS2.1 (fun q => ?_) (fun q => ?_)
      · rw [a6] at q
        have q' := (nI_ltI (a := 28) (by omega) (by omega)).mp q
        refine B_Sp_search_95 (B_Sp_search_96 rfl (k0 ?_ h' hF2))
        cases hv : spF gs m so A [] none with
        | none => rfl
        | some v =>
          exfalso
          rw [hv] at q' a8
          have hv8 := a8 v rfl
          have hle : ∀ v : List Nat, (∀ k ∈ v, k < gs.length) → (catG gs v).length ≤ 7 * v.length := fun v => by
            induction v with
            | nil => exact fun _ => Nat.le_refl _
            | cons k v ihv =>
              intro hk
              have hkl := hk k List.mem_cons_self
              have gk : gs[k]? = some gs[k] := List.getElem?_eq_getElem hkl
              have el : gs.getD k [] = gs[k] := by rw [List.getD_eq_getElem?_getD, gk]; rfl
              have h7 := (hg.1.at gk).1.2
              have := ihv (fun k hk2 => hk k (List.mem_cons_of_mem _ hk2))
              show (gs.getD k [] ++ catG gs v).length ≤ 7 * (v.length + 1)
              rw [List.length_append, el]
              omega
          have := hle v (fun k hk => by
            obtain ⟨i, hi⟩ := List.mem_iff_getElem?.mp hk
            exact (hv8.2 i k hi).2)
          have eb : bl gs (some v) = (catG gs v).length := rfl
          omega
      · rw [a6] at q
        have q' : ¬ 28 < bl gs (spF gs m so A [] none) := fun z => q ((nI_ltI (a := 28) (by omega) (by omega)).mpr z)
        cases hv : spF gs m so A [] none with
        | none =>
          exfalso
          rw [hv] at q'
          exact q' (by show 28 < 29; omega)
        | some v =>
          rw [hv] at q' a8
          have hv8 := a8 v rfl
          have eb : bl gs (some v) = (catG gs v).length := rfl
          exact B_Sp_search_91 (B_Sp_search_96 rfl (k1 v hv h' hF2 hv8.1 (by omega) a1 hv8.2))
  have loop : ∀ (i : Nat) (g : PH) (v3 : Value), i ≤ A.length → Fr (fun a _ => a = c + 2) h g → (∀ t, i ≤ t → t ≤ A.length → h_i g (c + 2) t = nI (alw gs m so (A.drop t))) → wpx (d + 8) P_Sp_search 17 [.ref c, .ref 2, .int (nI i - (1 : Int32)), v3] [] g Q := by
    intro i
    induction i with
    | zero =>
      intro g v3 hi hf hm
      exact B_Sp_search_17 (fun _ => last g _ v3 hf (fun t ht => hm t (Nat.zero_le _) ht)) (fun q => absurd (by decide) q)
    | succ i ih =>
      intro g v3 hi hf hm
      have hO' := hf.ow hO
      have hS' := hS.fr hf
      have hg' : CGr g 2 gs m := hg.fr hf (fun a k q => by omega)
      have hso' : CSo g 2 gs.length so := hso.fr' hf (fun k q => by omega)
      have e1 : nI (i + 1) - (1 : Int32) = nI i := nI_subN (b := 1) (by omega)
      rw [e1]
      have gA : A[i]? = some A[i] := List.getElem?_eq_getElem (by omega)
      generalize A[i] = a at gA
      refine B_Sp_search_17 (fun q => absurd q (nI_pos (by omega))) (fun _ => B_Sp_search_21 hS'.1 hS'.2.1.1 hS'.2.1.2 (vp_in_nI (by omega) (by omega)) ?_)
      rw [nI_clamp (by omega), hf.i _ _ (by omega), h2 i a gA]
      refine sp_shortest (d := d + 5) (GrS_2 hO') hg' hso' ?_
      cases hm0 : mnl gs m so a gs.length with
      | none =>
        refine B_Sp_search_31 (fun z => absurd rfl z) (fun _ => B_Sp_search_37 (k0 (spF_none hm0 A [] none (List.mem_of_getElem? gA)) g (hf.up (fun a k q => ⟨by omega, by omega⟩))))
      | some n =>
        have n7 := mnl_7 hg.1 _ n (Nat.le_refl _) hm0
        have haw := alw_le (so := so) hg.1 (A.drop (i + 1))
        refine B_Sp_search_31 (fun _ => B_Sp_search_39 hS'.1 hS'.2.2.1.1 hS'.2.2.1.2 (by rw [nI_1]; exact vp_in_nI (by omega) (by omega)) (vp_in_nI (by omega) (by omega)) ?_) (fun z => absurd z (nI_neg1 (by omega)))
        rw [nI_1, nI_clamp (by omega), nI_clamp (by omega), hm (i + 1) (Nat.le_refl _) (by omega), show oI (some n) = nI n from rfl, nI_add, nI_dn]
        refine ih _ _ (by omega) (hf.tr (Fr.wi _ _ rfl)) (fun t ht1 ht2 => ?_)
        by_cases z : t = i
        · subst z
          rw [wi_eq, drop_atG gA]
          show _ = nI ((mnl gs m so a gs.length).getD 0 + _)
          rw [hm0]
          congr 1
          exact Nat.add_comm _ _
        · rw [wi_ne _ _ (by omega)]
          exact hm t (by omega) ht2
  refine loop A.length _ _ (Nat.le_refl _) (Fr.wi h _ rfl) (fun t ht1 ht2 => ?_)
  have et : t = A.length := by omega
  subst et
  rw [wi_eq, List.drop_length]
  rfl
theorem catG_take {gs : List (List Nat)} {v : List Nat} {i k : Nat} (hk : v[i]? = some k) : catG gs (v.take (i + 1)) = catG gs (v.take i) ++ gs.getD k [] := by
  rw [List.take_add_one, hk]
  exact catG_snoc gs (v.take i) k
theorem catG_le (gs : List (List Nat)) (v : List Nat) (i : Nat) : (catG gs (v.take i)).length ≤ (catG gs v).length := by
  have e : catG gs v = catG gs (v.take i) ++ catG gs (v.drop i) := by
    unfold catG
    rw [← List.flatMap_append, List.take_append_drop]
  rw [e, List.length_append]
  omega
theorem sp_copyTo {d : Nat} {h : PH} {Q : PQ} {c : Nat} {gs : List (List Nat)} {m : Nat} {v : List Nat} (hv4 : v.length ≤ 4) (hS : SpS h c) (hO : OwS h) (hg : CGr h 2 gs m) (hn : (catG gs v).length ≤ 28) (h1 : h_i h c 1 = nI v.length) (h2 : ∀ i k, v[i]? = some k → h_i h (c + 4) i = nI k ∧ k < gs.length) (k : ∀ h', CWd h' (catG gs v) → Fr Wcd h h' → Q none h') : wpm (d + 3) 67 [.ref c, .ref 2, .ref 13] h Q := by
  refine wpm_in P_Sp_copyTo rfl (by decide) (by show ¬ 4 < 3; decide) ?_
  have hc63 : 63 ≤ c := hS.2.2.2.2.2.2.1
  have h14 := hg.1.1
  refine B_Sp_copyTo_0 (os_theWord hO) (wo_clear hO (fun g hw hf => B_Sp_copyTo_4 ?_))
  have loop : ∀ (e i : Nat) (g : PH), v.length - i = e → i ≤ v.length → CWd g (catG gs (v.take i)) → Fr Wcd h g → wpx (d + 2) P_Sp_copyTo 6 [.ref c, .ref 2, .ref 13, .int (nI i)] [] g Q := by
    intro e
    induction e with
    | zero =>
      intro i g he hi hw hf
      have hS' := hS.fr hf
      have ei : i = v.length := by omega
      refine B_Sp_copyTo_6 hS'.1 (fun _ => B_Sp_copyTo_46 (k g ?_ hf)) (fun q => ?_)
      · rw [ei, List.take_length] at hw
        exact hw
      · rw [hf.i _ _ (fun u => by unfold Wcd at u; omega), h1, nI_leI (by omega) (by omega)] at q
        omega
    | succ e ih =>
      intro i g he hi hw hf
      have hS' := hS.fr hf
      have hO' := hf.ow hO
      have hG' := GrS_2 hO'
      have hg' : CGr g 2 gs m := hg.fr hf (fun a k q => by unfold Wcd at q; omega)
      have gv : v[i]? = some v[i] := List.getElem?_eq_getElem (by omega)
      generalize v[i] = j at gv
      obtain ⟨b1, b2⟩ := h2 i j gv
      have gj : gs[j]? = some gs[j] := List.getElem?_eq_getElem b2
      generalize gs[j] = l at gj
      have el : gs.getD j [] = l := by rw [List.getD_eq_getElem?_getD, gj]; rfl
      obtain ⟨a1, a2, a3⟩ := hg.1.at gj
      have ej : h_i g (c + 4) (nI i).toNatClampNeg = nI j := by
        rw [nI_clamp (by omega), hf.i _ _ (fun u => by unfold Wcd at u; omega)]
        exact b1
      have hle := catG_le gs v (i + 1)
      rw [catG_take gv, el, List.length_append] at hle
      refine B_Sp_copyTo_6 hS'.1 (fun q => ?_) (fun _ => B_Sp_copyTo_14 hG'.1 hG'.2.1.1 hS'.1 hS'.2.2.2.2.1.1 hS'.2.2.2.2.1.2 (vp_in_nI (by omega) (by omega)) hG'.2.1.2 (by rw [ej]; exact vp_in_nI a3 (by omega)) hG'.2.2.1.1 hG'.2.2.1.2 (by rw [ej]; exact vp_in_nI a3 (by omega)) (os_theWord hO') ?_)
      · rw [hf.i _ _ (fun u => by unfold Wcd at u; omega), h1, nI_leI (by omega) (by omega)] at q
        omega
      · rw [ej, nI_clamp (by omega), (hg'.2.2.2 j l gj).1, (hg'.2.2.2 j l gj).2]
        refine wo_addRow hO' hw a1 (by omega) (fun h' hw' hf' => B_Sp_copyTo_40 ?_)
        rw [nI_1]
        refine ih (i + 1) h' (by omega) (by omega) ?_ (hf.tr hf')
        rw [catG_take gv, el]
        exact hw'
  exact loop _ 0 g rfl (Nat.zero_le _) hw hf
/-- the answer: the row of groups -/
def spV (gs : List (List Nat)) (m : Nat) (so : Nat → Int32) (S : Int32) (L : List Int32) : Option (List Nat) := match spA S L with
  | none => none
  | some A => spF gs m so A [] none
theorem ow_theSpeller {d : Nat} {h : PH} {Q : PQ} {x0 x1 x2 x3 : Int32} (hO : OwS h) (hc : 63 ≤ h_ct h) (hz : ∀ c, h_r h 0 9 = some c → SpS h c) (k : ∀ c h', Gw (fun _ _ => False) h h' → h_r h' 0 9 = some c → SpS h' c → (∀ c', h_r h 0 9 = some c' → c' = c ∧ h' = h) → (h_r h 0 9 = none → c = h_ct h) → wpx (d + 2) P_Ow_spell 18 [.ref 0, .int x0, .int x1, .int x2, .int x3] [] h' Q) : wpx (d + 2) P_Ow_spell 0 [.ref 0, .int x0, .int x1, .int x2, .int x3] [] h Q := by
  refine B_Ow_spell_0 hO.1 (fun a ha => k a h (Fr.rf _ _).gw ha (hz a ha) (fun c' e => ⟨Option.some.inj (e.symm.trans ha), rfl⟩) (fun e => by rw [e] at ha; cases ha)) (fun hn => B_Ow_spell_7 (i_Sp_init (Nat.lt_succ_self _) (sh_new_eq _ _ _) ?_))
  have hG := gw_list (f := 9) (ci := 5) (L := L_Sp_init) (by decide) (by decide) hn (by omega) rfl
  have a0 := mkO_arr [] 0 (1, 4) [(2, .inl (1, 5)), (3, .inl (1, 4)), (4, .inl (1, 4)), (6, .inl (1, 29))] (h_new h (0, 5) (fN 5)) (o := h_ct h) (Nat.lt_succ_self _) (by decide)
  have a1 := mkO_arr [(0, .inl (1, 4))] 2 (1, 5) [(3, .inl (1, 4)), (4, .inl (1, 4)), (6, .inl (1, 29))] (h_new h (0, 5) (fN 5)) (o := h_ct h) (Nat.lt_succ_self _) (by decide)
  have a2 := mkO_arr [(0, .inl (1, 4)), (2, .inl (1, 5))] 3 (1, 4) [(4, .inl (1, 4)), (6, .inl (1, 29))] (h_new h (0, 5) (fN 5)) (o := h_ct h) (Nat.lt_succ_self _) (by decide)
  have a3 := mkO_arr [(0, .inl (1, 4)), (2, .inl (1, 5)), (3, .inl (1, 4))] 4 (1, 4) [(6, .inl (1, 29))] (h_new h (0, 5) (fN 5)) (o := h_ct h) (Nat.lt_succ_self _) (by decide)
  have a4 := mkO_arr [(0, .inl (1, 4)), (2, .inl (1, 5)), (3, .inl (1, 4)), (4, .inl (1, 4))] 6 (1, 29) [] (h_new h (0, 5) (fN 5)) (o := h_ct h) (Nat.lt_succ_self _) (by decide)
  have hs : h_sh (mkO (h_new h (0, 5) (fN 5)) (h_ct h) L_Sp_init) (h_ct h) = some (0, 5) := (sh_mkO (Nat.lt_succ_self _)).trans (sh_new_eq _ _ _)
  have hct : h_ct (mkO (h_new h (0, 5) (fN 5)) (h_ct h) L_Sp_init) = h_ct h + 1 + 5 := mkO_ct _ _ _
  have wr : ∀ x k, x ≠ 0 → h_r (w_r (mkO (h_new h (0, 5) (fN 5)) (h_ct h) L_Sp_init) 0 9 (some (h_ct h))) x k = h_r (mkO (h_new h (0, 5) (fN 5)) (h_ct h) L_Sp_init) x k := fun x k hx => by rw [h_r_wr, if_neg (fun z => hx z.1)]
  have hs0 : h_sh (mkO (h_new h (0, 5) (fN 5)) (h_ct h) L_Sp_init) 0 = some (0, 11) := (lz_sh (by omega)).trans hO.1
  refine B_Ow_spell_15 hs0 (k _ _ hG (by rw [h_r_wr, if_pos ⟨rfl, rfl⟩]) ⟨hs, ⟨(wr _ _ (by omega)).trans a0.1, a0.2.1⟩, ⟨(wr _ _ (by omega)).trans a1.1, a1.2.1⟩, ⟨(wr _ _ (by omega)).trans a2.1, a2.2.1⟩, ⟨(wr _ _ (by omega)).trans a3.1, a3.2.1⟩, ⟨(wr _ _ (by omega)).trans a4.1, a4.2.1⟩, hc, ?_⟩ (fun c' e => by rw [hn] at e; cases e) (fun _ => rfl))
  show _ < h_ct (mkO (h_new h (0, 5) (fN 5)) (h_ct h) L_Sp_init)
  omega
