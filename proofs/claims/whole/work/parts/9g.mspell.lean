/-! spell on the reference's side: a row tried -/
def osF (m : Nat) (so : Nat → Int32) (a : Int32) : Nat → Nat → Option Nat
  | 0, _ => none
  | c + 1, j => if inm m j ∧ so j = a then some j else osF m so a c (j + 1)
theorem osF_none {gs : List (List Nat)} {m : Nat} {so : Nat → Int32} {a : Int32} {F : List Nat → Option (List Nat) → Option (List Nat)} {r : List Nat} {b : Option (List Nat)} : ∀ c j, osF m so a c j = none → spJ gs m so F a r c j b = b
  | 0, _, _ => rfl
  | c + 1, j, h => by
    unfold osF at h
    by_cases q : inm m j ∧ so j = a
    · rw [if_pos q] at h
      cases h
    · rw [if_neg q] at h
      show spJ gs m so F a r c (j + 1) (if inm m j ∧ so j = a then F (r ++ [j]) b else b) = b
      rw [if_neg q]
      exact osF_none c (j + 1) h
theorem osF_some {gs : List (List Nat)} {m : Nat} {so : Nat → Int32} {a : Int32} {F : List Nat → Option (List Nat) → Option (List Nat)} {r : List Nat} {b : Option (List Nat)} : ∀ c j i, osF m so a c j = some i → j ≤ i ∧ i < j + c ∧ inm m i ∧ so i = a ∧ spJ gs m so F a r c j b = spJ gs m so F a r (j + c - (i + 1)) (i + 1) (F (r ++ [i]) b)
  | 0, _, _, h => by cases h
  | c + 1, j, i, h => by
    unfold osF at h
    have e0 : spJ gs m so F a r (c + 1) j b = spJ gs m so F a r c (j + 1) (if inm m j ∧ so j = a then F (r ++ [j]) b else b) := rfl
    by_cases q : inm m j ∧ so j = a
    · rw [if_pos q] at h
      have e : j = i := Option.some.inj h
      subst e
      rw [if_pos q] at e0
      refine ⟨Nat.le_refl _, by omega, q.1, q.2, ?_⟩
      rw [e0, show j + (c + 1) - (j + 1) = c by omega]
    · rw [if_neg q] at h
      rw [if_neg q] at e0
      obtain ⟨h1, h2, h3, h4, h5⟩ := osF_some (gs := gs) (F := F) (r := r) (b := b) c (j + 1) i h
      refine ⟨by omega, by omega, h3, h4, ?_⟩
      rw [e0, h5, show j + 1 + c = j + (c + 1) by omega]
theorem MSo.fr' {W : Nat → Nat → Prop} {h h' : PH} {n : Nat} {so : Nat → Int32} (hf : Fr W h h') (hw : ∀ k, ¬ W 20 k) (hs : MSo h n so) : MSo h' n so := fun k hk => (hf.i _ _ (hw k)).trans (hs k hk)
theorem md_ofSound {d : Nat} {h : PH} {Q : PQ} {gs : List (List Nat)} {m t j : Nat} {so : Nat → Int32} {a : Int32} (hM : MdS h) (hg : MGr h gs m) (hso : MSo h gs.length so) (ht : t < 4) (ha : h_i h 42 t = a) (hj : j ≤ gs.length) (k : Q (some (.int (oI (osF m so a (gs.length - j) j)))) h) : wpm (d + 2) 244 [.ref 17, .int (nI t), .int (nI j)] h Q := by
  refine wpm_in P_Md_ofSound rfl (by decide) (by show ¬ 4 < 3; decide) (B_Md_ofSound_0 ?_)
  have h14 := hg.1.1
  have hm := hg.1.m31
  have loop : ∀ (c i : Nat), gs.length - i = c → i ≤ gs.length → Q (some (.int (oI (osF m so a c i)))) h → wpx (d + 1) P_Md_ofSound 2 [.ref 17, .int (nI t), .int (nI j), .int (nI i)] [] h Q := by
    intro c
    induction c with
    | zero =>
      intro i hc hi k
      refine B_Md_ofSound_2 hM.1 (fun _ => B_Md_ofSound_44 k) (fun q => ?_)
      rw [hg.2.1, nI_leI (by omega) (by omega)] at q
      omega
    | succ c ih =>
      intro i hc hi k
      have no : ¬ (inm m i ∧ so i = a) → wpx (d + 1) P_Md_ofSound 38 [.ref 17, .int (nI t), .int (nI j), .int (nI i)] [] h Q := fun z => by
        have e : osF m so a (c + 1) i = osF m so a c (i + 1) := if_neg z
        rw [e] at k
        refine B_Md_ofSound_38 ?_
        rw [nI_1]
        exact ih (i + 1) (by omega) (by omega) k
      refine B_Md_ofSound_2 hM.1 (fun q => ?_) (fun _ => B_Md_ofSound_10 hM.1 ?_)
      · rw [hg.2.1, nI_leI (by omega) (by omega)] at q
        omega
      · rw [hg.2.2.1]
        refine md_isOf hm (by omega) (fun q => ?_) (fun q => ?_)
        · refine B_Md_ofSound_18 (fun z => absurd z (by decide)) (fun _ => B_Md_ofSound_21 hM.1 (mr_soundOf hM) (ms_soundOf hM) (vp_in_nI (by omega) (by omega)) (mr_told hM) (ms_told hM) (vp_in_nI (by omega) (by omega)) (fun z => ?_) (fun z => ?_))
          · rw [nI_clamp (by omega), nI_clamp (by omega), hso i (by omega), ha] at z
            exact no (fun y => z y.2)
          · rw [nI_clamp (by omega), nI_clamp (by omega), hso i (by omega), ha] at z
            have e : osF m so a (c + 1) i = some i := if_pos ⟨q, z⟩
            rw [e] at k
            exact B_Md_ofSound_36 k
        · exact B_Md_ofSound_18 (fun _ => no (fun y => q y.1)) (fun z => absurd rfl z)
  exact loop _ j rfl hj k
/-- the best word so far on the reference's side -/
def MLs (h : PH) (gs : List (List Nat)) (b : Option (List Nat)) : Prop := (b = none → h_i h 17 47 = -1) ∧ ∀ v, b = some v → h_i h 17 47 = nI (catG gs v).length ∧ (catG gs v).length ≤ 28 ∧ ∀ k x, (catG gs v)[k]? = some x → h_i h 40 k = nI (x + 96)
def Wis (c k : Nat) : Prop := Wtr c k ∨ c = 36
theorem wis_g : ∀ c k, Wis c k → ¬ ((c = 17 ∧ (k = 4 ∨ k = 6)) ∨ c = 18 ∨ c = 19) := fun c k q => by unfold Wis Wtr at q; omega
theorem md_isSpelling {d : Nat} {h : PH} {Q : PQ} {gs : List (List Nat)} {m : Nat} {r : List Nat} {b : Option (List Nat)} (hu : unlk gs) (hM : MdS h) (hg : MGr h gs m) (hr4 : r.length ≤ 4) (hr : ∀ i k, r[i]? = some k → h_i h 43 i = nI k ∧ k < gs.length) (hb : MLs h gs b) (k : ∀ h', MTr h' (catG gs r) → (catG gs r).length ≤ 28 → Fr Wis h h' → Q (some (.int (if btr gs (catG gs r).length b = true ∧ rdc gs m (catG gs r) = 1 then 1 else 0))) h') : wpm (d + 4) 243 [.ref 17, .int (nI r.length)] h Q := by
  refine wpm_in P_Md_isSpelling rfl (by decide) (by show ¬ 3 < 2; decide) (B_Md_isSpelling_0 hM.1 ?_)
  have h14 := hg.1.1
  have step : ∀ i k, r[i]? = some k → (catG gs (r.take (i + 1))).length ≤ (catG gs (r.take i)).length + 7 := fun i k hk => by
    have hkl := (hr i k hk).2
    have gk : gs[k]? = some gs[k] := List.getElem?_eq_getElem hkl
    have el : gs.getD k [] = gs[k] := by rw [List.getD_eq_getElem?_getD, gk]; rfl
    have h7 := (hg.1.at gk).1.2
    rw [catG_take hk, List.length_append, el]
    omega
  have loop : ∀ (e i : Nat) (g : PH), r.length - i = e → i ≤ r.length → MTr g (catG gs (r.take i)) → Fr Wis h g → (catG gs (r.take i)).length ≤ 7 * i → wpx (d + 3) P_Md_isSpelling 7 [.ref 17, .int (nI r.length), .int (nI i)] [] g Q := by
    intro e
    induction e with
    | zero =>
      intro i g he hi ht hf hl
      have hM' := hf.md hM
      have hg' := hg.fr hf wis_g
      have ei : i = r.length := by omega
      rw [ei, List.take_length] at ht hl
      have hlen : (catG gs r).length ≤ 28 := by omega
      have hok : okw (catG gs r) := ⟨by omega, catG_ok hg.1 (fun k hk => by
        obtain ⟨i, hi⟩ := List.mem_iff_getElem?.mp hk
        exact (hr i k hi).2)⟩
      have hrw : MRw g 34 800 (catG gs r) := ⟨hok, ms_trial hM', by omega, by omega, ht.2.2⟩
      have good : btr gs (catG gs r).length b = true → wpx (d + 3) P_Md_isSpelling 49 [.ref 17, .int (nI r.length), .int (nI i)] [] g Q := fun hbt => by
        refine B_Md_isSpelling_49 hM'.1 (mr_trial hM') ?_
        rw [ht.2.1]
        refine md_layWays hM' hrw (by decide) hg' (fun g2 hy hf2 => ?_)
        have hM2 := hf2.md hM'
        have hF := hf.tr (hf2.up (fun c k q => Or.inr q))
        have ht2 : MTr g2 (catG gs r) := ht.fr hf2 (fun c k q z => by unfold Wtr at z; omega)
        have hN : rdc gs m (catG gs r) < 2 ^ 63 := by
          have h1 := rdc_pow hg.1 hu _ (catG gs r) (Nat.le_refl _)
          have h2 : (2 : Nat) ^ (catG gs r).length ≤ 2 ^ 28 := Nat.pow_le_pow_right (by omega) hlen
          have h3 : (2 : Nat) ^ 28 < 2 ^ 63 := by decide
          omega
        have ey : h_l g2 36 0 = lN (rdc gs m (catG gs r)) := hy 0 (Nat.zero_le _)
        refine B_Md_isSpelling_61 hM2.1 (mr_ways hM2) (ms_ways hM2) (vp_in_nI (n := 0) (by omega) (by omega)) (fun z => ?_) (fun z => ?_)
        · rw [ey, lg_cmp0, show (1 : Int64) = lN 1 from rfl, lN_inj hN (by omega)] at z
          refine B_Md_isSpelling_76 (B_Md_isSpelling_77 rfl ?_)
          have := k g2 ht2 hlen hF
          rw [if_neg (fun y => z y.2)] at this
          exact this
        · rw [ey, lg_cmp0, show (1 : Int64) = lN 1 from rfl, lN_inj hN (by omega)] at z
          refine B_Md_isSpelling_72 (B_Md_isSpelling_77 rfl ?_)
          have := k g2 ht2 hlen hF
          rw [if_pos ⟨hbt, z⟩] at this
          exact this
      have eb : h_i g 17 47 = h_i h 17 47 := hf.i _ _ (fun q => by unfold Wis Wtr at q; omega)
      refine B_Md_isSpelling_7 (fun _ => ?_) (fun q => ?_)
      · cases hbb : b with
        | none =>
          refine B_Md_isSpelling_29 hM'.1 (fun _ => good (by rw [hbb]; rfl)) (fun z => ?_)
          rw [eb, hb.1 hbb] at z
          exact absurd (by decide) z
        | some v =>
          obtain ⟨v1, v2, v3⟩ := hb.2 v hbb
          refine B_Md_isSpelling_29 hM'.1 (fun z => ?_) (fun _ => B_Md_isSpelling_36 hM'.1 (fun z => ?_) (fun z => ?_))
          · rw [eb, v1] at z
            exact absurd z (nI_pos (by omega))
          · rw [eb, v1, ht.2.1, nI_ltI (by omega) (by omega)] at z
            exact good (by rw [hbb]; exact decide_eq_true z)
          · rw [eb, v1, ht.2.1, nI_ltI (by omega) (by omega)] at z
            have := k g ht hlen hf
            rw [if_neg (fun y => z (by have := y.1; rw [hbb] at this; exact of_decide_eq_true this))] at this
            exact B_Md_isSpelling_47 this
      · rw [nI_leI (by omega) (by omega)] at q
        omega
    | succ e ih =>
      intro i g he hi ht hf hl
      have hM' := hf.md hM
      have hg' := hg.fr hf wis_g
      have gk : r[i]? = some r[i] := List.getElem?_eq_getElem (by omega)
      generalize r[i] = k0 at gk
      obtain ⟨c1, c2⟩ := hr i k0 gk
      have gl : gs[k0]? = some gs[k0] := List.getElem?_eq_getElem c2
      generalize gs[k0] = l at gl
      have el : gs.getD k0 [] = l := by rw [List.getD_eq_getElem?_getD, gl]; rfl
      have h7 := (hg.1.at gl).1.2
      have hst := step i k0 gk
      have e43 : h_i g 43 (nI i).toNatClampNeg = nI k0 := by
        rw [nI_clamp (by omega), hf.i _ _ (fun q => by unfold Wis Wtr at q; omega)]
        exact c1
      refine B_Md_isSpelling_7 (fun q => ?_) (fun _ => B_Md_isSpelling_12 hM'.1 (mr_chosen hM') (ms_chosen hM') (vp_in_nI (by omega) (by omega)) ?_)
      · rw [nI_leI (by omega) (by omega)] at q
        omega
      · rw [e43]
        refine md_tries (f := 0) (d := d + 1) hM' hg' ht gl (Nat.zero_le _) (by omega) (fun h' ht' hf' => B_Md_isSpelling_23 ?_)
        rw [nI_1]
        refine ih (i + 1) h' (by omega) (by omega) ?_ (hf.tr (hf'.up (fun c k q => Or.inl q))) (by omega)
        rw [catG_take gk, el]
        exact ht'
  exact loop _ 0 _ rfl (Nat.zero_le _) ⟨Nat.zero_le _, by rw [wi_eq]; rfl, fun k x hk => by cases hk⟩ (Fr.wi h _ (Or.inl (Or.inl ⟨rfl, rfl⟩))) (Nat.le_refl _)
