/-! tails on the class's side: the row of tails, one behind the other -/
abbrev TL : Type := List (List Nat × Nat)
def TaS (h : PH) (b : Nat) : Prop := h_sh h b = some (0, 6) ∧ (h_r h b 0 = some (b + 1) ∧ h_sh h (b + 1) = some (4, 98)) ∧ (h_r h b 1 = some (b + 2) ∧ h_sh h (b + 2) = some (1, 98)) ∧ (h_r h b 2 = some (b + 3) ∧ h_sh h (b + 3) = some (1, 98)) ∧ (h_r h b 4 = some (b + 4) ∧ h_sh h (b + 4) = some (1, 100)) ∧ (h_r h b 9 = some (b + 5) ∧ h_sh h (b + 5) = some (1, 98)) ∧ (h_r h b 10 = some (b + 6) ∧ h_sh h (b + 6) = some (1, 1372)) ∧ (h_r h b 11 = some (b + 7) ∧ h_sh h (b + 7) = some (1, 1372)) ∧ 63 ≤ b ∧ b + 7 < h_ct h
theorem TaS.fr {W : Nat → Nat → Prop} {h h' : PH} {b : Nat} (hf : Fr W h h') (hr : TaS h b) : TaS h' b := by
  unfold TaS at hr ⊢
  rw [hf.1, hf.2.1, hf.2.2.1]
  exact hr
theorem TaS.gw {W : Nat → Nat → Prop} {h h' : PH} {b : Nat} (hf : Gw W h h') (hr : TaS h b) : TaS h' b := by
  obtain ⟨a0, a1, a2, a3, a4, a5, a6, a7, a8, a9⟩ := hr
  have hs : ∀ c, c < h_ct h → h_sh h' c = h_sh h c := hf.2.2.2.2.1
  have hc := hf.2.1
  exact ⟨(hs _ (by omega)).trans a0, ⟨hf.rs (by omega) a1.1, (hs _ (by omega)).trans a1.2⟩, ⟨hf.rs (by omega) a2.1, (hs _ (by omega)).trans a2.2⟩, ⟨hf.rs (by omega) a3.1, (hs _ (by omega)).trans a3.2⟩, ⟨hf.rs (by omega) a4.1, (hs _ (by omega)).trans a4.2⟩, ⟨hf.rs (by omega) a5.1, (hs _ (by omega)).trans a5.2⟩, ⟨hf.rs (by omega) a6.1, (hs _ (by omega)).trans a6.2⟩, ⟨hf.rs (by omega) a7.1, (hs _ (by omega)).trans a7.2⟩, a8, by omega⟩
def okT (ts : TL) : Prop := ts.length ≤ 98 ∧ ∀ t ∈ ts, okr t.1 ∧ 0 < t.1.length ∧ t.2 < 2 ^ 14
def CTa (h : PH) (b : Nat) (ts : TL) : Prop := okT ts ∧ h_i h b 3 = nI ts.length ∧ ∀ k t, ts[k]? = some t → h_l h (b + 1) k = pk t.1 ∧ h_i h (b + 2) k = nI t.1.length ∧ h_i h (b + 3) k = nI t.2
theorem CTa.fr {W : Nat → Nat → Prop} {h h' : PH} {b : Nat} {ts : TL} (hf : Fr W h h') (hw : ∀ c k, W c k → ¬ ((c = b ∧ k = 3) ∨ (b < c ∧ c ≤ b + 3))) (hc : CTa h b ts) : CTa h' b ts :=
  ⟨hc.1, (hf.i _ _ (fun z => hw _ _ z (Or.inl ⟨rfl, rfl⟩))).trans hc.2.1, fun k t ht => ⟨(hf.l _ _ (fun z => hw _ _ z (Or.inr (by omega)))).trans (hc.2.2 k t ht).1, (hf.i _ _ (fun z => hw _ _ z (Or.inr (by omega)))).trans (hc.2.2 k t ht).2.1, (hf.i _ _ (fun z => hw _ _ z (Or.inr (by omega)))).trans (hc.2.2 k t ht).2.2⟩⟩
theorem okT.at {ts : TL} (h : okT ts) {k : Nat} {t : List Nat × Nat} (hk : ts[k]? = some t) : okr t.1 ∧ 0 < t.1.length ∧ t.2 < 2 ^ 14 ∧ k < 98 := by
  have := (List.getElem?_eq_some_iff.mp hk).1
  have h1 := h.1
  obtain ⟨a, b, c⟩ := h.2 t (List.mem_of_getElem? hk)
  exact ⟨a, b, c, by omega⟩
theorem ta_find {d : Nat} {h : PH} {Q : PQ} {b : Nat} {ts : TL} {l : List Nat} (hT : TaS h b) (hc : CTa h b ts) (hl : okr l) (kn : (∀ t ∈ ts, ¬ t.1 = l) → Q (some (.int (-1))) h) (ks : ∀ k t, ts[k]? = some t → t.1 = l → (∀ j u, j < k → ts[j]? = some u → ¬ u.1 = l) → Q (some (.int (nI k))) h) : wpm (d + 1) 73 [.ref b, .long (pk l)] h Q := by
  refine wpm_in P_Ta_find rfl (by decide) (by show ¬ 4 < 3; decide) (B_Ta_find_0 ?_)
  have h98 := hc.1.1
  have loop : ∀ (e j : Nat), ts.length - j = e → j ≤ ts.length → (∀ i u, i < j → ts[i]? = some u → ¬ u.1 = l) → wpx d P_Ta_find 2 [.ref b, .long (pk l), .retAddr 2, .int (nI j)] [] h Q := by
    intro e
    induction e with
    | zero =>
      intro j he hj hn
      refine B_Ta_find_2 hT.1 (fun _ => B_Ta_find_29 (kn (fun t ht z => ?_))) (fun q => ?_)
      · obtain ⟨i, hi⟩ := List.mem_iff_getElem?.mp ht
        have := (List.getElem?_eq_some_iff.mp hi).1
        exact hn i t (by omega) hi z
      · rw [hc.2.1, nI_leI (by omega) (by omega)] at q
        omega
    | succ e ih =>
      intro j he hj hn
      have gj : ts[j]? = some ts[j] := List.getElem?_eq_getElem (by omega)
      generalize ts[j] = t at gj
      obtain ⟨t1, t2, t3, t4⟩ := hc.1.at gj
      have va : vp_in (nI j) 98 := vp_in_nI t4 (by omega)
      have eL : lg_cmp (h_l h (b + 1) (nI j).toNatClampNeg) (pk l) = 0 ↔ t.1 = l := by
        rw [nI_clamp (by omega), (hc.2.2 j t gj).1, lg_cmp0, pk_inj t1 hl]
      refine B_Ta_find_2 hT.1 (fun q => ?_) (fun _ => B_Ta_find_10 hT.1 hT.2.1.1 hT.2.1.2 va (fun z => B_Ta_find_23 ?_) (fun z => B_Ta_find_21 (ks j t gj (eL.mp z) hn)))
      · rw [hc.2.1, nI_leI (by omega) (by omega)] at q
        omega
      · rw [nI_1]
        refine ih (j + 1) (by omega) (by omega) (fun i u hi hu y => ?_)
        by_cases ei : i = j
        · subst ei
          rw [gj] at hu
          have : t = u := Option.some.inj hu
          subst this
          exact z (eL.mpr y)
        · exact hn i u (by omega) hu y
  exact loop ts.length 0 rfl (Nat.zero_le _) (fun i u hi => by omega)
/-- a tail more, if it is any, and new -/
def tadd (ts : TL) (r : List Nat) (mk : Nat) : TL := if r = [] ∨ 98 ≤ ts.length ∨ r ∈ ts.map Prod.fst then ts else ts ++ [(r, mk)]
theorem tadd_ok {ts : TL} {r : List Nat} {mk : Nat} (ho : okT ts) (hr : okr r) (hm : mk < 2 ^ 14) : okT (tadd ts r mk) := by
  unfold tadd
  by_cases z : r = [] ∨ 98 ≤ ts.length ∨ r ∈ ts.map Prod.fst
  · rw [if_pos z]
    exact ho
  · rw [if_neg z]
    refine ⟨?_, fun t ht => ?_⟩
    · rw [List.length_append]
      show _ + 1 ≤ _
      have : ¬ 98 ≤ ts.length := fun y => z (Or.inr (Or.inl y))
      omega
    · rcases List.mem_append.mp ht with y | y
      · exact ho.2 t y
      · have : t = (r, mk) := List.mem_singleton.mp y
        subst this
        exact ⟨hr, List.length_pos_iff.mpr (fun y => z (Or.inl y)), hm⟩
def WtailR (b c k : Nat) : Prop := (c = b ∧ k = 3) ∨ (b < c ∧ c ≤ b + 3)
theorem ta_add {d : Nat} {h : PH} {Q : PQ} {b n : Nat} {ts : TL} {l : List Nat} {mk : Nat} (hT : TaS h b) (hc : CTa h b ts) (hl : okr l) (hn : n ≤ l.length) (hm : mk < 2 ^ 14) (k : ∀ h', CTa h' b (tadd ts (l.drop (l.length - n)) mk) → Fr (WtailR b) h h' → Q none h') : wpm (d + 2) 72 [.ref b, .long (pk l), .int (nI n), .int (nI mk)] h Q := by
  refine wpm_in P_Ta_add rfl (by decide) (by show ¬ 7 < 5; decide) ?_
  have l7 := hl.2
  have h98 := hc.1.1
  have hr := hl.drop (l.length - n)
  have hrl : (l.drop (l.length - n)).length = n := by
    rw [List.length_drop]
    omega
  have same : (l.drop (l.length - n) = [] ∨ 98 ≤ ts.length ∨ l.drop (l.length - n) ∈ ts.map Prod.fst) → Q none h := fun z => k h (by
    unfold tadd
    rw [if_pos z]
    exact hc) (Fr.rf _ _)
  refine B_Ta_add_0 (fun z => B_Ta_add_14 (same (Or.inl ?_))) (fun z0 => B_Ta_add_5 hT.1 (fun z1 => B_Ta_add_15 (ow_lastOf hl hn (B_Ta_add_20 hT.1 (ta_find hT hc hr (fun hno => ?_) (fun i t ht et _ => ?_))))) (fun z => B_Ta_add_14 (same (Or.inr (Or.inl ?_)))))
  · rw [show (1 : Int32) = nI 1 from rfl, nI_ltI (by omega) (by omega)] at z
    exact List.length_eq_zero_iff.mp (by omega)
  · rw [show (1 : Int32) = nI 1 from rfl, nI_ltI (by omega) (by omega)] at z0
    rw [hc.2.1, show (98 : Int32) = nI 98 from rfl, nI_ltI (by omega) (by omega)] at z1
    refine B_Ta_add_28 (fun _ => ?_) (fun z => absurd rfl z)
    have va : ∀ g : PH, h_i g b 3 = nI ts.length → vp_in (h_i g b 3) 98 := fun g hg => by
      rw [hg]
      exact vp_in_nI z1 (by omega)
    have e1 : h_i (w_l h (b + 1) (h_i h b 3).toNatClampNeg (pk (l.drop (l.length - n)))) b 3 = nI ts.length := hc.2.1
    have e2 : h_i (w_i (w_l h (b + 1) (h_i h b 3).toNatClampNeg (pk (l.drop (l.length - n)))) (b + 2) (h_i (w_l h (b + 1) (h_i h b 3).toNatClampNeg (pk (l.drop (l.length - n)))) b 3).toNatClampNeg (nI n)) b 3 = nI ts.length := (wi_ne _ _ (by omega)).trans e1
    refine B_Ta_add_33 hT.1 hT.2.1.1 hT.2.1.2 (va _ hc.2.1) hT.2.2.1.1 hT.2.2.1.2 (va _ e1) hT.2.2.2.1.1 hT.2.2.2.1.2 (va _ e2) ?_
    rw [e2, e1, hc.2.1, nI_clamp (by omega)]
    have f1 : Fr (WtailR b) h (w_i (w_i (w_l h (b + 1) ts.length (pk (l.drop (l.length - n)))) (b + 2) ts.length (nI n)) (b + 3) ts.length (nI mk)) := (Fr.wl h _ (Or.inr (by omega))).tr ((Fr.wi _ _ (Or.inr (by omega))).tr (Fr.wi _ _ (Or.inr (by omega))))
    have e3 : h_i (w_i (w_i (w_l h (b + 1) ts.length (pk (l.drop (l.length - n)))) (b + 2) ts.length (nI n)) (b + 3) ts.length (nI mk)) b 3 = nI ts.length := by
      rw [wi_ne _ _ (by omega), wi_ne _ _ (by omega)]
      exact hc.2.1
    have n1 : h_l (w_i (w_i (w_l h (b + 1) ts.length (pk (l.drop (l.length - n)))) (b + 2) ts.length (nI n)) (b + 3) ts.length (nI mk)) (b + 1) ts.length = pk (l.drop (l.length - n)) := wl_eq _ _ _ _
    have n2 : h_i (w_i (w_i (w_l h (b + 1) ts.length (pk (l.drop (l.length - n)))) (b + 2) ts.length (nI n)) (b + 3) ts.length (nI mk)) (b + 2) ts.length = nI n := by rw [wi_ne _ _ (by omega), wi_eq]
    have n3 : h_i (w_i (w_i (w_l h (b + 1) ts.length (pk (l.drop (l.length - n)))) (b + 2) ts.length (nI n)) (b + 3) ts.length (nI mk)) (b + 3) ts.length = nI mk := wi_eq _ _ _ _
    have old : ∀ i t, ts[i]? = some t → h_l (w_i (w_i (w_l h (b + 1) ts.length (pk (l.drop (l.length - n)))) (b + 2) ts.length (nI n)) (b + 3) ts.length (nI mk)) (b + 1) i = pk t.1 ∧ h_i (w_i (w_i (w_l h (b + 1) ts.length (pk (l.drop (l.length - n)))) (b + 2) ts.length (nI n)) (b + 3) ts.length (nI mk)) (b + 2) i = nI t.1.length ∧ h_i (w_i (w_i (w_l h (b + 1) ts.length (pk (l.drop (l.length - n)))) (b + 2) ts.length (nI n)) (b + 3) ts.length (nI mk)) (b + 3) i = nI t.2 := fun i t ht => by
      have hi := (List.getElem?_eq_some_iff.mp ht).1
      obtain ⟨o1, o2, o3⟩ := hc.2.2 i t ht
      refine ⟨(wl_ne _ _ (by omega)).trans o1, ?_, ?_⟩
      · rw [wi_ne _ _ (by omega), wi_ne _ _ (by omega)]
        exact o2
      · rw [wi_ne _ _ (by omega), wi_ne _ _ (by omega)]
        exact o3
    generalize w_i (w_i (w_l h (b + 1) ts.length (pk (l.drop (l.length - n)))) (b + 2) ts.length (nI n)) (b + 3) ts.length (nI mk) = g at f1 e3 n1 n2 n3 old ⊢
    refine B_Ta_add_65 (hT.fr f1).1 (k _ ?_ (f1.tr (Fr.wi g _ (Or.inl ⟨rfl, rfl⟩))))
    have hnew : ¬ (l.drop (l.length - n) = [] ∨ 98 ≤ ts.length ∨ l.drop (l.length - n) ∈ ts.map Prod.fst) := fun z => by
      rcases z with z | z | z
      · rw [z] at hrl
        have : (0 : Nat) = n := hrl
        omega
      · omega
      · obtain ⟨t, ht, et⟩ := List.mem_map.mp z
        exact hno t ht et
    refine ⟨tadd_ok hc.1 hr hm, ?_⟩
    unfold tadd
    rw [if_neg hnew]
    refine ⟨?_, fun i t ht => ?_⟩
    · rw [wi_eq, e3, nI_1, List.length_append]
      rfl
    · rw [wi_ne _ _ (by omega), wi_ne _ _ (by omega)]
      by_cases hi : i < ts.length
      · rw [List.getElem?_append_left hi] at ht
        exact old i t ht
      · rw [List.getElem?_append_right (by omega)] at ht
        have hi0 : i - ts.length < 1 := (List.getElem?_eq_some_iff.mp ht).1
        have ei : i = ts.length := by omega
        subst ei
        rw [Nat.sub_self] at ht
        have : (l.drop (l.length - n), mk) = t := Option.some.inj ht
        subst this
        exact ⟨n1, n2.trans (by rw [hrl]), n3⟩
  · refine B_Ta_add_28 (fun z => absurd z ?_) (fun _ => B_Ta_add_32 (same (Or.inr (Or.inr (List.mem_map.mpr ⟨t, List.mem_of_getElem? ht, et⟩)))))
    have := (hc.1.at ht).2.2.2
    exact nI_neg1 (by omega)
  · rw [hc.2.1, show (98 : Int32) = nI 98 from rfl, nI_ltI (by omega) (by omega)] at z
    omega
