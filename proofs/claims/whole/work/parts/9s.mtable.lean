/-! table on the reference's side, closed -/
def Wmf (c k : Nat) : Prop := (c = 17 ∧ (k = 0 ∨ (12 ≤ k ∧ k ≤ 22))) ∨ (22 ≤ c ∧ c ≤ 25)
def Wmb (c k : Nat) : Prop := Wmf c k ∨ (c = 17 ∧ ((4 ≤ k ∧ k ≤ 6) ∨ (24 ≤ k ∧ k ≤ 26) ∨ k = 70 ∨ k = 76)) ∨ (18 ≤ c ∧ c ≤ 20)
theorem md_table {d : Nat} {h : PH} {Q : PQ} {B : List Nat} (hM : MdS h) (hB6 : B.length ≤ 600) (h12 : h_i h 17 12 = nI B.length) (hBy : ∀ (k n : Nat), B[k]? = some n → n < 256 ∧ h_i h 21 k = nI n) (k1 : ¬ (tbl B).1 = 0 → ∀ h', h_i h' 17 17 = nI (tbl B).1 → h_i h' 17 18 = nI (tbl B).2.1 → h_i h' 17 12 = 0 → Fr Wmf h h' → Q (some (.int (-1))) h') (k2 : (tbl B).1 = 0 → ∀ h', okS (tbl B).2.2 → h_i h' 17 17 = 0 → h_i h' 17 18 = -1 → h_i h' 17 12 = 0 → MGr h' (tbl B).2.2.2.2.1 (2 ^ (tbl B).2.2.2.2.1.length - 1) → MSo h' (tbl B).2.2.2.2.1.length (soF (tbl B).2.2.2.2.2) → h_i h' 17 5 = nI (tbl B).2.2.2.1.length → h_i h' 17 76 = 0 → MWd h' [] → h_i h' 17 25 = 0 → h_i h' 17 26 = 0 → h_i h' 17 70 = 0 → Fr Wmb h h' → Q (some (.int (nI (tbl B).2.2.2.2.1.length))) h') : wpm (d + 6) 195 [.ref 17] h Q := by
  refine wpm_in P_Md_table rfl (by decide) (by show ¬ 3 < 1; decide) (B_Md_table_0 hM.1 ?_)
  have e13 : h_i (w_i h 17 0 0) 17 12 = nI B.length := by rw [wi_ne _ _ (by omega)]; exact h12
  rw [e13]
  have hf0 : Fr Wmf h (w_i (w_i (w_i (w_i (w_i (w_i (w_i h 17 0 0) 17 13 (nI B.length)) 17 12 0) 17 15 0) 17 19 0) 17 21 0) 17 22 0) := (Fr.wi h _ (by unfold Wmf; omega)).tr ((Fr.wi _ _ (by unfold Wmf; omega)).tr ((Fr.wi _ _ (by unfold Wmf; omega)).tr ((Fr.wi _ _ (by unfold Wmf; omega)).tr ((Fr.wi _ _ (by unfold Wmf; omega)).tr ((Fr.wi _ _ (by unfold Wmf; omega)).tr (Fr.wi _ _ (by unfold Wmf; omega)))))))
  have i13 : h_i (w_i (w_i (w_i (w_i (w_i (w_i (w_i h 17 0 0) 17 13 (nI B.length)) 17 12 0) 17 15 0) 17 19 0) 17 21 0) 17 22 0) 17 13 = nI B.length := by
    rw [wi_ne _ _ (by omega), wi_ne _ _ (by omega), wi_ne _ _ (by omega), wi_ne _ _ (by omega), wi_ne _ _ (by omega), wi_eq]
  have i12 : h_i (w_i (w_i (w_i (w_i (w_i (w_i (w_i h 17 0 0) 17 13 (nI B.length)) 17 12 0) 17 15 0) 17 19 0) 17 21 0) 17 22 0) 17 12 = 0 := by
    rw [wi_ne _ _ (by omega), wi_ne _ _ (by omega), wi_ne _ _ (by omega), wi_ne _ _ (by omega), wi_eq]
  have i15 : h_i (w_i (w_i (w_i (w_i (w_i (w_i (w_i h 17 0 0) 17 13 (nI B.length)) 17 12 0) 17 15 0) 17 19 0) 17 21 0) 17 22 0) 17 15 = nI 0 := by
    rw [wi_ne _ _ (by omega), wi_ne _ _ (by omega), wi_ne _ _ (by omega), wi_eq]
    rfl
  have i19 : h_i (w_i (w_i (w_i (w_i (w_i (w_i (w_i h 17 0 0) 17 13 (nI B.length)) 17 12 0) 17 15 0) 17 19 0) 17 21 0) 17 22 0) 17 19 = 0 := by
    rw [wi_ne _ _ (by omega), wi_ne _ _ (by omega), wi_eq]
  have i21 : h_i (w_i (w_i (w_i (w_i (w_i (w_i (w_i h 17 0 0) 17 13 (nI B.length)) 17 12 0) 17 15 0) 17 19 0) 17 21 0) 17 22 0) 17 21 = 0 := by
    rw [wi_ne _ _ (by omega), wi_eq]
  have i22 : h_i (w_i (w_i (w_i (w_i (w_i (w_i (w_i h 17 0 0) 17 13 (nI B.length)) 17 12 0) 17 15 0) 17 19 0) 17 21 0) 17 22 0) 17 22 = 0 := wi_eq _ _ _ _
  generalize w_i (w_i (w_i (w_i (w_i (w_i (w_i h 17 0 0) 17 13 (nI B.length)) 17 12 0) 17 15 0) 17 19 0) 17 21 0) 17 22 0 = g0 at hf0 i12 i13 i15 i19 i21 i22 ⊢
  have hM0 := hf0.md hM
  have hB0 : MBy g0 B := ⟨hB6, i13, fun k n hn => ⟨(hBy k n hn).1, (hf0.i _ _ (fun z => by unfold Wmf at z; omega)).trans (hBy k n hn).2⟩⟩
  have up : ∀ {g g' : PH}, Fr Wps g g' → Fr Wmf g g' := fun hf => hf.up (fun c k z => by unfold Wps at z; unfold Wmf; omega)
  have an0 : AN B 0 (0, [], [], []) (tbl B) := ⟨Nat.zero_le _, rfl⟩
  have ok0 : okS (0, [], [], []) := ⟨by decide, by decide, by decide, rfl, fun l hl => (by cases hl), fun l hl => (by cases hl), fun y => absurd y (by decide), fun y => absurd y (by decide), fun x hx => (by cases hx), List.nodup_nil⟩
  have ms0 : MPs g0 (0, [], [], []) := ⟨i21, i22, fun k l hl => (by cases hl), fun k l hl => (by cases hl), fun k x hx => (by cases hx)⟩
  refine md_next (d := d + 3) hM0 hB0 i15 an0 (fun g1 q1 ht1 ha1 hq1 hf1 => ?_)
  have hf1' : Fr Wps g0 g1 := hf1.up (fun c k z => by unfold Wnx at z; unfold Wps; omega)
  -- a fault
  have bad : ∀ g : PH, PB g (tbl B) → Fr Wmf h g → h_i g 17 12 = 0 → ∀ v1 v2, wpx (d + 5) P_Md_table 63 [.ref 17, v1, v2] [] g Q := fun g hb hf x12 v1 v2 => by
    have hM' := hf.md hM
    have f1 : Fr Wmf h (w_i g 17 17 (h_i g 17 19)) := hf.tr (Fr.wi _ _ (by unfold Wmf; omega))
    have hM1 := f1.md hM
    have n1 : ¬ h_i (w_i g 17 17 (h_i g 17 19)) 17 19 = 0 := by rw [wi_ne _ _ (by omega)]; exact hb.no
    have f2 : Fr Wmf h (w_i (w_i g 17 17 (h_i g 17 19)) 17 18 (h_i (w_i g 17 17 (h_i g 17 19)) 17 20)) := f1.tr (Fr.wi _ _ (by unfold Wmf; omega))
    have n2 : ¬ h_i (w_i (w_i g 17 17 (h_i g 17 19)) 17 18 (h_i (w_i g 17 17 (h_i g 17 19)) 17 20)) 17 19 = 0 := by rw [wi_ne _ _ (by omega)]; exact n1
    refine B_Md_table_63 hM'.1 (md_isGood hM1 (fun z => absurd z n1) (fun _ => B_Md_table_76 (fun _ => B_Md_table_83 hM1.1 (B_Md_table_87 hM1.1 hM1.1 (md_isGood (f2.md hM) (fun z => absurd z n2) (fun _ => B_Md_table_94 (fun z => absurd rfl z) (fun _ => B_Md_table_97 (k1 hb.2.1 _ ?_ ?_ ?_ f2)))))) (fun z => absurd rfl z)))
    · rw [wi_ne _ _ (by omega), wi_eq, hb.1]
    · rw [wi_eq, wi_ne _ _ (by omega), hb.2.2.2]
    · rw [wi_ne _ _ (by omega), wi_ne _ _ (by omega), x12]
  -- no fault
  have good : ∀ (g : PH) (s : PSt) (q : Nat), (tbl B).1 = 0 → (tbl B).2.2 = s → PG B g s q (tbl B) → Fr Wmf h g → h_i g 17 12 = 0 → ∀ v1 v2, wpx (d + 5) P_Md_table 63 [.ref 17, v1, v2] [] g Q := fun g s q ha0 has hg hf x12 v1 v2 => by
    obtain ⟨⟨b1, b2, b3, b4, b5⟩, _, h19, _, ho⟩ := hg
    have h14 := ho.2.2.1
    have hM' := hf.md hM
    have f1 : Fr Wmf h (w_i g 17 17 (h_i g 17 19)) := hf.tr (Fr.wi _ _ (by unfold Wmf; omega))
    have hM1 := f1.md hM
    have n1 : h_i (w_i g 17 17 (h_i g 17 19)) 17 19 = 0 := by rw [wi_ne _ _ (by omega)]; exact h19
    have f2 : Fr Wmf h (w_i (w_i g 17 17 (h_i g 17 19)) 17 18 (-1)) := f1.tr (Fr.wi _ _ (by unfold Wmf; omega))
    have fN : Fr (fun c k => c = 17 ∧ (k = 17 ∨ k = 18)) g (w_i (w_i g 17 17 (h_i g 17 19)) 17 18 (-1)) := (Fr.wi g _ ⟨rfl, Or.inl rfl⟩).tr (Fr.wi _ _ ⟨rfl, Or.inr rfl⟩)
    have n2 : h_i (w_i (w_i g 17 17 (h_i g 17 19)) 17 18 (-1)) 17 19 = 0 := by rw [wi_ne _ _ (by omega)]; exact n1
    have m17 : h_i (w_i (w_i g 17 17 (h_i g 17 19)) 17 18 (-1)) 17 17 = 0 := by rw [wi_ne _ _ (by omega), wi_eq, h19]
    have m18 : h_i (w_i (w_i g 17 17 (h_i g 17 19)) 17 18 (-1)) 17 18 = -1 := wi_eq _ _ _ _
    refine B_Md_table_63 hM'.1 (md_isGood hM1 (fun _ => B_Md_table_76 (fun z => absurd z (by decide)) (fun _ => B_Md_table_79 (B_Md_table_87 hM1.1 hM1.1 (md_isGood (f2.md hM) (fun _ => B_Md_table_94 (fun _ => ?_) (fun z => absurd z (by decide))) (fun z => absurd n2 z))))) (fun z => absurd n1 z))
    generalize w_i (w_i g 17 17 (h_i g 17 19)) 17 18 (-1) = g2 at f2 fN n2 m17 m18 ⊢
    have hM2 := f2.md hM
    refine B_Md_table_99 hM2.1 ?_
    have c22 : h_i g2 17 22 = nI s.2.2.1.length := (fN.i _ _ (by omega)).trans b2
    have c21 : h_i g2 17 21 = nI s.2.1.length := (fN.i _ _ (by omega)).trans b1
    rw [c22, wi_ne _ _ (by omega), c21, wi_ne _ _ (by omega), wi_eq, shl1 _ (by omega)]
    have f3 : Fr (fun c k => c = 17 ∧ (4 ≤ k ∧ k ≤ 6)) g2 (w_i (w_i (w_i g2 17 4 (nI s.2.2.1.length)) 17 5 (nI s.2.1.length)) 17 6 (nI (2 ^ s.2.2.1.length - 1))) := (Fr.wi g2 _ ⟨rfl, by omega⟩).tr ((Fr.wi _ _ ⟨rfl, by omega⟩).tr (Fr.wi _ _ ⟨rfl, by omega⟩))
    have d4 : h_i (w_i (w_i (w_i g2 17 4 (nI s.2.2.1.length)) 17 5 (nI s.2.1.length)) 17 6 (nI (2 ^ s.2.2.1.length - 1))) 17 4 = nI s.2.2.1.length := by rw [wi_ne _ _ (by omega), wi_ne _ _ (by omega), wi_eq]
    have d5 : h_i (w_i (w_i (w_i g2 17 4 (nI s.2.2.1.length)) 17 5 (nI s.2.1.length)) 17 6 (nI (2 ^ s.2.2.1.length - 1))) 17 5 = nI s.2.1.length := by rw [wi_ne _ _ (by omega), wi_eq]
    have d6 : h_i (w_i (w_i (w_i g2 17 4 (nI s.2.2.1.length)) 17 5 (nI s.2.1.length)) 17 6 (nI (2 ^ s.2.2.1.length - 1))) 17 6 = nI (2 ^ s.2.2.1.length - 1) := wi_eq _ _ _ _
    generalize w_i (w_i (w_i g2 17 4 (nI s.2.2.1.length)) 17 5 (nI s.2.1.length)) 17 6 (nI (2 ^ s.2.2.1.length - 1)) = g3 at f3 d4 d5 d6 ⊢
    have hp := Nat.two_pow_pos s.2.2.1.length
    have oldR : ∀ {g4 : PH}, Fr (fun c _ => 18 ≤ c ∧ c ≤ 20) g3 g4 → ∀ c k, (c = 23 ∨ c = 24 ∨ c = 25) → h_i g4 c k = h_i g c k := fun {g4} hf4 c k hc => by
      rw [hf4.i _ _ (by omega), f3.i _ _ (by omega), fN.i _ _ (by omega)]
    have outer : ∀ (e j : Nat) (g4 : PH) (v2 : Value), s.2.2.1.length - j = e → j ≤ s.2.2.1.length → Fr (fun c _ => 18 ≤ c ∧ c ≤ 20) g3 g4 → (∀ t l, t < j → s.2.2.1[t]? = some l → h_i g4 19 t = nI l.length ∧ ∀ i x, l[i]? = some x → h_i g4 18 (8 * t + i) = nI (x + 96)) → (∀ t, t < j → h_i g4 20 t = soF s.2.2.2 t) → wpx (d + 5) P_Md_table 129 [.ref 17, .int (nI j), v2] [] g4 Q := by
      intro e
      induction e with
      | zero =>
        intro j g4 v2 he hj hf4 hl hso
        have ej : j = s.2.2.1.length := by omega
        have hF4 : Fr Wmb h g4 := (f2.up (fun c k z => show Wmb c k from Or.inl z)).tr ((f3.up (fun c k z => by unfold Wmb; omega)).tr (hf4.up (fun c k z => by unfold Wmb; omega)))
        have hM4 := hF4.md hM
        have x4 : h_i g4 17 4 = nI s.2.2.1.length := (hf4.i _ _ (by omega)).trans d4
        refine B_Md_table_129 hM4.1 (fun _ => B_Md_table_207 hM4.1 ?_) (fun z => ?_)
        · have f5 : Fr (fun c k => c = 17 ∧ (k = 24 ∨ k = 76)) g4 (w_i (w_i g4 17 24 0) 17 76 0) := (Fr.wi g4 _ ⟨rfl, Or.inl rfl⟩).tr (Fr.wi _ _ ⟨rfl, Or.inr rfl⟩)
          have y24 : h_i (w_i (w_i g4 17 24 0) 17 76 0) 17 24 = 0 := by rw [wi_ne _ _ (by omega), wi_eq]
          have y76 : h_i (w_i (w_i g4 17 24 0) 17 76 0) 17 76 = 0 := wi_eq _ _ _ _
          generalize w_i (w_i g4 17 24 0) 17 76 0 = g5 at f5 y24 y76 ⊢
          have hF5 : Fr Wmb h g5 := hF4.tr (f5.up (fun c k z => by unfold Wmb; omega))
          refine md_another (d := d + 4) (hF5.md hM) (fun g6 f6 a25 a26 a70 => ?_)
          have hF6 : Fr Wmb h g6 := hF5.tr (f6.up (fun c k z => by unfold Wmb; omega))
          have old6 : ∀ c k, ¬ (c = 17 ∧ (k = 24 ∨ k = 76 ∨ k = 25 ∨ k = 26 ∨ k = 70)) → h_i g6 c k = h_i g4 c k := fun c k z => by rw [f6.i _ _ (by omega), f5.i _ _ (by omega)]
          refine B_Md_table_221 (hF6.md hM).1 ?_
          rw [old6 _ _ (by omega), x4]
          rw [has] at k2
          refine k2 ha0 g6 ho ?_ ?_ ?_ ⟨⟨h14, by omega, fun l hl' => ⟨(ho.2.2.2.2.2.1 l hl').r, (ho.2.2.2.2.2.1 l hl').2.2⟩⟩, (old6 _ _ (by omega)).trans x4, ?_, fun t l ht => ?_⟩ (fun t ht => ?_) ?_ ?_ ⟨⟨Nat.zero_le _, fun x hx => by cases hx⟩, ?_, fun j x hj => by cases hj⟩ a25 a26 a70 hF6
          · rw [old6 _ _ (by omega), hf4.i _ _ (by omega), f3.i _ _ (by omega)]
            exact m17
          · rw [old6 _ _ (by omega), hf4.i _ _ (by omega), f3.i _ _ (by omega)]
            exact m18
          · rw [old6 _ _ (by omega), hf4.i _ _ (by omega), f3.i _ _ (by omega), fN.i _ _ (by omega)]
            exact x12
          · rw [old6 _ _ (by omega), hf4.i _ _ (by omega)]
            exact d6
          · have hlt := (List.getElem?_eq_some_iff.mp ht).1
            obtain ⟨l1, l2⟩ := hl t l (by omega) ht
            exact ⟨(old6 _ _ (by omega)).trans l1, fun i x hx => (old6 _ _ (by omega)).trans (l2 i x hx)⟩
          · exact (old6 _ _ (by omega)).trans (hso t (by omega))
          · rw [old6 _ _ (by omega), hf4.i _ _ (by omega)]
            exact d5
          · rw [f6.i _ _ (by omega)]
            exact y76
          · rw [f6.i _ _ (by omega)]
            exact y24
        · rw [x4, nI_leI (by omega) (by omega)] at z
          omega
      | succ e ih =>
        intro j g4 v2 he hj hf4 hl hso
        have hF4 : Fr Wmb h g4 := (f2.up (fun c k z => show Wmb c k from Or.inl z)).tr ((f3.up (fun c k z => by unfold Wmb; omega)).tr (hf4.up (fun c k z => by unfold Wmb; omega)))
        have hM4 := hF4.md hM
        have x4 : h_i g4 17 4 = nI s.2.2.1.length := (hf4.i _ _ (by omega)).trans d4
        have gj : s.2.2.1[j]? = some s.2.2.1[j] := List.getElem?_eq_getElem (by omega)
        generalize s.2.2.1[j] = l at gj
        obtain ⟨l1, l2⟩ := b4 j l gj
        have hl6 := (ho.2.2.2.2.2.1 l (List.mem_of_getElem? gj)).2.1
        have hsl := ho.2.2.2.1
        have gs : s.2.2.2[j]? = some s.2.2.2[j] := List.getElem?_eq_getElem (by omega)
        have va : vp_in (nI j) 14 := vp_in_nI (by omega) (by omega)
        refine B_Md_table_129 hM4.1 (fun z => ?_) (fun _ => B_Md_table_137 hM4.1 (mr_size hM4) (mr_sizeRead hM4) (ms_sizeRead hM4) va (ms_size hM4) va (mr_soundOf hM4) (mr_soundRead hM4) (ms_soundRead hM4) va (ms_soundOf hM4) va ?_)
        · rw [x4, nI_leI (by omega) (by omega)] at z
          omega
        · rw [nI_clamp (by omega), oldR hf4 24 j (by omega), l1, wi_ne _ _ (by omega), oldR hf4 25 j (by omega), b5 j _ gs]
          have es : soF s.2.2.2 j = nI s.2.2.2[j] := by
            unfold soF
            rw [List.getD_eq_getElem?_getD, gs]
            rfl
          rw [← es]
          have f5 : Fr (fun c k => (c = 19 ∨ c = 20) ∧ k = j) g4 (w_i (w_i g4 19 j (nI l.length)) 20 j (soF s.2.2.2 j)) := (Fr.wi g4 _ ⟨Or.inl rfl, rfl⟩).tr (Fr.wi _ _ ⟨Or.inr rfl, rfl⟩)
          have z19 : h_i (w_i (w_i g4 19 j (nI l.length)) 20 j (soF s.2.2.2 j)) 19 j = nI l.length := by rw [wi_ne _ _ (by omega), wi_eq]
          have z20 : h_i (w_i (w_i g4 19 j (nI l.length)) 20 j (soF s.2.2.2 j)) 20 j = soF s.2.2.2 j := wi_eq _ _ _ _
          generalize w_i (w_i g4 19 j (nI l.length)) 20 j (soF s.2.2.2 j) = g5 at f5 z19 z20 ⊢
          have inner : ∀ (e2 i : Nat) (g6 : PH), l.length - i = e2 → i ≤ l.length → Fr (fun c k => c = 18 ∧ 8 * j ≤ k ∧ k < 8 * j + 8) g5 g6 → (∀ t x, t < i → l[t]? = some x → h_i g6 18 (8 * j + t) = nI (x + 96)) → wpx (d + 5) P_Md_table 163 [.ref 17, .int (nI j), .int (nI i)] [] g6 Q := by
            intro e2
            induction e2 with
            | zero =>
              intro i g6 he2 hi hf6 hl6'
              have hF6 : Fr Wmb h g6 := hF4.tr ((f5.up (fun c k z => by unfold Wmb; omega)).tr (hf6.up (fun c k z => by unfold Wmb; omega)))
              have hM6 := hF6.md hM
              have w19 : h_i g6 19 j = nI l.length := (hf6.i _ _ (by omega)).trans z19
              refine B_Md_table_163 hM6.1 (mr_size hM6) (ms_size hM6) va (fun _ => B_Md_table_201 ?_) (fun z => ?_)
              · rw [nI_1]
                refine ih (j + 1) g6 _ (by omega) (by omega) (hf4.tr ((f5.up (fun c k z => by omega)).tr (hf6.up (fun c k z => by omega)))) (fun t l' ht hl' => ?_) (fun t ht => ?_)
                · by_cases et : t = j
                  · subst et
                    rw [gj] at hl'
                    cases hl'
                    exact ⟨w19, fun i' x hx => hl6' i' x (by have := (List.getElem?_eq_some_iff.mp hx).1; omega) hx⟩
                  · obtain ⟨u1, u2⟩ := hl t l' (by omega) hl'
                    have hl7 := (ho.2.2.2.2.2.1 l' (List.mem_of_getElem? hl')).2.1
                    refine ⟨?_, fun i' x hx => ?_⟩
                    · rw [hf6.i _ _ (by omega), f5.i _ _ (by omega)]
                      exact u1
                    · have := (List.getElem?_eq_some_iff.mp hx).1
                      rw [hf6.i _ _ (by omega), f5.i _ _ (by omega)]
                      exact u2 i' x hx
                · by_cases et : t = j
                  · subst et
                    rw [hf6.i _ _ (by omega)]
                    exact z20
                  · rw [hf6.i _ _ (by omega), f5.i _ _ (by omega)]
                    exact hso t (by omega)
              · rw [nI_clamp (by omega), w19, nI_leI (by omega) (by omega)] at z
                omega
            | succ e2 ih2 =>
              intro i g6 he2 hi hf6 hl6'
              have hF6 : Fr Wmb h g6 := hF4.tr ((f5.up (fun c k z => by unfold Wmb; omega)).tr (hf6.up (fun c k z => by unfold Wmb; omega)))
              have hM6 := hF6.md hM
              have w19 : h_i g6 19 j = nI l.length := (hf6.i _ _ (by omega)).trans z19
              have gx : l[i]? = some l[i] := List.getElem?_eq_getElem (by omega)
              generalize l[i] = x at gx
              have e8 : (8 : Int32) * nI j + nI i = nI (8 * j + i) := by rw [show (8 : Int32) = nI 8 from rfl, nI_mulN, nI_add]
              have vb : vp_in (nI (8 * j + i)) 112 := vp_in_nI (by omega) (by omega)
              refine B_Md_table_163 hM6.1 (mr_size hM6) (ms_size hM6) va (fun z => ?_) (fun _ => B_Md_table_173 hM6.1 (mr_letters hM6) (mr_lettersRead hM6) (ms_lettersRead hM6) (by rw [e8]; exact vb) (ms_letters hM6) (by rw [e8]; exact vb) ?_)
              · rw [nI_clamp (by omega), w19, nI_leI (by omega) (by omega)] at z
                omega
              · have e23 : h_i g6 23 (8 * j + i) = nI (x + 96) := by
                  rw [hf6.i _ _ (by omega), f5.i _ _ (by omega), oldR hf4 23 _ (by omega)]
                  exact l2 i x gx
                rw [e8, nI_clamp (by omega), e23, nI_1]
                refine ih2 (i + 1) _ (by omega) (by omega) (hf6.tr (Fr.wi _ _ ⟨rfl, by omega⟩)) (fun t y ht hy => ?_)
                by_cases et : t = i
                · subst et
                  rw [gx] at hy
                  cases hy
                  exact wi_eq _ _ _ _
                · rw [wi_ne _ _ (by omega)]
                  exact hl6' t y (by omega) hy
          exact inner _ 0 g5 rfl (Nat.zero_le _) (Fr.rf _ _) (fun t x ht => absurd ht (by omega))
    exact outer _ 0 g3 _ rfl (Nat.zero_le _) (Fr.rf _ _) (fun t l ht => absurd ht (by omega)) (fun t ht => absurd ht (by omega))
  have x12 : ∀ {g : PH}, Fr Wps g0 g → h_i g 17 12 = 0 := fun hf => (hf.i _ _ (fun z => by unfold Wps at z; omega)).trans i12
  have loop : ∀ (e q : Nat) (s : PSt) (g : PH) (v1 v2 : Value), B.length - q ≤ e → s.1 = 0 → PG B g s q (tbl B) → Fr Wps g0 g → wpx (d + 5) P_Md_table 42 [.ref 17, v1, v2] [] g Q := by
    intro e
    induction e with
    | zero =>
      intro q s g v1 v2 he hs0 hg hf
      have hM' := hf.md hM0
      have hgg := hg
      obtain ⟨gs1, gt1, g19, ga1, go1⟩ := hg
      have hk : tkK B q = 0 := by
        unfold tkK
        rw [if_pos (by omega)]
      have hun := ga1.un
      rw [if_pos (by omega), if_pos hs0] at hun
      refine B_Md_table_42 hM'.1 (md_isGood hM' (fun _ => B_Md_table_46 (fun z => absurd z (by decide)) (fun _ => B_Md_table_49 hM'.1 (fun _ => good g s q (by rw [← hun]) (by rw [← hun]) hgg (hf0.tr (up hf)) (x12 hf) _ _) (fun z => ?_))) (fun z => absurd g19 z))
      rw [gt1.2.2.2.2, hk] at z
      exact absurd rfl z
    | succ e ih =>
      intro q s g v1 v2 he hs0 hg hf
      have hM' := hf.md hM0
      have hgg := hg
      obtain ⟨gs1, gt1, g19, ga1, go1⟩ := hg
      have hk3 := tkK_le B q
      refine B_Md_table_42 hM'.1 (md_isGood hM' (fun _ => B_Md_table_46 (fun z => absurd z (by decide)) (fun _ => B_Md_table_49 hM'.1 (fun z => ?_) (fun z => B_Md_table_56 hM'.1 ?_))) (fun z => absurd g19 z))
      · rw [gt1.2.2.2.2] at z
        have hk := (nI_eq (b := 0) (by omega) (by omega)).mp z
        have hq : B.length ≤ q := by
          unfold tkK at hk
          split at hk
          · assumption
          · split at hk
            · cases hk
            · split at hk <;> cases hk
        have hun := ga1.un
        rw [if_pos hq, if_pos hs0] at hun
        exact good g s q (by rw [← hun]) (by rw [← hun]) hgg (hf0.tr (up hf)) (x12 hf) _ _
      · rw [gt1.2.2.2.2] at z
        have hk : ¬ tkK B q = 0 := fun y => z (by rw [y]; rfl)
        refine md_readLine (d := d) hM' (wps_by hf hB0) hgg hs0 hk (fun g2 hout hf2 => B_Md_table_60 ?_)
        rcases hout with ⟨s', q', x1, x2, x3⟩ | x
        · exact ih q' s' g2 _ _ (by omega) x1 x3 (hf.tr hf2)
        · have hF := hf.tr hf2
          have hM2 := hF.md hM0
          exact B_Md_table_42 hM2.1 (md_isGood hM2 (fun z => absurd z x.no) (fun _ => B_Md_table_46 (fun _ => bad g2 x (hf0.tr (up hF)) (x12 hF) _ _) (fun z => absurd rfl z)))
  exact loop _ q1 (0, [], [], []) g1 _ _ (Nat.le_refl _) rfl ⟨ms0.fr hf1 (fun c k z => by unfold Wnx at z; omega), ht1, (hf1.i _ _ (fun z => by unfold Wnx at z; omega)).trans i19, ha1, ok0⟩ hf1'
