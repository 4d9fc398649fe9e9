/-! goes on the reference's side -/
def Wmg (c k : Nat) : Prop := (c = 17 ∧ k = 0) ∨ c = 41
theorem md_goes {d : Nat} {h : PH} {Q : PQ} {gs : List (List Nat)} {m : Nat} {w : List Nat} (hM : MdS h) (hw : MWd h w) (hg : MGr h gs m) (k : ∀ h', Fr Wmg h h' → Q (some (.int (goR gs m w))) h') : wpm (d + 2) 242 [.ref 17] h Q := by
  refine wpm_in P_Md_goes rfl (by decide) (by show ¬ 5 < 1; decide) ?_
  have h8 := hw.1.1
  have h14 := hg.1.1
  have hm := hg.1.m31
  have aw : ∀ {c k : Nat}, Wmg c k → ¬ ((c = 17 ∧ k = 24) ∨ c = 26) := fun q => by unfold Wmg at q; omega
  have ag : ∀ {c k : Nat}, Wmg c k → ¬ ((c = 17 ∧ (k = 4 ∨ k = 6)) ∨ c = 18 ∨ c = 19) := fun q => by unfold Wmg at q; omega
  have outer : ∀ (c p : Nat) (g : PH) (v3 v4 : Value), w.length - p = c → p ≤ w.length → Fr Wmg h g → Rch g 41 w.length (gP gs m w p).2 → wpx (d + 1) P_Md_goes 40 [.ref 17, .int (nI (gP gs m w p).1), .int (nI p), v3, v4] [] g Q := by
    intro c
    induction c with
    | zero =>
      intro p g v3 v4 hc hp hf hr
      have hM' := hf.md hM
      have hw' : MWd g w := hw.fr hf (fun c k q => aw q)
      have ep : p = w.length := by omega
      refine B_Md_goes_40 hM'.1 (fun _ => B_Md_goes_183 ?_) (fun q => ?_)
      · rw [ep]
        exact k g hf
      · rw [hw'.2.1, nI_leI (by omega) (by omega)] at q
        omega
    | succ c ih =>
      intro p g v3 v4 hc hp hf hr
      have hM' := hf.md hM
      have hw' : MWd g w := hw.fr hf (fun c k q => aw q)
      have hg' : MGr g gs m := hg.fr hf (fun c k q => ag q)
      refine B_Md_goes_40 hM'.1 (fun q => ?_) (fun _ => B_Md_goes_48 ?_)
      · rw [hw'.2.1, nI_leI (by omega) (by omega)] at q
        omega
      · by_cases qr : (gP gs m w p).2 p = true
        · have inner : ∀ (e j : Nat) (g : PH) (v4 : Value), gs.length - j = e → j ≤ gs.length → Fr Wmg h g → Rch g 41 w.length (gN gs m w p (gP gs m w p) j).2 → wpx (d + 1) P_Md_goes 50 [.ref 17, .int (nI (gN gs m w p (gP gs m w p) j).1), .int (nI p), .int (nI j), v4] [] g Q := by
            intro e
            induction e with
            | zero =>
              intro j g v4 he hj hf hr
              have hM' := hf.md hM
              have hg' : MGr g gs m := hg.fr hf (fun c k q => ag q)
              have ej : j = gs.length := by omega
              refine B_Md_goes_50 hM'.1 (fun _ => B_Md_goes_177 ?_) (fun q => ?_)
              · rw [nI_1]
                have e2 : gP gs m w (p + 1) = gN gs m w p (gP gs m w p) j := by
                  rw [ej]
                  show (if _ then _ else _) = _
                  rw [if_pos qr]
                rw [← e2] at hr ⊢
                exact ih (p + 1) g _ _ (by omega) (by omega) hf hr
              · rw [hg'.2.1, nI_leI (by omega) (by omega)] at q
                omega
            | succ e ihe =>
              intro j g v4 he hj hf hr
              have hM' := hf.md hM
              have hw' : MWd g w := hw.fr hf (fun c k q => aw q)
              have hg' : MGr g gs m := hg.fr hf (fun c k q => ag q)
              have gj : gs[j]? = some gs[j] := List.getElem?_eq_getElem (by omega)
              generalize gs[j] = l at gj
              have el : gs.getD j [] = l := by rw [List.getD_eq_getElem?_getD, gj]; rfl
              obtain ⟨a1, a2, a3⟩ := hg.1.at gj
              have h7 := a1.2
              have va : vp_in (nI j) 14 := vp_in_nI a3 (by omega)
              have hcl := cpl_leR l (w.drop p)
              rw [List.length_drop] at hcl
              have hsl := gN_le (gs := gs) (m := m) (w := w) (p := p) (s := gP gs m w p) (by omega) (gP_le p (by omega)) j
              have hup : p ≤ (gN gs m w p (gP gs m w p) j).1 := gN_ok (gP_ok p) j p (gN_up qr j)
              -- behind the count of letters
              have last : ∀ n : Nat, p + n ≤ w.length → n ≤ 7 → (n = l.length → wpx (d + 1) P_Md_goes 50 [.ref 17, .int (nI (max (gN gs m w p (gP gs m w p) j).1 (p + n))), .int (nI p), .int (nI (j + 1)), .int (nI n)] [] (w_i g 41 (p + n) 1) Q) → (n ≠ l.length → wpx (d + 1) P_Md_goes 50 [.ref 17, .int (nI (max (gN gs m w p (gP gs m w p) j).1 (p + n))), .int (nI p), .int (nI (j + 1)), .int (nI n)] [] g Q) → wpx (d + 1) P_Md_goes 128 [.ref 17, .int (nI (gN gs m w p (gP gs m w p) j).1), .int (nI p), .int (nI j), .int (nI n)] [] g Q := by
                intro n hn hn7 k1 k2
                have r144 : wpx (d + 1) P_Md_goes 144 [.ref 17, .int (nI (gN gs m w p (gP gs m w p) j).1), .int (nI p), .int (nI j), .int (nI n)] [.int (nI (max (gN gs m w p (gP gs m w p) j).1 (p + n)))] g Q := by
                  refine B_Md_goes_144 (fun q => B_Md_goes_171 ?_) (fun _ => ?_)
                  · have : n ≤ 0 := (nI_leI (b := 0) (by omega) (by omega)).mp q
                    rw [nI_1]
                    exact k2 (by omega)
                  · refine B_Md_goes_150 hM'.1 (mr_size hM') (ms_size hM') va (fun q => B_Md_goes_171 ?_) (fun q => ?_)
                    · rw [nI_clamp (by omega), (hg'.2.2.2 j l gj).1, nI_eq (by omega) (by omega)] at q
                      rw [nI_1]
                      exact k2 q
                    · rw [nI_clamp (by omega), (hg'.2.2.2 j l gj).1, nI_eq (by omega) (by omega)] at q
                      refine B_Md_goes_161 hM'.1 (mr_comesTo hM') (ms_comesTo hM') (by rw [nI_add]; exact vp_in_nI (by omega) (by omega)) (B_Md_goes_171 ?_)
                      rw [nI_1, nI_add, nI_clamp (by omega), b11]
                      exact k1 q
                refine B_Md_goes_128 (fun q => B_Md_goes_143 ?_) (fun q => B_Md_goes_136 ?_)
                · rw [nI_add, nI_leI (by omega) (by omega)] at q
                  rw [show max (gN gs m w p (gP gs m w p) j).1 (p + n) = (gN gs m w p (gP gs m w p) j).1 by omega] at r144
                  exact r144
                · rw [nI_add, nI_leI (by omega) (by omega)] at q
                  rw [show max (gN gs m w p (gP gs m w p) j).1 (p + n) = p + n by omega] at r144
                  rw [nI_add]
                  exact r144
              refine B_Md_goes_50 hM'.1 (fun q => ?_) (fun _ => ?_)
              · rw [hg'.2.1, nI_leI (by omega) (by omega)] at q
                omega
              · refine B_Md_goes_58 hM'.1 (mr_comesTo hM') (ms_comesTo hM') (vp_in_nI (by omega) (by omega)) (fun q => ?_) (fun _ => B_Md_goes_67 ?_)
                · rw [nI_clamp (by omega), hr p (by omega), if_pos (gN_up qr j)] at q
                  exact absurd q (by decide)
                · by_cases q : inm m j
                  · have e1 : (gN gs m w p (gP gs m w p) (j + 1)).1 = max (gN gs m w p (gP gs m w p) j).1 (p + cpl l (w.drop p)) := by
                      show (g1 gs m w p _ j).1 = _
                      unfold g1
                      rw [if_pos q, el]
                    have e2 : (gN gs m w p (gP gs m w p) (j + 1)).2 = if cpl l (w.drop p) = l.length then (fun i => if i = p + l.length then true else (gN gs m w p (gP gs m w p) j).2 i) else (gN gs m w p (gP gs m w p) j).2 := by
                      show (g1 gs m w p _ j).2 = _
                      unfold g1
                      rw [if_pos q, el]
                    have stop : ∀ n : Nat, n ≤ l.length → p + n ≤ w.length → (∀ t, t < n → l[t]? = (w.drop p)[t]?) → (n = l.length ∨ n = (w.drop p).length ∨ l[n]? ≠ (w.drop p)[n]?) → wpx (d + 1) P_Md_goes 128 [.ref 17, .int (nI (gN gs m w p (gP gs m w p) j).1), .int (nI p), .int (nI j), .int (nI n)] [] g Q := by
                      intro n h1 h2 h3 h4
                      have ec := cpl_eq n l (w.drop p) h1 (by rw [List.length_drop]; omega) h3 h4
                      refine last n h2 (by omega) (fun z => ?_) (fun z => ?_)
                      · rw [← ec, ← e1]
                        refine ihe (j + 1) _ _ (by omega) (by omega) (hf.tr (Fr.wi _ _ (Or.inr rfl))) (fun i hi => ?_)
                        rw [e2, if_pos (show cpl l (w.drop p) = l.length by omega)]
                        by_cases e3 : i = p + l.length
                        · rw [show p + cpl l (w.drop p) = i by omega, wi_eq, if_pos]
                          show (if _ then _ else _) = true
                          rw [if_pos e3]
                        · rw [wi_ne _ _ (by omega), hr i hi]
                          show (if _ then _ else _) = (if (if _ then _ else _) = true then _ else _)
                          rw [if_neg e3]
                      · rw [← ec, ← e1]
                        refine ihe (j + 1) _ _ (by omega) (by omega) hf ?_
                        rw [e2, if_neg (show ¬ cpl l (w.drop p) = l.length by omega)]
                        exact hr
                    have loop : ∀ (c n : Nat), l.length - n = c → n ≤ l.length → p + n ≤ w.length → (∀ t, t < n → l[t]? = (w.drop p)[t]?) → wpx (d + 1) P_Md_goes 70 [.ref 17, .int (nI (gN gs m w p (gP gs m w p) j).1), .int (nI p), .int (nI j), .int (nI n)] [] g Q := by
                      intro c
                      induction c with
                      | zero =>
                        intro n hc h1 h2 h3
                        refine B_Md_goes_70 hM'.1 ?_
                        rw [hg'.2.2.1]
                        refine md_isOf hm (by omega) (fun _ => ?_) (fun z => absurd q z)
                        refine B_Md_goes_78 (fun z => absurd z (by decide)) (fun _ => ?_)
                        refine B_Md_goes_81 hM'.1 (mr_size hM') (ms_size hM') va (fun _ => stop n h1 h2 h3 (Or.inl (by omega))) (fun z => ?_)
                        rw [nI_clamp (by omega), (hg'.2.2.2 j l gj).1, nI_leI (by omega) (by omega)] at z
                        omega
                      | succ c ih =>
                        intro n hc h1 h2 h3
                        refine B_Md_goes_70 hM'.1 ?_
                        rw [hg'.2.2.1]
                        refine md_isOf hm (by omega) (fun _ => ?_) (fun z => absurd q z)
                        refine B_Md_goes_78 (fun z => absurd z (by decide)) (fun _ => ?_)
                        refine B_Md_goes_81 hM'.1 (mr_size hM') (ms_size hM') va (fun z => ?_) (fun _ => ?_)
                        · rw [nI_clamp (by omega), (hg'.2.2.2 j l gj).1, nI_leI (by omega) (by omega)] at z
                          omega
                        · refine B_Md_goes_92 hM'.1 (fun z => ?_) (fun z => ?_)
                          · rw [hw'.2.1, nI_add, nI_leI (by omega) (by omega)] at z
                            exact stop n h1 h2 h3 (Or.inr (Or.inl (by rw [List.length_drop]; omega)))
                          · rw [hw'.2.1, nI_add, nI_leI (by omega) (by omega)] at z
                            have gl : l[n]? = some l[n] := List.getElem?_eq_getElem (by omega)
                            have gw : w[p + n]? = some w[p + n] := List.getElem?_eq_getElem (by omega)
                            have xl := (a1.1 _ (List.mem_of_getElem? gl)).2
                            have xw := (hw.1.2 _ (List.mem_of_getElem? gw)).2
                            refine B_Md_goes_103 hM'.1 (mr_word hM') (ms_word hM') (by rw [nI_add]; exact vp_in_nI (by omega) (by omega)) (md_letterAt hM' (by omega) ?_)
                            rw [nI_add, nI_clamp (by omega), hw'.2.2 _ _ gw, (hg'.2.2.2 j l gj).2 _ _ gl]
                            refine B_Md_goes_119 (fun e => ?_) (fun e => ?_)
                            · rw [nI_eq (by omega) (by omega)] at e
                              exact stop n h1 h2 h3 (Or.inr (Or.inr (by rw [List.getElem?_drop, gl, gw]; intro z; have := Option.some.inj z; omega)))
                            · rw [nI_eq (by omega) (by omega)] at e
                              refine B_Md_goes_122 ?_
                              rw [nI_1]
                              refine ih (n + 1) (by omega) (by omega) (by omega) (fun t ht => ?_)
                              by_cases h9 : t = n
                              · subst h9
                                rw [List.getElem?_drop, gl, gw]
                                congr 1
                                omega
                              · exact h3 t (by omega)
                    exact loop _ 0 rfl (by omega) (by omega) (fun t ht => absurd ht (by omega))
                  · have e1 : gN gs m w p (gP gs m w p) (j + 1) = gN gs m w p (gP gs m w p) j := by
                      show g1 gs m w p _ j = _
                      unfold g1
                      rw [if_neg q]
                    refine B_Md_goes_70 hM'.1 ?_
                    rw [hg'.2.2.1]
                    refine md_isOf hm (by omega) (fun z => absurd z q) (fun _ => ?_)
                    refine B_Md_goes_78 (fun _ => ?_) (fun z => absurd rfl z)
                    refine last 0 (by omega) (by omega) (fun z => by omega) (fun _ => ?_)
                    rw [show max (gN gs m w p (gP gs m w p) j).1 (p + 0) = (gN gs m w p (gP gs m w p) j).1 by omega, ← e1]
                    refine ihe (j + 1) g _ (by omega) (by omega) hf ?_
                    rw [e1]
                    exact hr
          exact inner _ 0 g v4 rfl (Nat.zero_le _) hf hr
        · have e2 : gP gs m w (p + 1) = gP gs m w p := by
            show (if _ then _ else _) = _
            rw [if_neg qr]
          have last : ∀ v4 : Value, wpx (d + 1) P_Md_goes 177 [.ref 17, .int (nI (gP gs m w p).1), .int (nI p), .int 0, v4] [] g Q := fun v4 => by
            refine B_Md_goes_177 ?_
            rw [nI_1]
            rw [← e2] at hr ⊢
            exact ih (p + 1) g _ _ (by omega) (by omega) hf hr
          refine B_Md_goes_50 hM'.1 (fun _ => last v4) (fun _ => ?_)
          refine B_Md_goes_58 hM'.1 (mr_comesTo hM') (ms_comesTo hM') (vp_in_nI (by omega) (by omega)) (fun _ => last v4) (fun q => ?_)
          rw [nI_clamp (by omega), hr p (by omega), if_neg qr] at q
          exact absurd rfl q
  have lay : ∀ (c j : Nat) (g : PH) (v3 v4 : Value), w.length + 1 - j = c → j ≤ w.length + 1 → Fr Wmg h g → (∀ i, i < j → h_i g 41 i = if i = 0 then 1 else 0) → wpx (d + 1) P_Md_goes 9 [.ref 17, .int 0, .int (nI j), v3, v4] [] g Q := by
    intro c
    induction c with
    | zero =>
      intro j g v3 v4 hc hj hf hr
      have hM' := hf.md hM
      have hw' : MWd g w := hw.fr hf (fun c k q => aw q)
      refine B_Md_goes_9 hM'.1 (fun _ => B_Md_goes_38 (outer _ 0 g v3 v4 rfl (Nat.zero_le _) hf (fun i hi => ?_))) (fun q => ?_)
      · rw [hr i (by omega)]
        rw [show (gP gs m w 0).2 i = decide (i = 0) from rfl]
        by_cases e : i = 0
        · rw [if_pos e, if_pos (decide_eq_true e)]
        · rw [if_neg e, if_neg (fun z => e (of_decide_eq_true z))]
      · rw [hw'.2.1, nI_ltI (by omega) (by omega)] at q
        omega
    | succ c ih =>
      intro j g v3 v4 hc hj hf hr
      have hM' := hf.md hM
      have hw' : MWd g w := hw.fr hf (fun c k q => aw q)
      refine B_Md_goes_9 hM'.1 (fun q => ?_) (fun _ => ?_)
      · rw [hw'.2.1, nI_ltI (by omega) (by omega)] at q
        omega
      · have next : ∀ b : Int32, b = (if j = 0 then 1 else 0) → wpx (d + 1) P_Md_goes 31 [.ref 17, .int 0, .int (nI j), v3, v4] [.int b, .int (nI j), .ref 41] g Q := by
          intro b hb
          refine B_Md_goes_31 (ms_comesTo hM') (vp_in_nI (by omega) (by omega)) ?_
          rw [nI_1, nI_clamp (by omega)]
          refine ih (j + 1) _ v3 v4 (by omega) (by omega) (hf.tr (Fr.wi _ _ (Or.inr rfl))) (fun i hi => ?_)
          by_cases e : i = j
          · rw [e, wi_eq, hb]
            split <;> decide
          · rw [wi_ne _ _ (by omega)]
            exact hr i (by omega)
        refine B_Md_goes_17 hM'.1 (mr_comesTo hM') (fun q => B_Md_goes_30 (next 0 ?_)) (fun q => B_Md_goes_26 (next 1 ?_))
        · rw [if_neg]
          intro z
          subst z
          exact q rfl
        · rw [if_pos]
          exact (nI_eq (b := 0) (by omega) (by omega)).mp q
  refine B_Md_goes_0 hM.1 ?_
  exact lay _ 0 _ _ _ rfl (Nat.zero_le _) (Fr.wi _ _ (Or.inl ⟨rfl, rfl⟩)) (fun i hi => absurd hi (by omega))
