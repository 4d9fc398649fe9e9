/-! fool on the reference's side: what covers each tail -/
def cvG (gs : List (List Nat)) (m : Nat) (r : List Nat) (k : Nat) (w : List Nat) : Prop := inm m k ∧ ((∃ x, gs.getD k [] = r ++ x ∧ w = gs.getD k []) ∨ ∃ s w', s ≠ [] ∧ r = gs.getD k [] ++ s ∧ cv gs m s w' ∧ w = gs.getD k [] ++ w')
theorem cv_G {gs : List (List Nat)} {m : Nat} {r w : List Nat} : cv gs m r w ↔ ∃ k, k < gs.length ∧ cvG gs m r k w := by
  rw [cv_un]
  constructor
  · rintro ⟨l, ⟨k, k1, k2⟩, h⟩
    refine ⟨k, gL k1, k2, ?_⟩
    rw [gD k1]
    exact h
  · rintro ⟨k, k1, k2, h⟩
    exact ⟨_, ⟨k, gS k1, k2⟩, h⟩
def CvO (h : PH) (t : Nat) (o : Option (List Nat)) : Prop := SRw h 38 (30 * t) 39 t o ∧ ∀ b, o = some b → b.length ≤ 13
def Wcb (t c k : Nat) : Prop := Wtr c k ∨ (c = 38 ∧ 30 * t ≤ k ∧ k < 30 * t + 30) ∨ (c = 39 ∧ k = t)
theorem CvO.fr {W : Nat → Nat → Prop} {h h' : PH} {t : Nat} {o : Option (List Nat)} (hf : Fr W h h') (hw : ∀ c k, W c k → ¬ ((c = 38 ∧ 30 * t ≤ k ∧ k < 30 * t + 30) ∨ (c = 39 ∧ k = t))) (hc : CvO h t o) : CvO h' t o :=
  ⟨hc.1.fr hf (fun z => hw _ _ z (Or.inr ⟨rfl, rfl⟩)) (fun b hb i hi z => hw _ _ z (Or.inl ⟨rfl, by omega, by have := hc.2 b hb; omega⟩)), hc.2⟩
theorem md_coversBy {d : Nat} {h : PH} {Q : PQ} {gs : List (List Nat)} {m t g : Nat} {e : Nat × Nat} {S : List Nat → Prop} {o : Option (List Nat)} (hM : MdS h) (hg : MGr h gs m) (hT : MTl h gs m) (ht : (ENs gs m)[t]? = some e) (hgl : g < gs.length) (hC : ∀ u f, (ENs gs m)[u]? = some f → (rwE gs f).length < (rwE gs e).length → ∃ o, lst (cv gs m (rwE gs f)) o ∧ CvO h u o) (hS : lst S o) (hO : CvO h t o) (k : ∀ h' o', lst (fun w => S w ∨ cvG gs m (rwE gs e) g w) o' → CvO h' t o' → Fr (Wcb t) h h' → Q none h') : wpm (d + 3) 238 [.ref 17, .int (nI t), .int (nI g)] h Q := by
  refine wpm_in P_Md_coversBy rfl (by decide) (by show ¬ 6 < 3; decide) (B_Md_coversBy_0 hM.1 ?_)
  have ho := hg.1
  have N84 := ENs_len (gs := gs) (m := m) ho
  have tl := (List.getElem?_eq_some_iff.mp ht).1
  obtain ⟨le, e1, e2, e3, e4, e5, e6⟩ := hT.1.at ht
  have gj := gS hgl
  obtain ⟨l1, l2, l3⟩ := ho.at gj
  obtain ⟨a1, a2, a3⟩ := ho.at e1
  have l7 := l1.2
  have a7 := a1.2
  have r6 : (rwE gs e).length ≤ 6 := by
    have := (ENs_in e (List.mem_of_getElem? ht)).2
    rw [e3, List.length_drop]
    omega
  have r0 : 0 < (rwE gs e).length := by
    rw [e3, List.length_drop]
    omega
  have rne : rwE gs e ≠ [] := List.length_pos_iff.mp r0
  have vt : vp_in (nI t) 100 := vp_in_nI (by omega) (by omega)
  have vg : vp_in (nI g) 14 := vp_in_nI l3 (by omega)
  -- the group gives nothing
  have no : (∀ w, ¬ cvG gs m (rwE gs e) g w) → Q none h := fun hn => k h o (lst_up hS (fun w => ⟨Or.inl, fun z => z.elim id (fun y => absurd y (hn w))⟩)) hO (Fr.rf _ _)
  rw [hg.2.2.1]
  refine md_isOf ho.m31 (by omega) (fun q => B_Md_coversBy_8 (fun _ => B_Md_coversBy_12 hM.1 (mr_tailGroup hM) (ms_tailGroup hM) vt (mr_tailAt hM) (ms_tailAt hM) vt ?_) (fun z => absurd z (by decide))) (fun q => B_Md_coversBy_8 (fun z => absurd rfl z) (fun _ => B_Md_coversBy_11 (no (fun w z => q z.1))))
  rw [nI_clamp (by omega), e5, e6]
  refine md_alike hM hg gj e1 (i := 0) (Nat.zero_le _) (by omega) ?_
  rw [List.drop_zero, ← e3]
  have c1 := cpl_len (gs.getD g []) (rwE gs e)
  have c2 := cpl_len (rwE gs e) (gs.getD g [])
  rw [cpl_comm (rwE gs e) (gs.getD g [])] at c2
  have c3 := cpl_le (gs.getD g []) (rwE gs e)
  have c4 := cpl_le (rwE gs e) (gs.getD g [])
  rw [cpl_comm (rwE gs e) (gs.getD g [])] at c4
  have sz : h_i h 19 (nI g).toNatClampNeg = nI (gs.getD g []).length := by
    rw [nI_clamp (by omega)]
    exact (hg.2.2.2 _ _ gj).1
  -- a trial laid down, if it is better
  have store : ∀ (w : List Nat) (g1 : PH) (x3 x4 x5 : Int32), MTr g1 w → lets w → w.length ≤ 13 → Fr Wtr h g1 → cvG gs m (rwE gs e) g w → (∀ w', cvG gs m (rwE gs e) g w' → pkN w ≤ pkN w') → wpx (d + 2) P_Md_coversBy 173 [.ref 17, .int (nI t), .int (nI g), .int x3, .int x4, .int x5] [] g1 Q := by
    intro w g1 x3 x4 x5 hW lw w13 hf hw hmin
    have hM1 := hf.md hM
    have hO1 : CvO g1 t o := hO.fr hf (fun c k z => by unfold Wtr at z; omega)
    have lad := lst_adds (S := S) hS hw hmin
    have e30 : ((30 : Int32) * nI t) = nI (30 * t) := by rw [show (30 : Int32) = nI 30 from rfl, nI_mulN]
    refine B_Md_coversBy_173 hM1.1 (mr_cover hM1) (mr_coverSize hM1) (ms_coverSize hM1) vt ?_
    rw [e30, nI_clamp (by omega)]
    refine md_isBefore hM1 hW lw (ms_cover hM1) (by omega) hO1.1 (fun b hb => ⟨by have := hO1.2 b hb; omega, by have := hO1.2 b hb; omega⟩) (fun z => ?_) (fun z => ?_)
    · rw [bet_t z] at lad
      refine B_Md_coversBy_191 (fun y => absurd y (by decide)) (fun _ => B_Md_coversBy_194 ?_)
      have loop : ∀ (c i : Nat) (g2 : PH), w.length - i = c → i ≤ w.length → Fr (fun c k => c = 38 ∧ 30 * t ≤ k ∧ k < 30 * t + 30) g1 g2 → (∀ j x, j < i → w[j]? = some x → h_i g2 38 (30 * t + j) = nI (x + 96)) → wpx (d + 2) P_Md_coversBy 197 [.ref 17, .int (nI t), .int (nI g), .int x3, .int x4, .int (nI i)] [] g2 Q := by
        intro c
        induction c with
        | zero =>
          intro i g2 hc hi hf2 hx
          have hMg := hf2.md hM1
          have st : h_i g2 17 38 = nI w.length := (hf2.i _ _ (by omega)).trans hW.2.1
          refine B_Md_coversBy_197 hMg.1 (fun _ => B_Md_coversBy_231 hMg.1 (mr_coverSize hMg) (ms_coverSize hMg) vt (B_Md_coversBy_241 ?_)) (fun q => ?_)
          · rw [nI_clamp (by omega), st]
            refine k _ (some w) lad ⟨⟨lw, wi_eq _ _ _ _, fun j x hj => ?_⟩, fun b hb => by rw [← Option.some.inj hb]; exact w13⟩ ((hf.up (fun c k y => Or.inl y)).tr ((hf2.up (fun c k y => Or.inr (Or.inl y))).tr (Fr.wi _ _ (Or.inr (Or.inr ⟨rfl, rfl⟩)))))
            rw [wi_ne _ _ (by omega)]
            exact hx j x (by have := (List.getElem?_eq_some_iff.mp hj).1; omega) hj
          · rw [st, nI_leI (by omega) (by omega)] at q
            omega
        | succ c ih =>
          intro i g2 hc hi hf2 hx
          have hMg := hf2.md hM1
          have gw : w[i]? = some w[i] := List.getElem?_eq_getElem (by omega)
          have st : h_i g2 17 38 = nI w.length := (hf2.i _ _ (by omega)).trans hW.2.1
          have tr : h_i g2 34 i = nI (w[i] + 96) := (hf2.i _ _ (by omega)).trans (hW.2.2 _ _ gw)
          have va : vp_in (((30 : Int32) * nI t) + nI i) 3000 := by
            rw [e30, nI_add]
            exact vp_in_nI (by omega) (by omega)
          refine B_Md_coversBy_197 hMg.1 (fun q => ?_) (fun _ => B_Md_coversBy_206 hMg.1 (mr_cover hMg) (mr_trial hMg) (ms_trial hMg) (vp_in_nI (by omega) (by omega)) (ms_cover hMg) va ?_)
          · rw [st, nI_leI (by omega) (by omega)] at q
            omega
          · rw [e30, nI_add, nI_clamp (by omega), nI_clamp (by omega), tr, nI_1]
            refine ih (i + 1) _ (by omega) (by omega) (hf2.tr (Fr.wi g2 _ ⟨rfl, by omega, by omega⟩)) (fun j x hj hx' => ?_)
            by_cases y : j = i
            · rw [y, gw] at hx'
              rw [y, wi_eq, Option.some.inj hx']
            · rw [wi_ne _ _ (by omega)]
              exact hx j x (by omega) hx'
      exact loop w.length 0 g1 rfl (Nat.zero_le _) (Fr.rf _ _) (fun j x hj => absurd hj (Nat.not_lt_zero _))
    · rw [bet_f z] at lad
      exact B_Md_coversBy_191 (fun _ => B_Md_coversBy_241 (k g1 o lad hO1 (hf.up (fun c k y => Or.inl y)))) (fun y => absurd rfl y)
  have tr0 : MTr (w_i h 17 38 0) [] := ⟨Nat.zero_le _, wi_eq _ _ _ _, fun j x hj => by cases hj⟩
  have f0 : Fr Wtr h (w_i h 17 38 0) := Fr.wi h _ (Or.inl ⟨rfl, rfl⟩)
  have hg0 : MGr (w_i h 17 38 0) gs m := MGr.fr f0 wtr_g hg
  -- without a rest
  have at77 : ¬ (gs.getD g [] = (rwE gs e).take (gs.getD g []).length ∧ (gs.getD g []).length < (rwE gs e).length) → wpx (d + 2) P_Md_coversBy 76 [.ref 17, .int (nI t), .int (nI g), .int (nI (cpl (gs.getD g []) (rwE gs e))), .retAddr 0, .retAddr 0] [] h Q := fun hno => by
    refine B_Md_coversBy_76 (B_Md_coversBy_77 hM.1 (md_tailSize hM hg hT.1 ht (B_Md_coversBy_85 (fun z => ?_) (fun z => B_Md_coversBy_88 (fun _ => B_Md_coversBy_103 (no (fun w y => ?_))) (fun y => absurd (by decide) y)))))
    · rw [nI_leI (by omega) (by omega)] at z
      have ep := c2.mp (by omega)
      refine B_Md_coversBy_104 hM.1 (md_tries (f0.md hM) hg0 tr0 gj (f := 0) (Nat.zero_le _) (by show 0 + _ ≤ _; omega) (fun g1 t1 f1 => B_Md_coversBy_115 (B_Md_coversBy_118 (fun _ => ?_) (fun y => absurd (by decide) y))))
      rw [List.drop_zero, List.nil_append] at t1
      refine store _ g1 _ _ _ t1 l1.1 (by omega) (f0.tr f1) ⟨q, Or.inl ⟨_, tak_app ep, rfl⟩⟩ (fun w' hw' => ?_)
      rcases hw'.2 with ⟨x, _, u2⟩ | ⟨s, w'', s0, s1, _⟩
      · rw [u2]
        exact Nat.le_refl _
      · have u := congrArg List.length s1
        rw [List.length_append] at u
        have := List.length_pos_iff.mpr s0
        have v := congrArg List.length ep
        rw [List.length_take] at v
        omega
    · rw [nI_leI (by omega) (by omega)] at z
      rcases y.2 with ⟨x, u1, _⟩ | ⟨s, w'', s0, s1, _⟩
      · exact z (by rw [c2.mpr (by rw [u1, List.take_left])]; exact Nat.le_refl _)
      · have u := congrArg List.length s1
        rw [List.length_append] at u
        have := List.length_pos_iff.mpr s0
        exact hno ⟨by rw [s1, List.take_left], by omega⟩
  refine B_Md_coversBy_30 hM.1 (mr_size hM) (ms_size hM) vg (fun z => ?_) (fun z => ?_)
  · rw [sz, nI_eq (by omega) (by omega)] at z
    exact at77 (fun y => z (c1.mpr y.1))
  · rw [sz, nI_eq (by omega) (by omega)] at z
    have ep := c1.mp z
    refine B_Md_coversBy_41 hM.1 (md_tailSize hM hg hT.1 ht (B_Md_coversBy_47 (fun y => ?_) (fun y => ?_)))
    · rw [nI_leI (by omega) (by omega)] at y
      exact at77 (fun w => by omega)
    · rw [nI_leI (by omega) (by omega)] at y
      have ll : (gs.getD g []).length < (rwE gs e).length := by omega
      obtain ⟨u, f, u1, u2, u3⟩ := hT.2.1 e.1 le (e.2 + (gs.getD g []).length) e1 (ENs_in e (List.mem_of_getElem? ht)).1 (by omega) (by rw [e3, List.length_drop] at ll; omega) (Or.inl (gL e1))
      have ul := (List.getElem?_eq_some_iff.mp u1).1
      have er : rwE gs f = (rwE gs e).drop (gs.getD g []).length := by rw [u2, e3, List.drop_drop]
      have es := tak_app ep
      rw [← er] at es
      have fl : (rwE gs f).length < (rwE gs e).length := by
        rw [er, List.length_drop]
        omega
      have f1' : rwE gs f ≠ [] := List.length_pos_iff.mp (by rw [er, List.length_drop]; omega)
      have e27 : h_i h 27 (nI t).toNatClampNeg = nI e.1 := by rw [nI_clamp (by omega)]; exact e5
      have e28 : h_i h 28 (nI t).toNatClampNeg = nI e.2 := by rw [nI_clamp (by omega)]; exact e6
      have e8 : (((8 : Int32) * h_i h 27 (nI t).toNatClampNeg) + h_i h 28 (nI t).toNatClampNeg) + nI (cpl (gs.getD g []) (rwE gs e)) = nI (8 * e.1 + (e.2 + (gs.getD g []).length)) := by rw [e27, e28, z, show (8 : Int32) = nI 8 from rfl, nI_mulN, nI_add, nI_add, Nat.add_assoc]
      have e1' := gL e1
      have h14 := ho.1
      have rl0 : (rwE gs e).length = le.length - e.2 := by rw [e3, List.length_drop]
      refine B_Md_coversBy_50 hM.1 (mr_endOf hM) (mr_tailGroup hM) (ms_tailGroup hM) vt (mr_tailAt hM) (ms_tailAt hM) vt (ms_endOf hM) (by rw [e8]; exact vp_in_nI (by omega) (by omega)) ?_
      rw [e8, nI_clamp (by omega), u3]
      obtain ⟨o2, o21, o22⟩ := hC u f u1 fl
      have vu : vp_in (nI u) 100 := vp_in_nI (by omega) (by omega)
      refine B_Md_coversBy_77 hM.1 (md_tailSize hM hg hT.1 ht (B_Md_coversBy_85 (fun v => ?_) (fun _ => B_Md_coversBy_88 (fun v => absurd v (nI_pos (by omega))) (fun _ => B_Md_coversBy_93 hM.1 (mr_coverSize hM) (ms_coverSize hM) vu (fun v => ?_) (fun v => B_Md_coversBy_103 (no (fun w y => ?_)))))))
      · rw [nI_leI (by omega) (by omega)] at v
        omega
      · rw [nI_clamp (by omega)] at v
        cases o2 with
        | none =>
          have q2 : h_i h 39 u = -1 := o22.1
          rw [q2] at v
          exact absurd v (by decide)
        | some w2 =>
          obtain ⟨⟨lw2, sw2, cw2⟩, w13⟩ := o22
          have w13' := w13 w2 rfl
          obtain ⟨⟨x2, xe, xl⟩, _⟩ := cv_ok ho f1' o21.1
          have wl : w2.length ≤ (rwE gs f).length + 6 := by
            have := congrArg List.length xe
            rw [List.length_append] at this
            omega
          have rl : (gs.getD g []).length + (rwE gs f).length = (rwE gs e).length := by
            have := congrArg List.length es
            rw [List.length_append] at this
            omega
          refine B_Md_coversBy_104 hM.1 (md_tries (f0.md hM) hg0 tr0 gj (f := 0) (Nat.zero_le _) (by show 0 + _ ≤ _; omega) (fun g1 t1 f1 => B_Md_coversBy_115 ?_))
          rw [List.drop_zero, List.nil_append] at t1
          have loop : ∀ (c i : Nat) (g2 : PH), w2.length - i = c → i ≤ w2.length → Fr Wtr h g2 → MTr g2 (gs.getD g [] ++ w2.take i) → wpx (d + 2) P_Md_coversBy 118 [.ref 17, .int (nI t), .int (nI g), .int (nI (cpl (gs.getD g []) (rwE gs e))), .int (nI u), .int (nI i)] [] g2 Q := by
            intro c
            induction c with
            | zero =>
              intro i g2 hc hi hf2 ht2
              have hMg := hf2.md hM
              have ei : i = w2.length := by omega
              rw [ei, List.take_length] at ht2
              have sw : h_i g2 39 (nI u).toNatClampNeg = nI w2.length := by
                rw [nI_clamp (by omega), hf2.i _ _ (by unfold Wtr; omega)]
                exact sw2
              refine B_Md_coversBy_118 (fun v => absurd v (nI_pos (by omega))) (fun _ => B_Md_coversBy_123 hMg.1 (mr_coverSize hMg) (ms_coverSize hMg) vu (fun _ => ?_) (fun v => ?_))
              · refine store _ g2 _ _ _ ht2 (lets.app l1.1 lw2) (by rw [List.length_append]; omega) hf2 ⟨q, Or.inr ⟨_, w2, f1', es, o21.1, rfl⟩⟩ (fun w' hw' => ?_)
                rcases hw'.2 with ⟨x, v1, _⟩ | ⟨s, w'', s0, s1, s2, s3⟩
                · have := congrArg List.length v1
                  rw [List.length_append] at this
                  omega
                · rw [es] at s1
                  have sf := List.append_cancel_left s1
                  rw [← sf] at s2
                  rw [s3]
                  exact pkN_pre lw2 (cv_ok ho f1' s2).2 (o21.2 w'' s2)
              · rw [sw, nI_leI (by omega) (by omega)] at v
                omega
            | succ c ih =>
              intro i g2 hc hi hf2 ht2
              have hMg := hf2.md hM
              have gw : w2[i]? = some w2[i] := List.getElem?_eq_getElem (by omega)
              have sw : h_i g2 39 (nI u).toNatClampNeg = nI w2.length := by
                rw [nI_clamp (by omega), hf2.i _ _ (by unfold Wtr; omega)]
                exact sw2
              have e30 : ((30 : Int32) * nI u) + nI i = nI (30 * u + i) := by rw [show (30 : Int32) = nI 30 from rfl, nI_mulN, nI_add]
              have tlen : (gs.getD g [] ++ w2.take i).length = (gs.getD g []).length + i := by
                rw [List.length_append, List.length_take]
                omega
              have st := ht2.2.1
              rw [tlen] at st
              refine B_Md_coversBy_118 (fun v => absurd v (nI_pos (by omega))) (fun _ => B_Md_coversBy_123 hMg.1 (mr_coverSize hMg) (ms_coverSize hMg) vu (fun v => ?_) (fun _ => B_Md_coversBy_135 hMg.1 (mr_trial hMg) (mr_cover hMg) (ms_cover hMg) (by rw [e30]; exact vp_in_nI (by omega) (by omega)) (ms_trial hMg) (by rw [st]; exact vp_in_nI (by omega) (by omega)) (B_Md_coversBy_167 ?_)))
              · rw [sw, nI_leI (by omega) (by omega)] at v
                omega
              · have cx : h_i g2 38 (30 * u + i) = nI (w2[i] + 96) := (hf2.i _ _ (by unfold Wtr; omega)).trans (cw2 _ _ gw)
                rw [e30, st, nI_clamp (by omega), nI_clamp (by omega), cx, wi_ne _ _ (by omega), st, nI_1, nI_1]
                refine ih (i + 1) _ (by omega) (by omega) (hf2.tr ((Fr.wi g2 _ (Or.inr rfl)).tr (Fr.wi _ _ (Or.inl ⟨rfl, rfl⟩)))) ?_
                rw [List.take_add_one, gw, ← List.append_assoc]
                refine ⟨?_, ?_, fun j x hj => ?_⟩
                · rw [List.length_append, tlen]
                  show _ + 1 ≤ 800
                  omega
                · rw [wi_eq, List.length_append, tlen]
                  rfl
                · rw [wi_ne _ _ (by omega)]
                  by_cases y : j = (gs.getD g []).length + i
                  · rw [y, ← tlen, List.getElem?_append_right (Nat.le_refl _), Nat.sub_self] at hj
                    have : w2[i] = x := Option.some.inj hj
                    rw [y, wi_eq, this]
                  · have jl := (List.getElem?_eq_some_iff.mp hj).1
                    rw [List.length_append, tlen] at jl
                    have jl' : j < (gs.getD g []).length + i := by
                      have h1 : (some w2[i]).toList.length = 1 := rfl
                      omega
                    rw [List.getElem?_append_left (by rw [tlen]; exact jl')] at hj
                    rw [wi_ne _ _ (by omega)]
                    exact ht2.2.2 j x hj
          refine loop w2.length 0 g1 rfl (Nat.zero_le _) (f0.tr f1) ?_
          rw [List.take_zero, List.append_nil]
          exact t1
      · rw [nI_clamp (by omega)] at v
        rcases y.2 with ⟨x, v1, _⟩ | ⟨s, w'', s0, s1, s2, _⟩
        · have := congrArg List.length v1
          rw [List.length_append] at this
          omega
        · rw [es] at s1
          have sf := List.append_cancel_left s1
          rw [← sf] at s2
          cases o2 with
          | none => exact o21 _ s2
          | some w2 =>
            rw [o22.1.2.1] at v
            exact v (Int32.not_lt.mp (nI_pos (by have := o22.2 w2 rfl; omega)))
