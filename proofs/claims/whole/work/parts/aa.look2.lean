/-! look on the class's side: the steps, all passes, two groups, the answer -/
theorem rsO_1 {l r : List Nat} (h1 : r = l.take r.length) (h2 : r.length < l.length) : rsO l r = some (l.drop r.length) := if_pos ⟨h1, h2⟩
theorem rsO_2 {l r : List Nat} (h1 : l = r.take l.length) (h2 : l.length < r.length) : rsO l r = some (r.drop l.length) := by
  unfold rsO
  rw [if_neg (fun z => by omega), if_pos ⟨h1, h2⟩]
theorem rsO_0 {l r : List Nat} (h1 : ¬ (r = l.take r.length ∧ r.length < l.length)) (h2 : ¬ (l = r.take l.length ∧ l.length < r.length)) : rsO l r = none := by
  unfold rsO
  rw [if_neg h1, if_neg h2]
theorem ta_prep {d : Nat} {h : PH} {Q : PQ} {b o : Nat} {gs : List (List Nat)} {m : Nat} {ts : TL} (hT : TaS h b) (hG : GrS h o) (hob : o + 5 < b ∨ b + 7 < o) (hg : CGr h o gs m) (hc : CTa h b ts) (hcl : ∀ r ∈ rowsT ts, ∀ s, nxR gs m r s → s ∈ rowsT ts) (k : ∀ h', (∀ t r, (rowsT ts)[t]? = some r → ∀ j, j < gs.length → PLk h' b gs m (rowsT ts) t j r) → CDp h' b (rowsT ts) (fun _ => 0) → Fr (fun c _ => b + 5 ≤ c ∧ c ≤ b + 7) h h' → Q none h') : wpm (d + 3) 80 [.ref b, .ref o] h Q := by
  refine wpm_in P_Ta_prepareSteps rfl (by decide) (by show ¬ 6 < 2; decide) (B_Ta_prepareSteps_0 ?_)
  have ho := hg.1
  have h14 := hg.1.1
  have h98 := hc.1.1
  have cg : ∀ {g : PH}, Fr (fun c _ => b + 5 ≤ c ∧ c ≤ b + 7) h g → CGr g o gs m := fun hf => CGr.fr hf (fun c k z y => by omega) hg
  have ct : ∀ {g : PH}, Fr (fun c _ => b + 5 ≤ c ∧ c ≤ b + 7) h g → CTa g b ts := fun hf => CTa.fr hf (fun c k z y => by omega) hc
  have inner : ∀ (t : Nat) (x : List Nat × Nat), ts[t]? = some x → ∀ (e j : Nat) (g : PH) (v4 v5 : Value), gs.length - j = e → j ≤ gs.length → Fr (fun c _ => b + 5 ≤ c ∧ c ≤ b + 7) h g → (∀ t', t' < t + 1 → h_i g (b + 5) t' = 0) → (∀ t' r' j', (rowsT ts)[t']? = some r' → j' < gs.length → (t' < t ∨ (t' = t ∧ j' < j)) → PLk g b gs m (rowsT ts) t' j' r') → (∀ g' x3 v4 v5, Fr (fun c _ => b + 5 ≤ c ∧ c ≤ b + 7) h g' → (∀ t', t' < t + 1 → h_i g' (b + 5) t' = 0) → (∀ t' r' j', (rowsT ts)[t']? = some r' → j' < gs.length → t' < t + 1 → PLk g' b gs m (rowsT ts) t' j' r') → wpx (d + 2) P_Ta_prepareSteps 186 [.ref b, .ref o, .int (nI t), .int x3, v4, v5] [] g' Q) → wpx (d + 2) P_Ta_prepareSteps 19 [.ref b, .ref o, .int (nI t), .int (nI j), v4, v5] [] g Q := by
    intro t x ht e
    have gr : (rowsT ts)[t]? = some x.1 := by unfold rowsT; rw [List.getElem?_map, ht]; rfl
    have xin : x.1 ∈ rowsT ts := List.mem_of_getElem? gr
    obtain ⟨t1, t2, t3, t4⟩ := hc.1.at ht
    have t7 := t1.2
    have vt : vp_in (nI t) 98 := vp_in_nI t4 (by omega)
    induction e with
    | zero =>
      intro j g v4 v5 he hj hf hz hp kk
      refine B_Ta_prepareSteps_19 (hf.gr hG).1 (fun _ => kk g _ _ _ hf hz (fun t' r' j' a1 a2 a3 => hp t' r' j' a1 a2 (by omega))) (fun z => ?_)
      rw [(cg hf).2.1, nI_leI (by omega) (by omega)] at z
      omega
    | succ e ih =>
      intro j g v4 v5 he hj hf hz hp kk
      have hG' := hf.gr hG
      have hT' := hT.fr hf
      have gj : gs[j]? = some (gs.getD j []) := gS (by omega)
      obtain ⟨b1, b2, b3⟩ := ho.at gj
      have b7 := b1.2
      have va : vp_in (nI (14 * t + j)) 1372 := vp_in_nI (by omega) (by omega)
      have vj : vp_in (nI j) 14 := vp_in_nI b3 (by omega)
      -- what stands behind this pair
      have next : ∀ (g' : PH) (v4 v5 : Value), Fr (fun c k => (c = b + 6 ∨ c = b + 7) ∧ k = 14 * t + j) g g' → PLk g' b gs m (rowsT ts) t j x.1 → wpx (d + 2) P_Ta_prepareSteps 180 [.ref b, .ref o, .int (nI t), .int (nI j), .int (nI (14 * t + j)), v5] [] g' Q := fun g' v4 v5 f' p' => by
        refine B_Ta_prepareSteps_180 ?_
        rw [nI_1]
        refine ih (j + 1) g' _ _ (by omega) (by omega) (hf.tr (f'.up (fun c k z => by omega))) (fun t' h' => (f'.i _ _ (by omega)).trans (hz t' h')) (fun t' r' j' a1 a2 a3 => ?_) kk
        by_cases w : t' = t ∧ j' = j
        · obtain ⟨w1, w2⟩ := w
          subst w1
          subst w2
          rw [gr] at a1
          rw [← Option.some.inj a1]
          exact p'
        · exact (hp t' r' j' a1 a2 (by omega)).fr f' (by omega) (by omega)
      refine B_Ta_prepareSteps_19 hG'.1 (fun z => ?_) (fun _ => B_Ta_prepareSteps_27 hT'.1 hT'.2.2.2.2.2.2.1.1 hT'.2.2.2.2.2.2.1.2 (by rw [e14']; exact va) hT'.2.2.2.2.2.2.2.1.1 hT'.2.2.2.2.2.2.2.1.2 (by rw [e14']; exact va) hG'.1 ?_)
      · rw [(cg hf).2.1, nI_leI (by omega) (by omega)] at z
        omega
      rw [e14', nI_clamp (by omega)]
      have f1 : Fr (fun c k => (c = b + 6 ∨ c = b + 7) ∧ k = 14 * t + j) g (w_i (w_i g (b + 6) (14 * t + j) 0) (b + 7) (14 * t + j) (-1)) := (Fr.wi g _ ⟨Or.inl rfl, rfl⟩).tr (Fr.wi _ _ ⟨Or.inr rfl, rfl⟩)
      have q6 : h_i (w_i (w_i g (b + 6) (14 * t + j) 0) (b + 7) (14 * t + j) (-1)) (b + 6) (14 * t + j) = 0 := by rw [wi_ne _ _ (by omega), wi_eq]
      have q7 : h_i (w_i (w_i g (b + 6) (14 * t + j) 0) (b + 7) (14 * t + j) (-1)) (b + 7) (14 * t + j) = -1 := wi_eq _ _ _ _
      generalize w_i (w_i g (b + 6) (14 * t + j) 0) (b + 7) (14 * t + j) (-1) = g1 at f1 q6 q7 ⊢
      have F1 : Fr (fun c _ => b + 5 ≤ c ∧ c ≤ b + 7) h g1 := hf.tr (f1.up (fun c k z => by omega))
      have hG1 := F1.gr hG
      have hT1 := hT.fr F1
      refine gr_isIn hG1 (cg F1) (by omega) (fun q => ?_) (fun q => B_Ta_prepareSteps_56 (fun _ => next g1 v4 v5 f1 ⟨fun _ => ⟨q6, q7⟩, fun z => absurd z q⟩) (fun z => absurd rfl z))
      obtain ⟨x1, x2, x3⟩ := (ct F1).2.2 t x ht
      obtain ⟨y1, y2⟩ := (cg F1).2.2.2 j _ gj
      refine B_Ta_prepareSteps_56 (fun z => absurd z (by decide)) (fun _ => B_Ta_prepareSteps_59 hT1.1 hT1.2.1.1 hT1.2.1.2 vt hT1.2.2.1.1 hT1.2.2.1.2 vt hG1.1 hG1.2.1.1 hG1.2.1.2 vj hG1.2.2.1.1 hG1.2.2.1.2 vj ?_)
      rw [nI_clamp (by omega), nI_clamp (by omega), x1, x2, y1, y2]
      refine ow_commonLetters t1 b1 ?_
      have c1 := cpl_len x.1 (gs.getD j [])
      have c2 := cpl_len (gs.getD j []) x.1
      rw [cpl_comm (gs.getD j []) x.1] at c2
      have c3 := cpl_le x.1 (gs.getD j [])
      have c4 := cpl_le (gs.getD j []) x.1
      rw [cpl_comm (gs.getD j []) x.1] at c4
      have gpos : isG gs m (gs.getD j []) := ⟨j, gj, q⟩
      have fin : ∀ (g2 : PH) (v : Int32), Fr (fun c k => (c = b + 6 ∨ c = b + 7) ∧ k = 14 * t + j) g g2 → h_i g2 (b + 6) (14 * t + j) = nI (cpl x.1 (gs.getD j [])) → h_i g2 (b + 7) (14 * t + j) = v → ((rsO (gs.getD j []) x.1 = none ∧ v = -1) ∨ ∃ s u, rsO (gs.getD j []) x.1 = some s ∧ (rowsT ts)[u]? = some s ∧ v = nI u) → PLk g2 b gs m (rowsT ts) t j x.1 := fun g2 v _ e6 e7 hv => ⟨fun z => absurd q z, fun _ => ⟨by rw [e6, cpl_comm], by rw [e7]; exact hv⟩⟩
      have f2 : Fr (fun c k => (c = b + 6 ∨ c = b + 7) ∧ k = 14 * t + j) g (w_i g1 (b + 6) (14 * t + j) (nI (cpl x.1 (gs.getD j [])))) := f1.tr (Fr.wi g1 _ ⟨Or.inl rfl, rfl⟩)
      have r6 : h_i (w_i g1 (b + 6) (14 * t + j) (nI (cpl x.1 (gs.getD j [])))) (b + 6) (14 * t + j) = nI (cpl x.1 (gs.getD j [])) := wi_eq _ _ _ _
      have r7 : h_i (w_i g1 (b + 6) (14 * t + j) (nI (cpl x.1 (gs.getD j [])))) (b + 7) (14 * t + j) = -1 := (wi_ne _ _ (by omega)).trans q7
      have rt : h_i (w_i g1 (b + 6) (14 * t + j) (nI (cpl x.1 (gs.getD j [])))) (b + 2) t = nI x.1.length := (wi_ne _ _ (by omega)).trans x2
      have F2 : Fr (fun c _ => b + 5 ≤ c ∧ c ≤ b + 7) h (w_i g1 (b + 6) (14 * t + j) (nI (cpl x.1 (gs.getD j [])))) := hf.tr (f2.up (fun c k z => by omega))
      refine B_Ta_prepareSteps_86 hT1.1 hT1.2.2.2.2.2.2.1.1 hT1.2.2.2.2.2.2.1.2 va hT1.2.2.1.1 hT1.2.2.1.2 vt (fun z => ?_) (fun z => ?_)
      · rw [nI_clamp (by omega), nI_clamp (by omega), rt, nI_eq (by omega) (by omega)] at z
        rw [nI_clamp (by omega)]
        generalize w_i g1 (b + 6) (14 * t + j) (nI (cpl x.1 (gs.getD j []))) = g2 at f2 r6 r7 rt F2 ⊢
        have hG2 := F2.gr hG
        have hT2 := hT.fr F2
        obtain ⟨x1, x2, x3⟩ := (ct F2).2.2 t x ht
        obtain ⟨y1, y2⟩ := (cg F2).2.2.2 j _ gj
        refine B_Ta_prepareSteps_140 hG2.1 hG2.2.2.1.1 hG2.2.2.1.2 vj (fun w => ?_) (fun w => ?_)
        · rw [nI_clamp (by omega), y2, nI_eq (by omega) (by omega)] at w
          exact next g2 v4 _ f2 (fin g2 (-1) f2 r6 r7 (Or.inl ⟨rsO_0 (fun y => z (c1.mpr y.1)) (fun y => w (c2.mpr y.1)), rfl⟩))
        · rw [nI_clamp (by omega), y2, nI_eq (by omega) (by omega)] at w
          have lw := c2.mp w
          have lt : (gs.getD j []).length < x.1.length := by omega
          have er := rsO_2 lw lt
          refine B_Ta_prepareSteps_151 hT2.1 hT2.2.2.2.2.2.2.2.1.1 hT2.2.1.1 hT2.2.1.2 vt hT2.2.2.1.1 hT2.2.2.1.2 vt ?_
          rw [nI_clamp (by omega), x1, x2, w, nI_subN (by omega)]
          refine ow_lastOf t1 (by omega) ?_
          rw [show x.1.length - (x.1.length - (gs.getD j []).length) = (gs.getD j []).length by omega]
          have sin : x.1.drop (gs.getD j []).length ∈ rowsT ts := hcl _ xin _ ⟨(rsO_c er).1, _, gpos, Or.inr (tak_app lw)⟩
          refine B_Ta_prepareSteps_176 hT2.1 (ta_find hT2 (ct F2) (t1.drop _) (fun hno => ?_) (fun i y hy ey _ => ?_))
          · obtain ⟨y, yy, ey⟩ := List.mem_map.mp sin
            exact absurd ey (hno y yy)
          · refine B_Ta_prepareSteps_179 hT2.2.2.2.2.2.2.2.1.2 va ?_
            rw [nI_clamp (by omega)]
            have f3 := f2.tr (Fr.wi (W := fun c k => (c = b + 6 ∨ c = b + 7) ∧ k = 14 * t + j) (c := b + 7) (k := 14 * t + j) g2 (nI i) ⟨Or.inr rfl, rfl⟩)
            exact next _ v4 _ f3 (fin _ (nI i) f3 ((wi_ne _ _ (by omega)).trans r6) (wi_eq _ _ _ _) (Or.inr ⟨_, i, er, by unfold rowsT; rw [List.getElem?_map, hy]; exact congrArg some ey, rfl⟩))
      · rw [nI_clamp (by omega), nI_clamp (by omega), rt, nI_eq (by omega) (by omega)] at z
        rw [nI_clamp (by omega)]
        generalize w_i g1 (b + 6) (14 * t + j) (nI (cpl x.1 (gs.getD j []))) = g2 at f2 r6 r7 rt F2 ⊢
        have hG2 := F2.gr hG
        have hT2 := hT.fr F2
        obtain ⟨x1, x2, x3⟩ := (ct F2).2.2 t x ht
        obtain ⟨y1, y2⟩ := (cg F2).2.2.2 j _ gj
        have lw := c1.mp z
        refine B_Ta_prepareSteps_108 hT2.1 hT2.2.2.2.2.2.2.2.1.1 hG2.1 hG2.2.1.1 hG2.2.1.2 vj hG2.2.2.1.1 hG2.2.2.1.2 vj ?_
        rw [nI_clamp (by omega), y1, y2, z, nI_subN (by omega)]
        refine ow_lastOf b1 (by omega) ?_
        rw [show (gs.getD j []).length - ((gs.getD j []).length - x.1.length) = x.1.length by omega]
        have put : ∀ v : Int32, ((rsO (gs.getD j []) x.1 = none ∧ v = -1) ∨ ∃ s u, rsO (gs.getD j []) x.1 = some s ∧ (rowsT ts)[u]? = some s ∧ v = nI u) → wpx (d + 2) P_Ta_prepareSteps 136 [.ref b, .ref o, .int (nI t), .int (nI j), .int (nI (14 * t + j)), .int (nI x.1.length)] [.int v, .int (nI (14 * t + j)), .ref (b + 7)] g2 Q := fun v hv => by
          refine B_Ta_prepareSteps_136 hT2.2.2.2.2.2.2.2.1.2 va ?_
          rw [nI_clamp (by omega)]
          have f3 := f2.tr (Fr.wi (W := fun c k => (c = b + 6 ∨ c = b + 7) ∧ k = 14 * t + j) (c := b + 7) (k := 14 * t + j) g2 v ⟨Or.inr rfl, rfl⟩)
          exact next _ v4 _ f3 (fin _ v f3 ((wi_ne _ _ (by omega)).trans r6) (wi_eq _ _ _ _) hv)
        refine B_Ta_prepareSteps_133 hT2.1 (ta_find hT2 (ct F2) (b1.drop _) (fun hno => put _ (Or.inl ⟨rsO_0 (fun y => ?_) (fun y => ?_), rfl⟩)) (fun i y hy ey _ => put _ (Or.inr ⟨_, i, rsO_1 lw ?_, by unfold rowsT; rw [List.getElem?_map, hy]; exact congrArg some ey, rfl⟩)))
        · have sin : (gs.getD j []).drop x.1.length ∈ rowsT ts := hcl _ xin _ ⟨(rsO_c (rsO_1 y.1 y.2)).1, _, gpos, Or.inl (tak_app y.1)⟩
          obtain ⟨u, uu, eu⟩ := List.mem_map.mp sin
          exact absurd eu (hno u uu)
        · omega
        · have y0 := (hc.1.at hy).2.1
          rw [ey, List.length_drop] at y0
          omega
  have outer : ∀ (e t : Nat) (g : PH) (v3 v4 v5 : Value), ts.length - t = e → t ≤ ts.length → Fr (fun c _ => b + 5 ≤ c ∧ c ≤ b + 7) h g → (∀ t', t' < t → h_i g (b + 5) t' = 0) → (∀ t' r' j', (rowsT ts)[t']? = some r' → j' < gs.length → t' < t → PLk g b gs m (rowsT ts) t' j' r') → wpx (d + 2) P_Ta_prepareSteps 2 [.ref b, .ref o, .int (nI t), v3, v4, v5] [] g Q := by
    intro e
    induction e with
    | zero =>
      intro t g v3 v4 v5 he ht hf hz hp
      have rl : ∀ {t' : Nat} {r' : List Nat}, (rowsT ts)[t']? = some r' → t' < t := fun {t' r'} a1 => by
        have := (List.getElem?_eq_some_iff.mp a1).1
        unfold rowsT at this
        rw [List.length_map] at this
        omega
      refine B_Ta_prepareSteps_2 (hT.fr hf).1 (fun _ => B_Ta_prepareSteps_192 (k g (fun t' r' a1 j' a2 => hp t' r' j' a1 a2 (rl a1)) (fun t' r' a1 => hz t' (rl a1)) hf)) (fun z => ?_)
      rw [(ct hf).2.1, nI_leI (by omega) (by omega)] at z
      omega
    | succ e ih =>
      intro t g v3 v4 v5 he ht hf hz hp
      have gt : ts[t]? = some ts[t] := List.getElem?_eq_getElem (by omega)
      have hT' := hT.fr hf
      refine B_Ta_prepareSteps_2 hT'.1 (fun z => ?_) (fun _ => B_Ta_prepareSteps_10 hT'.1 hT'.2.2.2.2.2.1.1 hT'.2.2.2.2.2.1.2 (vp_in_nI (by omega) (by omega)) ?_)
      · rw [(ct hf).2.1, nI_leI (by omega) (by omega)] at z
        omega
      · rw [nI_clamp (by omega)]
        have f1 : Fr (fun c k => c = b + 5 ∧ k = t) g (w_i g (b + 5) t 0) := Fr.wi g _ ⟨rfl, rfl⟩
        refine inner t _ gt gs.length 0 _ _ _ rfl (Nat.zero_le _) (hf.tr (f1.up (fun c k z => by omega))) (fun t' h' => ?_) (fun t' r' j' a1 a2 a3 => (hp t' r' j' a1 a2 (by omega)).fr f1 (by omega) (by omega)) (fun g' x3 v4 v5 f' z' p' => B_Ta_prepareSteps_186 ?_)
        · by_cases w : t' = t
          · rw [w]
            exact wi_eq _ _ _ _
          · exact (wi_ne _ _ (by omega)).trans (hz t' (by omega))
        · rw [nI_1]
          exact ih (t + 1) g' _ _ _ (by omega) (by omega) f' z' p'
  exact outer ts.length 0 h _ _ _ rfl (Nat.zero_le _) (Fr.rf _ _) (fun t' a => absurd a (Nat.not_lt_zero _)) (fun t' r' j' _ _ a => absurd a (Nat.not_lt_zero _))
