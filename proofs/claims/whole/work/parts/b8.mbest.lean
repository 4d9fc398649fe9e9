/-! witness on the reference's side: takes; layBest -/
def Wbt (c k : Nat) : Prop := Wtr c k ∨ c = 32 ∨ c = 33
theorem wbt_g : ∀ c k, Wbt c k → ¬ ((c = 17 ∧ (k = 4 ∨ k = 6)) ∨ c = 18 ∨ c = 19) := fun c k q => by unfold Wbt Wtr at q; omega
theorem wbt_t : ∀ c k, Wbt c k → ¬ Wlt c k := fun c k q y => by unfold Wbt Wtr at q; unfold Wlt at y; omega
def BsH (h : PH) (B : BsT) (n : Nat) : Prop := ∀ u, u < n → SRw h 32 (800 * u) 33 u (B u)
theorem md_takes {d : Nat} {h : PH} {Q : PQ} {B : BsT} {n t : Nat} {w : List Nat} (hM : MdS h) (hT : MTr h w) (lw : lets w) (ht : t < n) (hn : n ≤ 100) (hB : BsH h B n) (hbl : ∀ u v, B u = some v → v.length ≤ 800) (k1 : bfr (B t) w → ∀ h', BsH h' (bsU B t w) n → Fr Wbt h h' → Q (some (.int 1)) h') (k0 : ¬ bfr (B t) w → Q (some (.int 0)) h) : wpm (d + 2) 219 [.ref 17, .int (nI t)] h Q := by
  refine wpm_in P_Md_takes rfl (by decide) (by show ¬ 3 < 2; decide) ?_
  have wl := hT.1
  have e800 : ((800 : Int32) * nI t) = nI (800 * t) := by rw [show (800 : Int32) = nI 800 from rfl, nI_mulN]
  refine B_Md_takes_0 hM.1 (mr_best hM) (mr_bestSize hM) (ms_bestSize hM) (vp_in_nI (by omega) (by omega)) ?_
  rw [e800, nI_clamp (by omega)]
  refine md_isBefore hM hT lw (ms_best hM) (by omega) (hB t ht) (fun b hb => ⟨by have := hbl t b hb; omega, hbl t b hb⟩) (fun z => B_Md_takes_19 (fun _ => B_Md_takes_24 ?_) (fun y => absurd y (by decide))) (fun z => B_Md_takes_19 (fun y => absurd rfl y) (fun _ => B_Md_takes_22 (k0 z)))
  have loop : ∀ (c i : Nat) (g : PH), w.length - i = c → i ≤ w.length → Fr (fun c k => c = 32 ∧ 800 * t ≤ k ∧ k < 800 * t + 800) h g → (∀ j x, j < i → w[j]? = some x → h_i g 32 (800 * t + j) = nI (x + 96)) → wpx (d + 1) P_Md_takes 26 [.ref 17, .int (nI t), .int (nI i)] [] g Q := by
    intro c
    induction c with
    | zero =>
      intro i g hc hi hf hx
      have hMg := hf.md hM
      have st : h_i g 17 38 = nI w.length := (hf.i _ _ (by omega)).trans hT.2.1
      refine B_Md_takes_26 hMg.1 (fun _ => B_Md_takes_58 hMg.1 (mr_bestSize hMg) (ms_bestSize hMg) (vp_in_nI (by omega) (by omega)) ?_) (fun q => ?_)
      · rw [nI_clamp (by omega), st]
        refine k1 z _ (fun u hu => ?_) ((hf.up (fun c k y => Or.inr (Or.inl y.1))).tr (Fr.wi _ _ (Or.inr (Or.inr rfl))))
        by_cases y : u = t
        · subst y
          rw [bsU_eq]
          refine ⟨lw, wi_eq _ _ _ _, fun j x hj => ?_⟩
          rw [wi_ne _ _ (by omega)]
          exact hx j x (by have := (List.getElem?_eq_some_iff.mp hj).1; omega) hj
        · rw [bsU_ne B w y]
          have F2 : Fr (fun c k => (c = 32 ∧ 800 * t ≤ k ∧ k < 800 * t + 800) ∨ (c = 33 ∧ k = t)) h (w_i g 33 t (nI w.length)) := (hf.up (fun c k y => Or.inl y)).tr (Fr.wi _ _ (Or.inr ⟨rfl, rfl⟩))
          exact (hB u hu).fr F2 (fun z => by omega) (fun b hb i hi z => by have := hbl u b hb; omega)
      · rw [st, nI_leI (by omega) (by omega)] at q
        omega
    | succ c ih =>
      intro i g hc hi hf hx
      have hMg := hf.md hM
      have gw : w[i]? = some w[i] := List.getElem?_eq_getElem (by omega)
      have st : h_i g 17 38 = nI w.length := (hf.i _ _ (by omega)).trans hT.2.1
      have tr : h_i g 34 i = nI (w[i] + 96) := (hf.i _ _ (by omega)).trans (hT.2.2 _ _ gw)
      have va : vp_in (((800 : Int32) * nI t) + nI i) 80000 := by
        rw [e800, nI_add]
        exact vp_in_nI (by omega) (by omega)
      refine B_Md_takes_26 hMg.1 (fun q => ?_) (fun _ => B_Md_takes_34 hMg.1 (mr_best hMg) (mr_trial hMg) (ms_trial hMg) (vp_in_nI (by omega) (by omega)) (ms_best hMg) va ?_)
      · rw [st, nI_leI (by omega) (by omega)] at q
        omega
      · rw [e800, nI_add, nI_clamp (by omega), nI_clamp (by omega), tr, nI_1]
        refine ih (i + 1) _ (by omega) (by omega) (hf.tr (Fr.wi _ _ ⟨rfl, by omega, by omega⟩)) (fun j x hj hjx => ?_)
        by_cases y : j = i
        · subst y
          rw [gw] at hjx
          rw [wi_eq, ← Option.some.inj hjx]
        · rw [wi_ne _ _ (by omega)]
          exact hx j x (by omega) hjx
  exact loop _ 0 h rfl (Nat.zero_le _) (Fr.rf _ _) (fun j x hj => absurd hj (Nat.not_lt_zero _))
/-- the word kept for a tail becomes the trial -/
theorem tri_copy {h : PH} {t : Nat} {w : List Nat} {R : Nat → PH → Prop} (hw : w.length ≤ 800) (hS : SRw h 32 (800 * t) 33 t (some w)) (s1 : ∀ i g, i < w.length → Fr Wtr h g → h_i g 17 38 = nI w.length → R (i + 1) (w_i g 34 i (h_i g 32 (800 * t + i))) → R i g) (s0 : ∀ g, Fr Wtr h g → MTr g w → R w.length g) : R 0 (w_i h 17 38 (nI w.length)) := by
  have loop : ∀ (c i : Nat) (g : PH), w.length - i = c → i ≤ w.length → Fr Wtr h g → h_i g 17 38 = nI w.length → (∀ j x, j < i → w[j]? = some x → h_i g 34 j = nI (x + 96)) → R i g := by
    intro c
    induction c with
    | zero =>
      intro i g hc hi hf st hx
      have ei : i = w.length := by omega
      subst ei
      exact s0 g hf ⟨hw, st, fun j x hj => hx j x (List.getElem?_eq_some_iff.mp hj).1 hj⟩
    | succ c ih =>
      intro i g hc hi hf st hx
      have gw : w[i]? = some w[i] := List.getElem?_eq_getElem (by omega)
      have bw : h_i g 32 (800 * t + i) = nI (w[i] + 96) := (hf.i _ _ (fun z => by unfold Wtr at z; omega)).trans (hS.2.2 _ _ gw)
      refine s1 i g (by omega) hf st (ih (i + 1) _ (by omega) (by omega) (hf.tr (Fr.wi _ _ (Or.inr rfl))) ?_ (fun j x hj hjx => ?_))
      · rw [wi_ne _ _ (by omega)]
        exact st
      · by_cases y : j = i
        · subst y
          rw [gw] at hjx
          rw [wi_eq, bw, ← Option.some.inj hjx]
        · rw [wi_ne _ _ (by omega)]
          exact hx j x (by omega) hjx
  exact loop _ 0 _ rfl (Nat.zero_le _) (Fr.wi _ _ (Or.inl ⟨rfl, rfl⟩)) (wi_eq ..) (fun j x hj => absurd hj (Nat.not_lt_zero _))
theorem md_layBest {d : Nat} {h : PH} {Q : PQ} {gs : List (List Nat)} {m : Nat} (hM : MdS h) (hg : MGr h gs m) (hu : unlk gs) (hT : MTl h gs m) (k : ∀ h' B, BsH h' B (ENs gs m).length → BOk gs m B → (∀ r w, Lb gs m r w → ∃ (u : Nat) (f : Nat × Nat) (v : List Nat), (ENs gs m)[u]? = some f ∧ rwE gs f = r ∧ B u = some v ∧ pkN v ≤ pkN w) → Fr Wbt h h' → Q none h') : wpm (d + 4) 220 [.ref 17] h Q := by
  refine wpm_in P_Md_layBest rfl (by decide) (by show ¬ 6 < 1; decide) (B_Md_layBest_0 ?_)
  have ho := hg.1
  have h14 := ho.1
  have N84 := ENs_len (gs := gs) (m := m) ho
  have mg : ∀ {g : PH}, Fr Wbt h g → MGr g gs m := fun hf => MGr.fr hf wbt_g hg
  have mt : ∀ {g : PH}, Fr Wbt h g → MTl g gs m := fun hf => hT.fr hf wbt_t ho
  have i32 : ∀ {g : PH}, Fr Wbt h g → h_i g 17 32 = nI (ENs gs m).length := fun hf => (mt hf).1.2.1
  have bl : ∀ {B : BsT}, BOk gs m B → ∀ u v, B u = some v → v.length ≤ 800 := fun hB u v e => by have := hB.len ho e; omega
  have tw : ∀ {g g' : PH}, Fr Wtr g g' → Fr Wbt g g' := fun hf => hf.up (fun c k z => Or.inl z)
  have trB : ∀ {g g' : PH} {B : BsT}, BOk gs m B → BsH g B (ENs gs m).length → Fr Wtr g g' → BsH g' B (ENs gs m).length := fun hB hH hf u hu => (hH u hu).fr hf (fun z => by unfold Wtr at z; omega) (fun b _ i _ z => by unfold Wtr at z; omega)
  -- passes
  have phaseC : ∀ (n : Nat) (g : PH) (B : BsT) (v2 v3 v4 v5 : Value), vlB B (ENs gs m).length ≤ n → BsH g B (ENs gs m).length → BOk gs m B → (∀ a b, clB gs m B a b) → Fr Wbt h g → wpx (d + 3) P_Md_layBest 125 [.ref 17, .int 1, v2, v3, v4, v5] [] g Q := by
    intro n
    induction n using Nat.strongRecOn with
    | ind n ihn =>
      intro g0 B0 v2 v3 v4 v5 hn hH0 hB0 hb0 hF0
      refine B_Md_layBest_125 (fun z => absurd z (by decide)) (fun _ => B_Md_layBest_129 ?_)
      have inner : ∀ (t : Nat) (e : Nat × Nat), (ENs gs m)[t]? = some e → (∀ g B x1 x3 v4 v5, BsH g B (ENs gs m).length → BOk gs m B → (∀ a b, clB gs m B a b) → Fr Wbt h g → ((x1 = 0 ∧ B = B0 ∧ ∀ t' j, t' < t + 1 → clT gs m B0 t' j) ∨ (x1 = 1 ∧ vlB B (ENs gs m).length < vlB B0 (ENs gs m).length)) → wpx (d + 3) P_Md_layBest 263 [.ref 17, .int x1, .int (nI t), .int x3, v4, v5] [] g Q) → ∀ (c j : Nat) (g : PH) (B : BsT) (x1 : Int32) (v4 v5 : Value), gs.length - j = c → j ≤ gs.length → BsH g B (ENs gs m).length → BOk gs m B → (∀ a b, clB gs m B a b) → Fr Wbt h g → ((x1 = 0 ∧ B = B0 ∧ ∀ t' j', (t' < t ∨ (t' = t ∧ j' < j)) → clT gs m B0 t' j') ∨ (x1 = 1 ∧ vlB B (ENs gs m).length < vlB B0 (ENs gs m).length)) → wpx (d + 3) P_Md_layBest 143 [.ref 17, .int x1, .int (nI t), .int (nI j), v4, v5] [] g Q := by
        intro t e he kk c
        have tl := (List.getElem?_eq_some_iff.mp he).1
        induction c with
        | zero =>
          intro j g B x1 v4 v5 hc hj hH hB hb hF hx
          refine B_Md_layBest_143 (hF.md hM).1 (fun _ => kk g B x1 _ v4 v5 hH hB hb hF (hx.imp (fun ⟨a1, a2, a3⟩ => ⟨a1, a2, fun t' j' ht' => ?_⟩) id)) (fun z => ?_)
          · rw [(mg hF).2.1, nI_leI (by omega) (by omega)] at z
            omega
          · by_cases y : t' < t ∨ (t' = t ∧ j' < j)
            · exact a3 t' j' y
            · intro e' l w _ gl
              have := (List.getElem?_eq_some_iff.mp gl).1
              omega
        | succ c ih =>
          intro j g B x1 v4 v5 hc hj hH hB hb hF hx
          have hMg := hF.md hM
          refine B_Md_layBest_143 hMg.1 (fun z => ?_) (fun _ => ?_)
          · rw [(mg hF).2.1, nI_leI (by omega) (by omega)] at z
            omega
          have hSt := hH t tl
          cases eB : B t with
          | none =>
            rw [eB] at hSt
            have s1 : h_i g 33 t = -1 := hSt
            refine B_Md_layBest_151 hMg.1 (mr_bestSize hMg) (ms_bestSize hMg) (vp_in_nI (by omega) (by omega)) (fun _ => kk g B x1 _ v4 v5 hH hB hb hF (hx.imp (fun ⟨a1, a2, a3⟩ => ⟨a1, a2, fun t' j' ht' => ?_⟩) id)) (fun z => ?_)
            · rw [nI_clamp (by omega), s1] at z
              exact absurd (by decide) z
            · by_cases y : t' = t
              · subst y
                intro e' l w _ _ _ a4
                rw [← a2, eB] at a4
                cases a4
              · exact a3 t' j' (Or.inl (by omega))
          | some w =>
            rw [eB] at hSt
            have w505 := hB.len ho eB
            have s1 : h_i g 33 t = nI w.length := hSt.2.1
            have gj := gS (gs := gs) (k := j) (by omega)
            generalize gs.getD j [] = l at gj
            obtain ⟨l1, l2, l3⟩ := ho.at gj
            have l7 := l1.2
            obtain ⟨le, e1, e2, e3, e4, e5, e6⟩ := (mt hF).1.at he
            have r0 : 0 < (rwE gs e).length := by
              rw [e3, List.length_drop]
              omega
            have r7 : (rwE gs e).length ≤ 7 := (rwE_okr (m := m) ho e).2
            have e14 : ((14 : Int32) * nI t) + nI j = nI (14 * t + j) := by rw [show (14 : Int32) = nI 14 from rfl, nI_mulN, nI_add]
            have tS := (mt hF).2.2.1 t j tl (by omega)
            have next : ∀ (g' : PH) (B' : BsT) (x1' x4 : Int32) (v5 : Value), BsH g' B' (ENs gs m).length → BOk gs m B' → (∀ a b, clB gs m B' a b) → Fr Wbt h g' → ((x1' = 0 ∧ B' = B0 ∧ clT gs m B0 t j ∧ ∀ t' j', (t' < t ∨ (t' = t ∧ j' < j)) → clT gs m B0 t' j') ∨ (x1' = 1 ∧ vlB B' (ENs gs m).length < vlB B0 (ENs gs m).length)) → wpx (d + 3) P_Md_layBest 257 [.ref 17, .int x1', .int (nI t), .int (nI j), .int x4, v5] [] g' Q := fun g' B' x1' x4 v5 a1 a2 a3 a4 a5 => by
              refine B_Md_layBest_257 ?_
              rw [nI_1]
              refine ih (j + 1) g' B' x1' _ _ (by omega) (by omega) a1 a2 a3 a4 (a5.imp (fun ⟨b1, b2, b3, b4⟩ => ⟨b1, b2, fun t' j' hj' => ?_⟩) id)
              by_cases y : t' = t ∧ j' = j
              · rw [y.1, y.2]
                exact b3
              · exact b4 t' j' (by omega)
            refine B_Md_layBest_151 hMg.1 (mr_bestSize hMg) (ms_bestSize hMg) (vp_in_nI (by omega) (by omega)) (fun z => ?_) (fun _ => B_Md_layBest_160 hMg.1 (mr_toTail hMg) (ms_toTail hMg) (by rw [e14]; exact vp_in_nI (by omega) (by omega)) (fun z => ?_) (fun z => B_Md_layBest_178 ?_))
            · rw [nI_clamp (by omega), s1] at z
              exact absurd z (nI_lt0 (by omega))
            · rw [e14, nI_clamp (by omega)] at z ⊢
              have hin : inm m j := Classical.byContradiction (fun y => by
                rw [tS.1 y] at z
                exact absurd z (by decide))
              rcases tS.2 hin e l he gj with ⟨_, y⟩ | ⟨u, f, hu, hf0, hc2, hv⟩ | ⟨y, _⟩
              · rw [y] at z
                exact absurd z (by decide)
              · rw [hv]
                have ul := (List.getElem?_eq_some_iff.mp hu).1
                refine B_Md_layBest_181 hMg.1 (mr_bestSize hMg) (ms_bestSize hMg) (vp_in_nI (by omega) (by omega)) ?_
                rw [nI_clamp (by omega), s1]
                have e800 : ((800 : Int32) * nI t) = nI (800 * t) := by rw [show (800 : Int32) = nI 800 from rfl, nI_mulN]
                refine tri_copy (h := g) (t := t) (w := w) (R := fun i g => wpx (d + 3) P_Md_layBest 194 [.ref 17, .int x1, .int (nI t), .int (nI j), .int (nI u), .int (nI i)] [] g Q) (by omega) hSt (fun i g1 hi f1 st hR => ?_) (fun g1 f1 t1 => ?_)
                · have hM1 := f1.md hMg
                  refine B_Md_layBest_194 hM1.1 (fun q => ?_) (fun _ => B_Md_layBest_203 hM1.1 (mr_trial hM1) (mr_best hM1) (ms_best hM1) (by rw [e800, nI_add]; exact vp_in_nI (by omega) (by omega)) (ms_trial hM1) (vp_in_nI (by omega) (by omega)) ?_)
                  · rw [st, nI_leI (by omega) (by omega)] at q
                    omega
                  · rw [e800, nI_add, nI_clamp (by omega), nI_clamp (by omega), nI_1]
                    exact hR
                · have hM1 := f1.md hMg
                  have F1 := hF.tr (tw f1)
                  have sz : h_i g1 19 (nI j).toNatClampNeg = nI l.length := by
                    rw [nI_clamp (by omega)]
                    exact ((mg F1).2.2.2 _ _ gj).1
                  refine B_Md_layBest_194 hM1.1 (fun _ => B_Md_layBest_229 hM1.1 (mr_size hM1) (ms_size hM1) (vp_in_nI (by omega) (by omega)) (md_tailSize hM1 (mg F1) (mt F1).1 he (B_Md_layBest_242 ?_))) (fun q => ?_)
                  · rw [sz]
                    refine md_lesser (by omega) (by omega) (B_Md_layBest_245 hM1.1 (md_tries hM1 (mg F1) t1 gj (by omega) (by omega) (fun g2 t2 f2 => ?_)))
                    have hM2 := f2.md hM1
                    have F2 := F1.tr (tw f2)
                    have x6 : (l.drop (min l.length (rwE gs e).length)).length ≤ 6 := by
                      rw [List.length_drop]
                      omega
                    have lbt : Lb gs m (rwE gs e) w := by
                      obtain ⟨e', a1, a2⟩ := (hB t w eB).1
                      rw [he] at a1
                      cases a1
                      exact a2
                    have lbu := step_lb lbt gj hin hf0 hc2
                    refine B_Md_layBest_248 hM2.1 (md_takes hM2 t2 (lbu.isl ho) ul (by omega) (trB hB (trB hB hH f1) f2) (bl hB) (fun hb' h' hH' f' => B_Md_layBest_255 (next h' _ _ _ _ hH' (hB.step eB hu lbu x6 hb') (fun a b => (hb a b).up (bLe.up hb')) (F2.tr f') (Or.inr ?_))) (fun hb' => B_Md_layBest_255 (next g2 B _ _ _ (trB hB (trB hB hH f1) f2) hB hb F2 (hx.imp (fun ⟨a1, a2, a3⟩ => ⟨by rw [a1]; decide, a2, fun e' l' w' c1 c2 c3 c4 u' f' c5 c6 c7 => ?_, a3⟩) (fun ⟨a1, a2⟩ => ⟨by rw [a1]; decide, a2⟩)))))
                    · have lt := vlB_lt (bfr_cst (lbu.isl ho) t2.1 hb') (ENs gs m).length ul
                      rcases hx with ⟨a1, a2, _⟩ | ⟨a1, a2⟩
                      · rw [a1]
                        rw [a2] at lt
                        exact ⟨by decide, by rw [a2]; exact lt⟩
                      · rw [a1]
                        exact ⟨by decide, Nat.lt_trans lt a2⟩
                    · rw [he] at c1
                      cases c1
                      rw [gj] at c2
                      cases c2
                      rw [← a2, eB] at c4
                      cases c4
                      have er : rwE gs f = rwE gs f' := by
                        rcases hc2 with y | y
                        · rcases c7 with y' | y'
                          · exact List.append_cancel_left (y.symm.trans y')
                          · have q1 := congrArg List.length y
                            have q2 := congrArg List.length y'
                            rw [List.length_append] at q1 q2
                            exact absurd (List.eq_nil_of_length_eq_zero (by omega)) hf0
                        · rcases c7 with y' | y'
                          · have q1 := congrArg List.length y
                            have q2 := congrArg List.length y'
                            rw [List.length_append] at q1 q2
                            exact absurd (List.eq_nil_of_length_eq_zero (by omega)) hf0
                          · exact List.append_cancel_left (y.symm.trans y')
                      have eu := ENs_inj ho hu c5 er
                      subst eu
                      rw [← a2]
                      exact nbfr hb'
                  · rw [t1.2.1, nI_leI (by omega) (by omega)] at q
                    omega
              · rw [y] at z
                exact absurd z (by decide)
            · rw [e14, nI_clamp (by omega)] at z
              refine next g B x1 _ _ hH hB hb hF (hx.imp (fun ⟨a1, a2, a3⟩ => ⟨a1, a2, fun e' l' w' c1 c2 c3 c4 u' f' c5 c6 c7 => ?_, a3⟩) id)
              rw [he] at c1
              cases c1
              rw [gj] at c2
              cases c2
              have f0 := List.length_pos_iff.mpr c6
              rcases tS.2 c3 e l he gj with ⟨y, _⟩ | ⟨u, f, hu, hf0, hc2, hv⟩ | ⟨_, y1, y2⟩
              · rcases c7 with y' | y'
                · have q1 := congrArg List.length y'
                  rw [List.length_append, ← y] at q1
                  omega
                · have q1 := congrArg List.length y'
                  rw [List.length_append, ← y] at q1
                  omega
              · rw [hv] at z
                exact absurd ((nI_leI (a := 0) (by omega) (by have := (List.getElem?_eq_some_iff.mp hu).1; omega)).mpr (Nat.zero_le _)) z
              · rcases c7 with y' | y'
                · exact absurd (by rw [y', List.take_left]) y1
                · exact absurd (by rw [y', List.take_left]) y2
      have tails : ∀ (c t : Nat) (g : PH) (B : BsT) (x1 : Int32) (v3 v4 v5 : Value), (ENs gs m).length - t = c → t ≤ (ENs gs m).length → BsH g B (ENs gs m).length → BOk gs m B → (∀ a b, clB gs m B a b) → Fr Wbt h g → ((x1 = 0 ∧ B = B0 ∧ ∀ t' j, t' < t → clT gs m B0 t' j) ∨ (x1 = 1 ∧ vlB B (ENs gs m).length < vlB B0 (ENs gs m).length)) → wpx (d + 3) P_Md_layBest 133 [.ref 17, .int x1, .int (nI t), v3, v4, v5] [] g Q := by
        intro c
        induction c with
        | zero =>
          intro t g B x1 v3 v4 v5 hc ht hH hB hb hF hx
          refine B_Md_layBest_133 (hF.md hM).1 (fun _ => B_Md_layBest_269 ?_) (fun z => ?_)
          · rcases hx with ⟨a1, a2, a3⟩ | ⟨a1, a2⟩
            · rw [a1]
              refine B_Md_layBest_125 (fun _ => B_Md_layBest_272 (k g B hH hB (fun r w hl => best_all ho hb (fun t' j => ?_) hl) hF)) (fun z => absurd rfl z)
              rw [a2]
              by_cases y : t' < t
              · exact a3 t' j y
              · intro e' l w he'
                have := (List.getElem?_eq_some_iff.mp he').1
                omega
            · rw [a1]
              exact ihn _ (Nat.lt_of_lt_of_le a2 hn) g B _ _ _ _ (Nat.le_refl _) hH hB hb hF
          · rw [i32 hF, nI_leI (by omega) (by omega)] at z
            omega
        | succ c ih =>
          intro t g B x1 v3 v4 v5 hc ht hH hB hb hF hx
          refine B_Md_layBest_133 (hF.md hM).1 (fun z => ?_) (fun _ => B_Md_layBest_141 (inner t _ (List.getElem?_eq_getElem (by omega)) (fun g' B' x1' x3 v4 v5 b1 b2 b3 b4 b5 => B_Md_layBest_263 ?_) gs.length 0 g B x1 _ _ rfl (Nat.zero_le _) hH hB hb hF (hx.imp (fun ⟨a1, a2, a3⟩ => ⟨a1, a2, fun t' j hj => a3 t' j (by omega)⟩) id)))
          · rw [i32 hF, nI_leI (by omega) (by omega)] at z
            omega
          · rw [nI_1]
            exact ih (t + 1) g' B' x1' _ _ _ (by omega) (by omega) b1 b2 b3 b4 b5
      exact tails (ENs gs m).length 0 g0 B0 0 _ _ _ rfl (Nat.zero_le _) hH0 hB0 hb0 hF0 (Or.inl ⟨rfl, rfl, fun t' j hj => absurd hj (Nat.not_lt_zero _)⟩)
  -- pairs of groups
  have phaseB : ∀ (g : PH) (v2 v3 v4 v5 : Value), BsH g (fun _ => none) (ENs gs m).length → Fr Wbt h g → wpx (d + 3) P_Md_layBest 25 [.ref 17, .int 0, v2, v3, v4, v5] [] g Q := by
    intro g0 v2 v3 v4 v5 hH0 hF0
    have inner : ∀ (a : Nat) (la : List Nat), gs[a]? = some la → (∀ g B x2 v3 v4 v5, BsH g B (ENs gs m).length → BOk gs m B → (∀ a' b', a' < a + 1 → clB gs m B a' b') → Fr Wbt h g → wpx (d + 3) P_Md_layBest 117 [.ref 17, .int (nI a), .int x2, v3, v4, v5] [] g Q) → ∀ (c b : Nat) (g : PH) (B : BsT) (v3 v4 v5 : Value), gs.length - b = c → b ≤ gs.length → BsH g B (ENs gs m).length → BOk gs m B → (∀ a' b', (a' < a ∨ (a' = a ∧ b' < b)) → clB gs m B a' b') → Fr Wbt h g → wpx (d + 3) P_Md_layBest 35 [.ref 17, .int (nI a), .int (nI b), v3, v4, v5] [] g Q := by
      intro a la ga kk c
      have ea := gD ga
      have alt := gL ga
      have la7 := ((ho.at ga).1).2
      induction c with
      | zero =>
        intro b g B v3 v4 v5 hc hb hH hB hx hF
        refine B_Md_layBest_35 (hF.md hM).1 (fun _ => kk g B _ v3 v4 v5 hH hB (fun a' b' ha' => ?_) hF) (fun z => ?_)
        · by_cases y : a' < a ∨ (a' = a ∧ b' < b)
          · exact hx a' b' y
          · intro la' lb' _ gl
            have := gL gl
            omega
        · rw [(mg hF).2.1, nI_leI (by omega) (by omega)] at z
          omega
      | succ c ih =>
        intro b g B v3 v4 v5 hc hb hH hB hx hF
        have hMg := hF.md hM
        have gb := gS (gs := gs) (k := b) (by omega)
        generalize gs.getD b [] = lb at gb
        have eb := gD gb
        obtain ⟨b1, b2, b3⟩ := ho.at gb
        have lb7 := b1.2
        have next : ∀ (g' : PH) (B' : BsT), BsH g' B' (ENs gs m).length → BOk gs m B' → bLe B B' → clB gs m B' a b → Fr Wbt h g' → wpx (d + 3) P_Md_layBest 111 [.ref 17, .int (nI a), .int (nI b), v3, v4, v5] [] g' Q := fun g' B' h1 h2 h3 h4 h5 => by
          refine B_Md_layBest_111 ?_
          rw [nI_1]
          refine ih (b + 1) g' B' _ _ _ (by omega) (by omega) h1 h2 (fun a' b' hab => ?_) h5
          by_cases y : a' = a ∧ b' = b
          · rw [y.1, y.2]
            exact h4
          · exact (hx a' b' (by omega)).up h3
        have no : ¬ (a ≠ b ∧ inm m a ∧ inm m b ∧ la = lb.take la.length) → wpx (d + 3) P_Md_layBest 111 [.ref 17, .int (nI a), .int (nI b), v3, v4, v5] [] g Q := fun hn => next g B hH hB (bLe.rf B) (fun la' lb' c1 c2 c3 c4 c5 c6 => by
          rw [ga] at c1
          cases c1
          rw [gb] at c2
          cases c2
          exact absurd ⟨c3, c4, c5, c6⟩ hn) hF
        refine B_Md_layBest_35 hMg.1 (fun z => ?_) (fun _ => B_Md_layBest_43 (fun z => no (fun y => y.1 ((nI_eq (by omega) (by omega)).mp z))) (fun z0 => B_Md_layBest_48 hMg.1 ?_))
        · rw [(mg hF).2.1, nI_leI (by omega) (by omega)] at z
          omega
        rw [(mg hF).2.2.1]
        refine md_isOf ho.m31 (by omega) (fun qa => B_Md_layBest_56 (fun z => absurd z (by decide)) (fun _ => B_Md_layBest_59 hMg.1 ?_)) (fun qa => B_Md_layBest_56 (fun _ => no (fun y => qa y.2.1)) (fun z => absurd rfl z))
        rw [(mg hF).2.2.1]
        refine md_isOf ho.m31 (by omega) (fun qb => B_Md_layBest_67 (fun z => absurd z (by decide)) (fun _ => B_Md_layBest_70 hMg.1 (md_begins hMg (mg hF) ga gb ?_))) (fun qb => B_Md_layBest_67 (fun _ => no (fun y => qb y.2.2.1)) (fun z => absurd rfl z))
        by_cases y : la = lb.take la.length
        · rw [if_pos y]
          have nab : ¬ a = b := fun w => z0 (by rw [w])
          have ll : la.length < lb.length := by
            have h1 := congrArg List.length y
            rw [List.length_take] at h1
            by_cases w : la.length = lb.length
            · rw [w, List.take_length] at y
              exact absurd (hu a b alt (gL gb) (by rw [ea, eb]; exact y)) nab
            · omega
          have la0 := (ho.at ga).2.1
          obtain ⟨t, f, t1, t2, t3⟩ := (mt hF).2.1 b lb la.length gb qb la0 ll (Or.inl (gL gb))
          have tl := (List.getElem?_eq_some_iff.mp t1).1
          refine B_Md_layBest_76 (fun z => absurd z (by decide)) (fun _ => B_Md_layBest_79 hMg.1 ?_)
          have f0 : Fr Wtr g (w_i g 17 38 0) := Fr.wi _ _ (Or.inl ⟨rfl, rfl⟩)
          have t0 : MTr (w_i g 17 38 0) [] := ⟨Nat.zero_le _, wi_eq .., fun k x hk => by cases hk⟩
          have F0 := hF.tr (tw f0)
          refine md_tries (f0.md hMg) (mg F0) t0 gb (Nat.zero_le _) (by show 0 + (lb.length - 0) ≤ 800; omega) (fun g2 t2' f2 => ?_)
          have t2' : MTr g2 lb := t2'
          have F2 := F0.tr (tw f2)
          have hM2 := F2.md hM
          have e30 : h_i g2 30 (8 * b + la.length) = nI t := by
            rw [f2.i _ _ (fun z => by unfold Wtr at z; omega), f0.i _ _ (fun z => by unfold Wtr at z; omega)]
            exact t3
          have e19 : h_i g2 19 (nI a).toNatClampNeg = nI la.length := by
            rw [nI_clamp (by omega)]
            exact ((mg F2).2.2.2 _ _ ga).1
          have e8 : ((8 : Int32) * nI b) + h_i g2 19 (nI a).toNatClampNeg = nI (8 * b + la.length) := by rw [e19, show (8 : Int32) = nI 8 from rfl, nI_mulN, nI_add]
          refine B_Md_layBest_90 hM2.1 (mr_endOf hM2) (mr_size hM2) (ms_size hM2) (vp_in_nI (by omega) (by omega)) (ms_endOf hM2) (by rw [e8]; exact vp_in_nI (by omega) (by omega)) ?_
          rw [e8, nI_clamp (by omega), e30]
          have ll2 : lets lb := b1.1
          have eap := tak_app y
          have hG : isG gs m la := ⟨a, ga, qa⟩
          have hG2 : isG gs m (la ++ lb.drop la.length) := ⟨b, by rw [← eap]; exact gb, qb⟩
          have d0 : lb.drop la.length ≠ [] := fun z => by
            have := congrArg List.length z
            rw [List.length_drop] at this
            have h0 : ([] : List Nat).length = 0 := rfl
            omega
          have lbt : Lb gs m (rwE gs f) lb := by
            have := Lb.base hG hG2 d0
            rw [← eap] at this
            rw [t2]
            exact this
          have same : ∀ t' e', (ENs gs m)[t']? = some e' → rwE gs e' = lb.drop la.length → t' = t := fun t' e' h1 h2 => ENs_inj ho h1 t1 (h2.trans t2.symm)
          refine md_takes hM2 t2' ll2 tl (by omega) (trB hB (trB hB hH f0) f2) (bl hB) (fun hb' h' hH' f' => B_Md_layBest_110 (next h' _ hH' (hB.base t1 lbt lb7 hb') (bLe.up hb') (fun la' lb' c1 c2 c3 c4 c5 c6 t' e' c7 c8 => ?_) (F2.tr f'))) (fun hb' => B_Md_layBest_110 (next g2 B (trB hB (trB hB hH f0) f2) hB (bLe.rf B) (fun la' lb' c1 c2 c3 c4 c5 c6 t' e' c7 c8 => ?_) F2))
          · rw [ga] at c1
            cases c1
            rw [gb] at c2
            cases c2
            rw [same t' e' c7 c8]
            exact ⟨lb, bsU_eq .., Nat.le_refl _⟩
          · rw [ga] at c1
            cases c1
            rw [gb] at c2
            cases c2
            rw [same t' e' c7 c8]
            exact nbfr hb'
        · rw [if_neg y]
          exact B_Md_layBest_76 (fun _ => no (fun w => y w.2.2.2)) (fun z => absurd rfl z)
    have outer : ∀ (c a : Nat) (g : PH) (B : BsT) (v2 v3 v4 v5 : Value), gs.length - a = c → a ≤ gs.length → BsH g B (ENs gs m).length → BOk gs m B → (∀ a' b', a' < a → clB gs m B a' b') → Fr Wbt h g → wpx (d + 3) P_Md_layBest 25 [.ref 17, .int (nI a), v2, v3, v4, v5] [] g Q := by
      intro c
      induction c with
      | zero =>
        intro a g B v2 v3 v4 v5 hc ha hH hB hx hF
        refine B_Md_layBest_25 (hF.md hM).1 (fun _ => B_Md_layBest_123 (phaseC _ g B _ _ _ _ (Nat.le_refl _) hH hB (fun a' b' => ?_) hF)) (fun z => ?_)
        · by_cases y : a' < a
          · exact hx a' b' y
          · intro la' lb' gl
            have := gL gl
            omega
        · rw [(mg hF).2.1, nI_leI (by omega) (by omega)] at z
          omega
      | succ c ih =>
        intro a g B v2 v3 v4 v5 hc ha hH hB hx hF
        refine B_Md_layBest_25 (hF.md hM).1 (fun z => ?_) (fun _ => B_Md_layBest_33 (inner a _ (gS (by omega)) (fun g' B' x2 v3 v4 v5 c1 c2 c3 c4 => B_Md_layBest_117 ?_) gs.length 0 g B _ _ _ rfl (Nat.zero_le _) hH hB (fun a' b' hab => hx a' b' (by omega)) hF))
        · rw [(mg hF).2.1, nI_leI (by omega) (by omega)] at z
          omega
        · rw [nI_1]
          exact ih (a + 1) g' B' _ _ _ _ (by omega) (by omega) c1 c2 c3 c4
    exact outer gs.length 0 g0 (fun _ => none) _ _ _ _ rfl (Nat.zero_le _) hH0 (fun t w e => by cases e) (fun a' b' hab => absurd hab (Nat.not_lt_zero _)) hF0
  have fill : ∀ (c t : Nat) (g : PH) (v2 v3 v4 v5 : Value), (ENs gs m).length - t = c → t ≤ (ENs gs m).length → BsH g (fun _ => none) t → Fr Wbt h g → wpx (d + 3) P_Md_layBest 2 [.ref 17, .int (nI t), v2, v3, v4, v5] [] g Q := by
    intro c
    induction c with
    | zero =>
      intro t g v2 v3 v4 v5 hc ht hH hF
      have et : t = (ENs gs m).length := by omega
      rw [et] at hH
      refine B_Md_layBest_2 (hF.md hM).1 (fun _ => B_Md_layBest_23 (phaseB g _ _ _ _ hH hF)) (fun z => ?_)
      rw [i32 hF, nI_leI (by omega) (by omega)] at z
      omega
    | succ c ih =>
      intro t g v2 v3 v4 v5 hc ht hH hF
      have hMg := hF.md hM
      refine B_Md_layBest_2 hMg.1 (fun z => ?_) (fun _ => B_Md_layBest_10 hMg.1 (mr_bestSize hMg) (ms_bestSize hMg) (vp_in_nI (by omega) (by omega)) ?_)
      · rw [i32 hF, nI_leI (by omega) (by omega)] at z
        omega
      · rw [nI_1, nI_clamp (by omega)]
        refine ih (t + 1) _ _ _ _ _ (by omega) (by omega) (fun u hu => ?_) (hF.tr (Fr.wi _ _ (Or.inr (Or.inr rfl))))
        show h_i (w_i g 33 t (-1)) 33 u = -1
        by_cases y : u = t
        · subst y
          exact wi_eq ..
        · rw [wi_ne _ _ (by omega)]
          exact hH u (by omega)
  exact fill (ENs gs m).length 0 h _ _ _ _ rfl (Nat.zero_le _) (fun u hu => absurd hu (Nat.not_lt_zero _)) (Fr.rf _ _)
