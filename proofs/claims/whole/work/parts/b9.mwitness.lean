/-! witness on the reference's side: the call -/
def Wwt (c k : Nat) : Prop := Wpt c k ∨ Wbt c k ∨ Wmd c k
theorem tl_G {gs : List (List Nat)} {m t : Nat} {e : Nat × Nat} {f : Nat → Int32} (ho : okg gs m) (he : (ENs gs m)[t]? = some e) (hT : ∀ g, g < gs.length → tlS gs m t g (f g)) : isG gs m (rwE gs e) ↔ ∃ g, g < gs.length ∧ f g = -2 := by
  constructor
  · rintro ⟨g, gg, mg⟩
    refine ⟨g, gL gg, ?_⟩
    rcases (hT g (gL gg)).2 mg e _ he gg with ⟨_, y⟩ | ⟨u, f', hu, hf0, hc, hv⟩ | ⟨_, y, _⟩
    · exact y
    · have f0 := List.length_pos_iff.mpr hf0
      rcases hc with y' | y'
      · have q1 := congrArg List.length y'
        rw [List.length_append] at q1
        omega
      · have q1 := congrArg List.length y'
        rw [List.length_append] at q1
        omega
    · rw [List.take_length] at y
      exact absurd rfl y
  · rintro ⟨g, gl, gv⟩
    have hin : inm m g := Classical.byContradiction (fun y => by
      rw [(hT g gl).1 y] at gv
      exact absurd gv (by decide))
    have gg := gS gl
    rcases (hT g gl).2 hin e _ he gg with ⟨y, _⟩ | ⟨u, f', hu, hf0, hc, hv⟩ | ⟨y, _, _⟩
    · exact ⟨g, by rw [← y]; exact gg, hin⟩
    · rw [gv] at hv
      have h84 := ENs_len (gs := gs) (m := m) ho
      have ul := (List.getElem?_eq_some_iff.mp hu).1
      have : ¬ (nI u < 0) := nI_lt0 (by omega)
      rw [← hv] at this
      exact absurd (by decide) this
    · rw [gv] at y
      exact absurd y (by decide)
def itP (gs : List (List Nat)) (m : Nat) (B : BsT) (t : Nat) (x : Int32) : Prop := (x = -1 ∧ ∀ t' e v, t' < t → (ENs gs m)[t']? = some e → isG gs m (rwE gs e) → B t' = some v → False) ∨ ∃ u v e, x = nI u ∧ (ENs gs m)[u]? = some e ∧ isG gs m (rwE gs e) ∧ B u = some v ∧ ∀ t' e' v', t' < t → (ENs gs m)[t']? = some e' → isG gs m (rwE gs e') → B t' = some v' → pkN v ≤ pkN v'
theorem itP.no {gs : List (List Nat)} {m t : Nat} {B : BsT} {x : Int32} (h : itP gs m B t x) (hn : ∀ e v, (ENs gs m)[t]? = some e → isG gs m (rwE gs e) → B t = some v → False) : itP gs m B (t + 1) x := by
  rcases h with ⟨a, b⟩ | ⟨u, v, e, a, b, c, d, f⟩
  · refine Or.inl ⟨a, fun t' e v h1 h2 h3 h4 => ?_⟩
    by_cases y : t' = t
    · subst y
      exact hn e v h2 h3 h4
    · exact b t' e v (by omega) h2 h3 h4
  · refine Or.inr ⟨u, v, e, a, b, c, d, fun t' e' v' h1 h2 h3 h4 => ?_⟩
    by_cases y : t' = t
    · subst y
      exact (hn e' v' h2 h3 h4).elim
    · exact f t' e' v' (by omega) h2 h3 h4
theorem md_witness {d : Nat} {h : PH} {Q : PQ} {gs : List (List Nat)} {m : Nat} {w : List Nat} (hM : MdS h) (hg : MGr h gs m) (hu : unlk gs) (hz : MTz h gs m) (hw : MWd h w) (k : ∀ o h', lst (Twn gs m) o → MWd h' (o.getD w) → MTl h' gs m → Fr Wwt h h' → Q (some (.int (foI o))) h') : wpm (d + 6) 222 [.ref 17] h Q := by
  refine wpm_in P_Md_witness rfl (by decide) (by show ¬ 5 < 1; decide) (B_Md_witness_0 hM.1 ?_)
  have ho := hg.1
  have h14 := ho.1
  have N84 := ENs_len (gs := gs) (m := m) ho
  refine md_layTails ((th0 h).md hM) (th0_mg hg) hu (th0_mt ho hz) (fun h1 T1 f1 => ?_)
  have F1 := pt_up f1
  have hM1 := F1.md hM
  have hg1 : MGr h1 gs m := MGr.fr F1 (fun c k z y => by unfold Wpt Wlt at z; omega) hg
  have F1w : Fr Wwt h h1 := F1.up (fun c k z => Or.inl z)
  have hw1 : MWd h1 w := MWd.fr F1 (fun c k z y => by unfold Wpt Wlt at z; omega) hw
  have hS := allR_S (gs := gs) (m := m) ho
  have e34 : h_i h1 17 34 = dbR (allR gs m) := T1.2.2.2.2.2
  have d0 := dbR_n (R := allR gs m) (allR_db ho)
  refine B_Md_witness_9 hM1.1 (fun z => B_Md_witness_18 hM1.1 ?_) (fun z => B_Md_witness_16 (k none h1 (lst_lb ?_) hw1 T1 F1w))
  · rw [e34] at z
    have hex : ∃ x w0, Lb gs m x w0 ∧ isG gs m x := by
      cases e : (allR gs m).2 with
      | none => exact absurd e (d0.mp z)
      | some y =>
        have := hS.2.2
        rw [e] at this
        obtain ⟨x, x1, x2⟩ := this.2.2.1
        obtain ⟨w0, hw0⟩ := rnd_lb _ _ x1
        exact ⟨x, w0, hw0, x2⟩
    refine md_layBest hM1 hg1 hu T1 (fun h2 B hH hB hall f2 => B_Md_witness_22 ?_)
    have hM2 := f2.md hM1
    have T2 := T1.fr f2 wbt_t ho
    have hg2 : MGr h2 gs m := MGr.fr f2 wbt_g hg1
    have mg : ∀ {g : PH}, Fr Wtr h2 g → MGr g gs m := fun hf => MGr.fr hf (fun c k q => by unfold Wtr at q; omega) hg2
    have mt : ∀ {g : PH}, Fr Wtr h2 g → MTl g gs m := fun hf => T2.fr hf (fun c k q y => by unfold Wtr at q; unfold Wlt at y; omega) ho
    have mB : ∀ {g : PH}, Fr Wtr h2 g → BsH g B (ENs gs m).length := fun hf u hu => (hH u hu).fr hf (fun z => by unfold Wtr at z; omega) (fun b _ i _ z => by unfold Wtr at z; omega)
    have loop : ∀ (c t : Nat) (g : PH) (x1 : Int32) (v3 v4 : Value), (ENs gs m).length - t = c → t ≤ (ENs gs m).length → Fr Wtr h2 g → itP gs m B t x1 → wpx (d + 5) P_Md_witness 26 [.ref 17, .int x1, .int (nI t), v3, v4] [] g Q := by
      intro c
      induction c with
      | zero =>
        intro t g x1 v3 v4 hc ht hF hi
        have hMg := hF.md hM2
        refine B_Md_witness_26 hMg.1 (fun _ => ?_) (fun z => ?_)
        · rcases hi with ⟨_, b⟩ | ⟨u, v, e, a, b, c', d', f⟩
          · obtain ⟨x, w0, hw0, hx⟩ := hex
            obtain ⟨u, f, v, a1, a2, a3, _⟩ := hall x w0 hw0
            exact (b u f v (by have := (List.getElem?_eq_some_iff.mp a1).1; omega) a1 (by rw [a2]; exact hx) a3).elim
          · have ul := (List.getElem?_eq_some_iff.mp b).1
            have e800 : ((800 : Int32) * nI u) = nI (800 * u) := by rw [show (800 : Int32) = nI 800 from rfl, nI_mulN]
            have hSu := mB hF u ul
            rw [d'] at hSu
            have v505 := hB.len ho d'
            rw [a]
            refine B_Md_witness_181 hMg.1 (mr_best hMg) (mr_bestSize hMg) (ms_bestSize hMg) (vp_in_nI (by omega) (by omega)) ?_
            rw [e800, nI_clamp (by omega), hSu.2.1]
            refine md_takesWord hMg (ms_best hMg) (by decide) (by omega) (by omega) ⟨by omega, hSu.1⟩ hSu.2.2 (fun h3 w3 f3 => B_Md_witness_200 (f3.md hMg).1 ?_)
            rw [w3.2.1]
            refine k (some v) h3 (lst_lb ⟨?_, fun w' ⟨t', l1, l2⟩ => ?_⟩) w3 ((mt hF).fr f3 (fun c k q y => by unfold Wmd at q; unfold Wlt at y; omega) ho) ((F1w.tr (f2.up (fun c k q => Or.inr (Or.inl q)))).tr ((hF.up (fun c k q => Or.inr (Or.inl (Or.inl q)))).tr (f3.up (fun c k q => Or.inr (Or.inr q)))))
            · obtain ⟨e', a1, a2⟩ := (hB u v d').1
              rw [b] at a1
              cases a1
              exact ⟨_, a2, c'⟩
            · obtain ⟨u', f', v', a1, a2, a3, a4⟩ := hall t' w' l1
              exact Nat.le_trans (f u' f' v' (by have := (List.getElem?_eq_some_iff.mp a1).1; omega) a1 (by rw [a2]; exact l2) a3) a4
        · rw [(mt hF).1.2.1, nI_leI (by omega) (by omega)] at z
          omega
      | succ c ih =>
        intro t g x1 v3 v4 hc ht hF hi
        have nx1 : (ENs gs m).length - (t + 1) = c := by omega
        have nx2 : t + 1 ≤ (ENs gs m).length := by omega
        have hMg := hF.md hM2
        have he : (ENs gs m)[t]? = some ((ENs gs m)[t]'(by omega)) := List.getElem?_eq_getElem (by omega)
        generalize (ENs gs m)[t]'(by omega) = e at he
        have hG := tl_G ho he (f := fun g' => h_i g 31 (14 * t + g')) (fun g' hg' => (mt hF).2.2.1 t g' (by omega) hg')
        have next : ∀ (g' : PH) (x1' x3 x4 : Int32), Fr Wtr h2 g' → itP gs m B (t + 1) x1' → wpx (d + 5) P_Md_witness 175 [.ref 17, .int x1', .int (nI t), .int x3, .int x4] [] g' Q := fun g' x1' x3 x4 f' i' => by
          refine B_Md_witness_175 ?_
          rw [nI_1]
          exact ih (t + 1) g' x1' _ _ nx1 nx2 f' i'
        refine B_Md_witness_26 hMg.1 (fun z => ?_) (fun _ => B_Md_witness_34 ?_)
        · rw [(mt hF).1.2.1, nI_leI (by omega) (by omega)] at z
          omega
        have at79 : ∀ (x3 x4 : Int32), ((x3 = 1 ∧ isG gs m (rwE gs e)) ∨ (x3 = 0 ∧ ¬ isG gs m (rwE gs e))) → wpx (d + 5) P_Md_witness 79 [.ref 17, .int x1, .int (nI t), .int x3, .int x4] [] g Q := by
          intro x3 x4 hx
          rcases hx with ⟨y, gT⟩ | ⟨y, gT⟩
          · rw [y]
            refine B_Md_witness_79 (fun z => absurd z (by decide)) (fun _ => ?_)
            have hSt := mB hF t (by omega)
            cases eB : B t with
            | none =>
              rw [eB] at hSt
              have s1 : h_i g 33 t = -1 := hSt
              refine B_Md_witness_83 hMg.1 (mr_bestSize hMg) (ms_bestSize hMg) (vp_in_nI (by omega) (by omega)) (fun z => ?_) (fun _ => B_Md_witness_92 (next g x1 _ _ hF (hi.no (fun e' v' _ _ a3 => by rw [eB] at a3; cases a3))))
              rw [nI_clamp (by omega), s1] at z
              exact absurd z (by decide)
            | some v =>
              rw [eB] at hSt
              have v505 := hB.len ho eB
              have lv : lets v := hSt.1
              have s1 : h_i g 33 t = nI v.length := hSt.2.1
              refine B_Md_witness_83 hMg.1 (mr_bestSize hMg) (ms_bestSize hMg) (vp_in_nI (by omega) (by omega)) (fun _ => B_Md_witness_95 hMg.1 (mr_bestSize hMg) (ms_bestSize hMg) (vp_in_nI (by omega) (by omega)) ?_) (fun z => ?_)
              · rw [nI_clamp (by omega), s1]
                have e800 : ((800 : Int32) * nI t) = nI (800 * t) := by rw [show (800 : Int32) = nI 800 from rfl, nI_mulN]
                refine tri_copy (h := g) (t := t) (w := v) (R := fun i g => wpx (d + 5) P_Md_witness 108 [.ref 17, .int x1, .int (nI t), .int 1, .int (nI i)] [] g Q) (by omega) hSt (fun i g1 hi f1 st hR => ?_) (fun g1 f1 t1 => ?_)
                · have hM3 := f1.md hMg
                  refine B_Md_witness_108 hM3.1 (fun q => ?_) (fun _ => B_Md_witness_117 hM3.1 (mr_trial hM3) (mr_best hM3) (ms_best hM3) (by rw [e800, nI_add]; exact vp_in_nI (by omega) (by omega)) (ms_trial hM3) (vp_in_nI (by omega) (by omega)) ?_)
                  · rw [st, nI_leI (by omega) (by omega)] at q
                    omega
                  · rw [e800, nI_add, nI_clamp (by omega), nI_clamp (by omega), nI_1]
                    exact hR
                · have hM3 := f1.md hMg
                  have F3 := hF.tr f1
                  have setT : (∀ t' e' v', t' < t → (ENs gs m)[t']? = some e' → isG gs m (rwE gs e') → B t' = some v' → pkN v ≤ pkN v') → itP gs m B (t + 1) (nI t) := fun hl => Or.inr ⟨t, v, e, rfl, he, gT, eB, fun t' e' v' h1 h2 h3 h4 => by
                    by_cases y : t' = t
                    · subst y
                      rw [eB] at h4
                      cases h4
                      exact Nat.le_refl _
                    · exact hl t' e' v' (by omega) h2 h3 h4⟩
                  refine B_Md_witness_108 hM3.1 (fun _ => ?_) (fun q => ?_)
                  · rcases hi with ⟨a, b⟩ | ⟨u, v0, e0, a, b, c', d', f⟩
                    · rw [a]
                      exact B_Md_witness_143 (fun _ => B_Md_witness_169 (B_Md_witness_174 (next g1 _ _ _ F3 (setT (fun t' e' v' h1 h2 h3 h4 => (b t' e' v' h1 h2 h3 h4).elim))))) (fun z => absurd (by decide) z)
                    · have ul := (List.getElem?_eq_some_iff.mp b).1
                      have hSu := mB F3 u ul
                      rw [d'] at hSu
                      have u505 := hB.len ho d'
                      have e800u : ((800 : Int32) * nI u) = nI (800 * u) := by rw [show (800 : Int32) = nI 800 from rfl, nI_mulN]
                      rw [a]
                      refine B_Md_witness_143 (fun z => absurd z (nI_lt0 (by omega))) (fun _ => B_Md_witness_147 hM3.1 (mr_best hM3) (mr_bestSize hM3) (ms_bestSize hM3) (vp_in_nI (by omega) (by omega)) ?_)
                      rw [e800u, nI_clamp (by omega)]
                      refine md_isBefore hM3 t1 lv (ms_best hM3) (by omega) hSu (fun b' hb' => by cases hb'; exact ⟨by omega, by omega⟩) (fun z => B_Md_witness_166 (fun y => absurd y (by decide)) (fun _ => B_Md_witness_169 (B_Md_witness_174 (next g1 _ _ _ F3 (setT (fun t' e' v' h1 h2 h3 h4 => ?_)))))) (fun z => B_Md_witness_166 (fun _ => B_Md_witness_173 (B_Md_witness_174 (next g1 _ _ _ F3 (Or.inr ⟨u, v0, e0, rfl, b, c', d', fun t' e' v' h1 h2 h3 h4 => ?_⟩)))) (fun y => absurd rfl y))
                      · have z' : pkN v < pkN v0 := z
                        have := f t' e' v' h1 h2 h3 h4
                        omega
                      · by_cases y : t' = t
                        · subst y
                          rw [eB] at h4
                          cases h4
                          exact Nat.le_of_not_lt z
                        · exact f t' e' v' (by omega) h2 h3 h4
                  · rw [t1.2.1, nI_leI (by omega) (by omega)] at q
                    omega
              · rw [nI_clamp (by omega), s1] at z
                exact absurd ((nI_leI (a := 0) (by omega) (by omega)).mpr (Nat.zero_le _)) z
          · rw [y]
            refine B_Md_witness_79 (fun _ => next g x1 _ _ hF (hi.no (fun e' v' a1 a2 _ => ?_))) (fun z => absurd rfl z)
            rw [he] at a1
            cases a1
            exact gT a2
        have ends : ∀ (c2 j : Nat) (x3 : Int32), gs.length - j = c2 → j ≤ gs.length → ((x3 = 1 ∧ ∃ g', g' < gs.length ∧ h_i g 31 (14 * t + g') = -2) ∨ (x3 = 0 ∧ ∀ g', g' < j → ¬ h_i g 31 (14 * t + g') = -2)) → wpx (d + 5) P_Md_witness 39 [.ref 17, .int x1, .int (nI t), .int x3, .int (nI j)] [] g Q := by
          intro c2
          induction c2 with
          | zero =>
            intro j x3 hc2 hj hx
            refine B_Md_witness_39 hMg.1 (fun _ => at79 x3 _ (hx.imp (fun ⟨a, b⟩ => ⟨a, hG.mpr b⟩) (fun ⟨a, b⟩ => ⟨a, fun y => ?_⟩))) (fun z => ?_)
            · rw [(mg hF).2.1, nI_leI (by omega) (by omega)] at z
              omega
            · obtain ⟨g', q1, q2⟩ := hG.mp y
              exact b g' (by omega) q2
          | succ c2 ih2 =>
            intro j x3 hc2 hj hx
            have nj1 : gs.length - (j + 1) = c2 := by clear hx; omega
            have nj2 : j + 1 ≤ gs.length := by clear hx; omega
            have e14 : ((14 : Int32) * nI t) + nI j = nI (14 * t + j) := by rw [show (14 : Int32) = nI 14 from rfl, nI_mulN, nI_add]
            refine B_Md_witness_39 hMg.1 (fun z => ?_) (fun _ => B_Md_witness_48 hMg.1 (mr_toTail hMg) (ms_toTail hMg) (by rw [e14]; exact vp_in_nI (by omega) (by omega)) (fun z => B_Md_witness_70 (B_Md_witness_71 ?_)) (fun z => B_Md_witness_66 (B_Md_witness_71 ?_)))
            · rw [(mg hF).2.1, nI_leI (by omega) (by omega)] at z
              omega
            · rw [e14, nI_clamp (by omega)] at z
              rw [nI_1]
              refine ih2 (j + 1) _ nj1 nj2 (hx.imp (fun ⟨a, b⟩ => ⟨by rw [a]; decide, b⟩) (fun ⟨a, b⟩ => ⟨by rw [a]; decide, fun g' hg' => ?_⟩))
              by_cases y : g' = j
              · rw [y]
                exact z
              · exact b g' (by omega)
            · rw [e14, nI_clamp (by omega)] at z
              rw [nI_1]
              refine ih2 (j + 1) _ nj1 nj2 (Or.inl ⟨?_, j, by omega, z⟩)
              rcases hx with ⟨a, _⟩ | ⟨a, _⟩ <;> rw [a] <;> decide
        exact ends gs.length 0 0 rfl (Nat.zero_le _) (Or.inr ⟨rfl, fun g' hg' => absurd hg' (Nat.not_lt_zero _)⟩)
    exact loop (ENs gs m).length 0 h2 (-1) _ _ rfl (Nat.zero_le _) (Fr.rf _ _) (Or.inl ⟨rfl, fun t' e v hl => absurd hl (Nat.not_lt_zero _)⟩)
  · rw [e34] at z
    have e : (allR gs m).2 = none := Classical.byContradiction (fun y => z (d0.mpr y))
    have h3 := hS.2.2
    rw [e] at h3
    rintro w' ⟨t, l1, l2⟩
    obtain ⟨j, hj⟩ := l1.rnd
    by_cases y : j < (allR gs m).1.length
    · exact h3 j t y hj l2
    · exact allR_no ho (by omega) hj
