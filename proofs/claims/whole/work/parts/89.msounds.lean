/-! sounds: the reference's side -/
def Wms (c k : Nat) : Prop := (c = 17 ∧ (k = 0 ∨ k = 41 ∨ k = 42)) ∨ c = 36 ∨ c = 37
theorem md_sounds {d : Nat} {h : PH} {Q : PQ} {gs : List (List Nat)} {m : Nat} {w : List Nat} {so : Nat → Int32} (hM : MdS h) (hw : MWd h w) (hg : MGr h gs m) (hso : MSo h gs.length so) (hb : ∀ p, p ≤ w.length → wy gs m w p < 2 ^ 63) (k : ∀ h', Fr Wms h h' → Q (some (.int (sndR gs m w so))) h') : wpm (d + 4) 233 [.ref 17] h Q := by
  refine wpm_in P_Md_sounds rfl (by decide) (by show ¬ 5 < 1; decide) ?_
  have h8 := hw.1.1
  have h14 := hg.1.1
  have hb0 := hb 0 (Nat.zero_le _)
  unfold sndR at k
  have hWd : ∀ {x : PH}, Fr Wms h x → MWd x w := fun hx => hw.fr hx (fun c k q => by rcases q with q | q | q <;> omega)
  have hGd : ∀ {x : PH}, Fr Wms h x → MGr x gs m := fun hx => hg.fr hx (fun c k q => by rcases q with q | q | q <;> omega)
  have hSd : ∀ {x : PH}, Fr Wms h x → MSo x gs.length so := fun hx => hso.fr hx (fun c k q => by rcases q with q | q | q <;> omega)
  refine B_Md_sounds_0 hM.1 (mr_word hM) ?_
  have hf0 := th_fr h
  have hM0 := hf0.md hM
  have hw0 := hw.fr hf0 wth_w
  have hg0 := hg.fr hf0 wth_g
  generalize w_i h 17 0 0 = g0 at hf0 hM0 hw0 hg0 ⊢
  rw [hw0.2.1]
  refine md_layWays hM0 (hw0.rw hM0) (by decide) hg0 (fun g hc hf => ?_)
  have hF : Fr Wms h g := (hf0.up (fun c k q => Or.inl ⟨q.1, Or.inl q.2⟩)).tr (hf.up (fun c k q => Or.inr (Or.inl q)))
  have hM1 := hF.md hM
  refine B_Md_sounds_17 hM1.1 (mr_ways hM1) (ms_ways hM1) (vp_in_nI (n := 0) (by omega) (by omega)) (fun q => ?_) (fun q => ?_)
  · rw [hc 0 (Nat.zero_le _), show (2 : Int64) = lN 2 from rfl, lg_ge hb0 (by omega)] at q
    rw [if_neg (by omega)] at k
    generalize hR : snr gs m w so (w.length + 1) 0 0 = R at k
    -- the second reading beside the row of the first
    have second : ∀ (c p n s : Nat) (g' : PH), R.length ≤ w.length → w.length - p < c → p ≤ w.length → s ≤ p → s ≤ R.length → n < wy gs m w p → Fr Wms h g' → MWy g' gs m w → h_i g' 17 41 = nI p → (∀ t v, R[t]? = some v → h_i g' 37 t = v) → (∀ h', Fr Wms h h' → Q (some (.int (if R.drop s = snr gs m w so c p n then 1 else 2))) h') → wpx (d + 3) P_Md_sounds 95 [.ref 17, .int (nI R.length), .long (lN n), .retAddr 2, .int (nI s)] [] g' Q := by
      intro c
      induction c with
      | zero => intro p n s g' h0 h1; omega
      | succ c ih =>
        intro p n s g' h0 h1 h2 h3 h4 h5 hf' hy ht hr k
        have hM' := hf'.md hM
        refine B_Md_sounds_95 hM'.1 (fun z => ?_) (fun z => ?_)
        · rw [(hWd hf').2.1, ht, nI_leI (by omega) (by omega)] at z
          rw [snr_no (by omega)] at k
          refine B_Md_sounds_145 (fun y => ?_) (fun y => ?_)
          · rw [nI_eq (by omega) (by omega)] at y
            rw [if_neg (fun u => by have := congrArg List.length u; rw [List.length_drop] at this; simp at this; omega)] at k
            exact B_Md_sounds_155 (B_Md_sounds_156 (k g' hf'))
          · rw [nI_eq (by omega) (by omega)] at y
            rw [if_pos (by rw [List.drop_eq_nil_iff]; omega)] at k
            exact B_Md_sounds_151 (B_Md_sounds_156 (k g' hf'))
        · rw [(hWd hf').2.1, ht, nI_leI (by omega) (by omega)] at z
          refine B_Md_sounds_106 hM'.1 (md_goesBy hM' (hWd hf') (hGd hf') hy hb (by omega) h5 ht (fun i n' l g2 e1 e2 e3 e4 e5 e6 e7 => ?_))
          obtain ⟨a1, a2, a3⟩ := hg.1.at e2
          have l1 := (List.getElem?_eq_some_iff.mp e2).1
          have hf2 : Fr Wms h g2 := hf'.tr (e7.up (fun c k q => Or.inl ⟨q.1, Or.inr q.2⟩))
          have hM2 := hf2.md hM
          rw [snr_st (by omega) e1 e2] at k
          refine B_Md_sounds_111 (fun y => ?_) (fun y => ?_)
          · rw [nI_leI (by omega) (by omega)] at y
            rw [if_neg (fun u => by rw [List.drop_eq_nil_of_le y] at u; cases u)] at k
            exact B_Md_sounds_137 (k g2 hf2)
          · rw [nI_leI (by omega) (by omega)] at y
            have gR : R[s]? = some R[s] := List.getElem?_eq_getElem (by omega)
            have eD : R.drop s = R[s] :: R.drop (s + 1) := List.drop_eq_getElem_cons (by omega)
            have eF : h_i g2 37 s = R[s] := by rw [e7.i 37 s (fun q => by omega)]; exact hr s _ gR
            generalize R[s] = v at gR eD eF
            rw [eD] at k
            have vi : vp_in (h_i g2 17 42) 14 := by rw [e6]; exact vp_in_nI a3 (by omega)
            refine B_Md_sounds_118 hM2.1 (mr_firstRow hM2) (ms_firstRow hM2) (vp_in_nI (by omega) (by omega)) (mr_soundOf hM2) (ms_soundOf hM2) vi (fun u => ?_) (fun u => ?_)
            · rw [e6, nI_clamp (by omega), nI_clamp (by omega), eF, hSd hf2 i l1] at u
              refine B_Md_sounds_139 ?_
              rw [nI_1]
              refine ih _ n' (s + 1) g2 h0 (by omega) e3 (by omega) (by omega) e4 hf2 (hy.fr e7 (fun k q => by omega)) e5 (fun t v ht => by rw [e7.i 37 t (fun q => by omega)]; exact hr t v ht) (fun h' hh => ?_)
              have := k h' hh
              rw [u] at this
              simp only [List.cons.injEq, true_and] at this
              exact this
            · rw [e6, nI_clamp (by omega), nI_clamp (by omega), eF, hSd hf2 i l1] at u
              rw [if_neg (fun y => u (List.cons.inj y).1)] at k
              exact B_Md_sounds_137 (k g2 hf2)
    -- the row of the first
    have first : ∀ (c p s : Nat) (pre : List Int32) (g' : PH) (v4 : Value), w.length - p < c → p ≤ w.length → s = pre.length → s ≤ p → 0 < wy gs m w p → Fr Wms h g' → MWy g' gs m w → h_i g' 17 41 = nI p → (∀ t v, pre[t]? = some v → h_i g' 37 t = v) → pre ++ snr gs m w so c p 0 = R → wpx (d + 3) P_Md_sounds 47 [.ref 17, .int (nI s), .long (lN 0), .retAddr 2, v4] [] g' Q := by
      intro c
      induction c with
      | zero => intro p s pre g' v4 h1; omega
      | succ c ih =>
        intro p s pre g' v4 h1 h2 h3 h4 h5 hf' hy ht hr hp
        have hM' := hf'.md hM
        refine B_Md_sounds_47 hM'.1 (fun z => ?_) (fun z => ?_)
        · rw [(hWd hf').2.1, ht, nI_leI (by omega) (by omega)] at z
          rw [snr_no (by omega), List.append_nil] at hp
          subst hp
          refine B_Md_sounds_85 hM'.1 ?_
          rw [h3]
          refine second (w.length + 1) 0 1 0 _ (by omega) (by omega) (Nat.zero_le _) (Nat.le_refl _) (Nat.zero_le _) (by omega) (hf'.tr (Fr.wi _ _ (Or.inl ⟨rfl, Or.inr (Or.inl rfl)⟩))) (hy.fr (Fr.wi (W := fun c k => c = 17 ∧ k = 41) g' _ ⟨rfl, rfl⟩) (fun k q => by omega)) (wi_eq ..) (fun t v e => by rw [wi_ne _ _ (by omega)]; exact hr t v e) ?_
          rw [List.drop_zero]
          exact k
        · rw [(hWd hf').2.1, ht, nI_leI (by omega) (by omega)] at z
          refine B_Md_sounds_58 hM'.1 (md_goesBy hM' (hWd hf') (hGd hf') hy hb (by omega) h5 ht (fun i n' l g2 e1 e2 e3 e4 e5 e6 e7 => ?_))
          obtain ⟨a1, a2, a3⟩ := hg.1.at e2
          have l1 := (List.getElem?_eq_some_iff.mp e2).1
          have en := gto_zero _ _ _ _ e1
          subst en
          have hf2 : Fr Wms h g2 := hf'.tr (e7.up (fun c k q => Or.inl ⟨q.1, Or.inr q.2⟩))
          have hM2 := hf2.md hM
          rw [snr_st (by omega) e1 e2] at hp
          have vi : vp_in (h_i g2 17 42) 14 := by rw [e6]; exact vp_in_nI a3 (by omega)
          refine B_Md_sounds_63 hM2.1 (mr_firstRow hM2) (mr_soundOf hM2) (ms_soundOf hM2) vi (ms_firstRow hM2) (vp_in_nI (by omega) (by omega)) ?_
          rw [e6, nI_clamp (by omega), nI_clamp (by omega), hSd hf2 i l1, nI_1]
          refine ih _ (s + 1) (pre ++ [so i]) _ _ (by omega) e3 (by rw [List.length_append, h3]; rfl) (by omega) e4 (hf2.tr (Fr.wi _ _ (Or.inr (Or.inr rfl)))) ((hy.fr e7 (fun k q => by omega)).fr (Fr.wi (W := fun c k => c = 37) g2 _ rfl) (fun k q => by omega)) (by rw [wi_ne _ _ (by omega)]; exact e5) (fun t v e => ?_) (by rw [List.append_assoc]; exact hp)
          by_cases et : t = s
          · subst et
            rw [wi_eq]
            rw [List.getElem?_append_right (by omega), h3, Nat.sub_self] at e
            exact Option.some.inj e
          · rw [wi_ne _ _ (by omega), e7.i 37 t (fun q => by omega)]
            have hlt := (List.getElem?_eq_some_iff.mp e).1
            rw [List.length_append] at hlt
            rw [List.getElem?_append_left (by have : [so i].length = 1 := rfl; omega)] at e
            exact hr t v e
    refine B_Md_sounds_38 hM1.1 ?_
    exact first (w.length + 1) 0 0 [] _ _ (by omega) (Nat.zero_le _) rfl (Nat.le_refl _) (by omega) (hF.tr (Fr.wi _ _ (Or.inl ⟨rfl, Or.inr (Or.inl rfl)⟩))) (hc.fr (Fr.wi (W := fun c k => c = 17 ∧ k = 41) g _ ⟨rfl, rfl⟩) (fun k q => by omega)) (wi_eq ..) (fun t v e => by cases e) hR
  · rw [hc 0 (Nat.zero_le _), show (2 : Int64) = lN 2 from rfl, lg_ge hb0 (by omega)] at q
    rw [if_pos (by omega)] at k
    refine B_Md_sounds_30 hM1.1 (mr_ways hM1) (ms_ways hM1) (vp_in_nI (n := 0) (by omega) (by omega)) ?_
    rw [hc 0 (Nat.zero_le _), lN_small (by omega)]
    exact k g hF
