/-! THE MODEL: undo -/
def Wmu (c k : Nat) : Prop := c = 18 ∨ c = 19 ∨ (c = 17 ∧ (k = 0 ∨ k = 6 ∨ k = 76 ∨ k = 25 ∨ k = 26 ∨ k = 70))
theorem nil_or_last {α : Type} : ∀ l : List α, l = [] ∨ ∃ l' x, l = l' ++ [x]
  | [] => Or.inl rfl
  | a :: l => by
    rcases nil_or_last l with h | ⟨l', x, h⟩
    · exact Or.inr ⟨[], a, by rw [h]; rfl⟩
    · exact Or.inr ⟨a :: l', x, by rw [h]; rfl⟩
theorem md_undo {d : Nat} {h : PH} {Q : PQ} {gs : List (List Nat)} {m : Nat} {as : List (List (List Nat) × Nat)} (hM : MdS h) (hg : MGr h gs m) (hk : MKp h as) (hs : ∀ s ∈ as, s.1.length = gs.length) (kf : as = [] → Q (some (.int 0)) (w_i h 17 0 0)) (kt : ∀ as' gs' m', as = as' ++ [(gs', m')] → ∀ h', MKp h' as' → MGr h' gs' m' → Fr Wmu h h' → h_i h' 17 25 = 0 → h_i h' 17 26 = 0 → h_i h' 17 70 = 0 → Q (some (.int 1)) h') : wpm (d + 2) 281 [.ref 17] h Q := by
  refine wpm_in P_Md_undo rfl (by decide) (by show ¬ 3 < 1; decide) ?_
  have F0 := th_fr h
  have hM0 := hM
  have hM := F0.md hM
  have hg := hg.fr F0 wth_g
  have hk := hk.fr F0 wth_k
  have h12 := hk.2.1
  refine B_Md_undo_0 hM0.1 (fun q => ?_) (fun q => ?_)
  · generalize w_i h 17 0 0 = g at kf hM hg hk F0 q ⊢
    rcases nil_or_last as with e | ⟨as', s, rfl⟩
    · exfalso
      rw [hk.1, e] at q
      exact q rfl
    · obtain ⟨gs', m'⟩ := s
      rw [List.length_append] at h12
      have h11 : as'.length ≤ 11 := by have : [(gs', m')].length = 1 := rfl; omega
      have hl : gs'.length = gs.length := hs (gs', m') (List.mem_append.mpr (Or.inr (List.mem_singleton.mpr rfl)))
      have ho : okg gs' m' := hk.2.2.1 (gs', m') (List.mem_append.mpr (Or.inr (List.mem_singleton.mpr rfl)))
      have sn : KSn g as'.length (gs', m') := hk.2.2.2 as'.length (gs', m') (by rw [List.getElem?_append_right (Nat.le_refl _), Nat.sub_self]; rfl)
      have e76 : h_i g 17 76 - (1 : Int32) = nI as'.length := by
        rw [hk.1, List.length_append]
        exact nI_pred _
      refine B_Md_undo_14 hM.1 ?_
      rw [e76, wi_eq, show (141 : Int32) = nI 141 from rfl, nI_mulN]
      generalize hh : w_i g 17 76 (nI as'.length) = g0
      have f0 : Fr (fun c k => c = 17 ∧ k = 76) g g0 := by rw [← hh]; exact Fr.wi _ _ ⟨rfl, rfl⟩
      have k62 : ∀ i, h_i g0 62 i = h_i g 62 i := fun i => f0.i 62 i (fun q => absurd q.1 (by decide))
      have hM1 := f0.md hM
      have sizes : ∀ (c j : Nat) (g1 : PH), 14 - j = c → j ≤ 14 → Fr (fun c _ => c = 18 ∨ c = 19) g0 g1 → (∀ i, i < 112 → h_i g1 18 i = h_i g 62 (141 * as'.length + i)) → (∀ i, i < j → h_i g1 19 i = h_i g 62 (141 * as'.length + 112 + i)) → wpx (d + 1) P_Md_undo 63 [.ref 17, .int (nI (141 * as'.length)), .int (nI j)] [] g1 Q := by
        intro c
        induction c with
        | zero =>
          intro j g1 hj hle hf h1 h2
          have ej : j = 14 := by omega
          subst ej
          have hG := hf.md hM1
          refine B_Md_undo_63 (fun _ => ?_) (fun q => absurd (by decide) q)
          refine B_Md_undo_92 hG.1 (mr_kept hG) (ms_kept hG) (by rw [show (126 : Int32) = nI 126 from rfl, nI_add]; exact vp_in_nI (by omega) (by omega)) ?_
          rw [show (126 : Int32) = nI 126 from rfl, nI_add, nI_clamp (by omega), hf.i 62 _ (by omega), k62, sn.1]
          generalize hh2 : w_i g1 17 6 (nI (gs', m').2) = g2
          have f2 : Fr (fun c k => c = 17 ∧ k = 6) g1 g2 := by rw [← hh2]; exact Fr.wi _ _ ⟨rfl, rfl⟩
          refine md_another (f2.md hG) (fun g3 f3 z1 z2 z3 => B_Md_undo_109 ?_)
          have A18 : ∀ c i, c ≠ 17 → h_i g3 c i = h_i g1 c i := fun c i hc => by
            rw [f3.i c i (fun q => hc q.1), f2.i c i (fun q => hc q.1)]
          refine kt as' gs' m' rfl g3 ⟨?_, by omega, fun s hs => hk.2.2.1 s (List.mem_append.mpr (Or.inl hs)), fun n s hn => ?_⟩ ⟨ho, ?_, ?_, fun t l ht => ⟨?_, fun j x hj => ?_⟩⟩ ?_ z1 z2 z3
          · rw [f3.i 17 76 (by decide), f2.i 17 76 (by decide), hf.i 17 76 (by decide), ← hh, wi_eq]
          · have hlt := (List.getElem?_eq_some_iff.mp hn).1
            refine KSn.eq (hk.2.2.1 s (List.mem_append.mpr (Or.inl (List.mem_of_getElem? hn)))) (fun i _ => ?_) (hk.2.2.2 n s (by rw [List.getElem?_append_left hlt]; exact hn))
            rw [A18 62 _ (by decide), hf.i 62 _ (by omega), k62]
          · rw [f3.i 17 4 (by decide), f2.i 17 4 (by decide), hf.i 17 4 (by decide), f0.i 17 4 (by decide), hl]
            exact hg.2.1
          · rw [f3.i 17 6 (by decide), ← hh2, wi_eq]
          · have t3 := (ho.at ht).2.2
            rw [A18 19 _ (by decide), h2 t (by omega)]
            exact (sn.2 t l ht).1
          · have t3 := (ho.at ht).2.2
            have t7 := (ho.at ht).1.2
            have hj' := (List.getElem?_eq_some_iff.mp hj).1
            rw [A18 18 _ (by decide), h1 _ (by omega)]
            exact (sn.2 t l ht).2 j x hj
          · refine ((((F0.up (fun c k q => ?_)).tr (f0.up (fun c k q => ?_))).tr (hf.up (fun c k q => ?_))).tr (f2.up (fun c k q => ?_))).tr (f3.up (fun c k q => ?_))
            · exact Or.inr (Or.inr ⟨q.1, Or.inl q.2⟩)
            · exact Or.inr (Or.inr ⟨q.1, by omega⟩)
            · rcases q with q | q
              · exact Or.inl q
              · exact Or.inr (Or.inl q)
            · exact Or.inr (Or.inr ⟨q.1, by omega⟩)
            · exact Or.inr (Or.inr ⟨q.1, by omega⟩)
        | succ c ih =>
          intro j g1 hj hle hf h1 h2
          have hG := hf.md hM1
          refine B_Md_undo_63 (fun q => ?_) (fun _ => ?_)
          · have := (nI_leI (a := 14) (by omega) (by omega)).mp q
            omega
          · refine B_Md_undo_69 hG.1 (mr_size hG) (mr_kept hG) (ms_kept hG) (by rw [show (112 : Int32) = nI 112 from rfl, nI_add, nI_add]; exact vp_in_nI (by omega) (by omega)) (ms_size hG) (vp_in_nI (by omega) (by omega)) ?_
            rw [show (112 : Int32) = nI 112 from rfl, nI_add, nI_add, nI_clamp (by omega), nI_clamp (by omega), nI_1, hf.i 62 _ (by omega), k62]
            refine ih (j + 1) _ (by omega) (by omega) (hf.tr (Fr.wi _ _ (Or.inr rfl))) (fun i hi => ?_) (fun i hi => ?_)
            · rw [wi_ne _ _ (by omega)]; exact h1 i hi
            · by_cases e : i = j
              · rw [e, wi_eq]
              · rw [wi_ne _ _ (by omega)]; exact h2 i (by omega)
      have letters : ∀ (c j : Nat) (g1 : PH), 112 - j = c → j ≤ 112 → Fr (fun c _ => c = 18 ∨ c = 19) g0 g1 → (∀ i, i < j → h_i g1 18 i = h_i g 62 (141 * as'.length + i)) → wpx (d + 1) P_Md_undo 35 [.ref 17, .int (nI (141 * as'.length)), .int (nI j)] [] g1 Q := by
        intro c
        induction c with
        | zero =>
          intro j g1 hj hle hf h1
          have ej : j = 112 := by omega
          subst ej
          refine B_Md_undo_35 (fun _ => B_Md_undo_61 ?_) (fun q => absurd (by decide) q)
          exact sizes _ 0 g1 rfl (by omega) hf h1 (fun i hi => absurd hi (by omega))
        | succ c ih =>
          intro j g1 hj hle hf h1
          have hG := hf.md hM1
          refine B_Md_undo_35 (fun q => ?_) (fun _ => ?_)
          · have := (nI_leI (a := 112) (by omega) (by omega)).mp q
            omega
          · refine B_Md_undo_41 hG.1 (mr_letters hG) (mr_kept hG) (ms_kept hG) (by rw [nI_add]; exact vp_in_nI (by omega) (by omega)) (ms_letters hG) (vp_in_nI (by omega) (by omega)) ?_
            rw [nI_add, nI_clamp (by omega), nI_clamp (by omega), nI_1, hf.i 62 _ (by omega), k62]
            refine ih (j + 1) _ (by omega) (by omega) (hf.tr (Fr.wi _ _ (Or.inl rfl))) (fun i hi => ?_)
            by_cases e : i = j
            · rw [e, wi_eq]
            · rw [wi_ne _ _ (by omega)]; exact h1 i (by omega)
      exact letters _ 0 g0 rfl (by omega) (Fr.rf _ g0) (fun i hi => absurd hi (by omega))
  · refine B_Md_undo_12 (kf ?_)
    rw [hk.1] at q
    have := (nI_eq (b := 0) (by omega) (by omega)).mp q
    exact List.eq_nil_of_length_eq_zero this
