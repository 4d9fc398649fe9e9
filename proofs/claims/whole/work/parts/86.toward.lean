/-! the next group of a reading that comes behind n others, on both sides -/
def gto (gs : List (List Nat)) (m : Nat) (w : List Nat) (p : Nat) : Nat → Nat → Nat → Option (Nat × Nat)
  | 0, _, _ => none
  | c + 1, j, n => if ftb gs m w p j = true then (if n < wy gs m w (p + (gs.getD j []).length) then some (j, n) else gto gs m w p c (j + 1) (n - wy gs m w (p + (gs.getD j []).length))) else gto gs m w p c (j + 1) n
theorem lg_ge {a b : Nat} (ha : a < 2 ^ 63) (hb : b < 2 ^ 63) : 0 ≤ lg_cmp (lN a) (lN b) ↔ b ≤ a := by
  unfold lg_cmp
  by_cases q : lN b < lN a
  · rw [if_pos q]
    rw [lN_ltI hb ha] at q
    exact ⟨fun _ => by omega, fun _ => by decide⟩
  · rw [if_neg q]
    rw [lN_ltI hb ha] at q
    by_cases e : lN a = lN b
    · rw [if_pos e]
      rw [lN_inj ha hb] at e
      exact ⟨fun _ => by omega, fun _ => by decide⟩
    · rw [if_neg e]
      rw [lN_inj ha hb] at e
      exact ⟨fun z => absurd z (by decide), fun z => by omega⟩
theorem CWy.fr {W : Nat → Nat → Prop} {h h' : PH} {gs : List (List Nat)} {m : Nat} {w : List Nat} (hf : Fr W h h') (hw : ∀ k, ¬ W 15 k) (hc : CWy h gs m w) : CWy h' gs m w := fun i hi => by rw [hf.l 15 i (hw i)]; exact hc i hi
theorem MWy.fr {W : Nat → Nat → Prop} {h h' : PH} {gs : List (List Nat)} {m : Nat} {w : List Nat} (hf : Fr W h h') (hw : ∀ k, ¬ W 36 k) (hc : MWy h gs m w) : MWy h' gs m w := fun i hi => by rw [hf.l 36 i (hw i)]; exact hc i hi
theorem ws_in {gs : List (List Nat)} {m : Nat} {w l : List Nat} {p j : Nat} (gj : gs[j]? = some l) (q : ftb gs m w p j = true) : wsum (fun l => wy gs m w (p + l)) gs m w p (j + 1) = wsum (fun l => wy gs m w (p + l)) gs m w p j + wy gs m w (p + l.length) := by
  have el : gs.getD j [] = l := by rw [List.getD_eq_getElem?_getD, gj]; rfl
  show _ + _ = _
  rw [if_pos q, el]
theorem ws_out {gs : List (List Nat)} {m : Nat} {w : List Nat} {p j : Nat} (q : ¬ ftb gs m w p j = true) : wsum (fun l => wy gs m w (p + l)) gs m w p (j + 1) = wsum (fun l => wy gs m w (p + l)) gs m w p j := by
  show _ + _ = _
  rw [if_neg q]
  rfl
theorem wo_toward {d : Nat} {h : PH} {Q : PQ} {gs : List (List Nat)} {m : Nat} {w : List Nat} {p n : Nat} (hO : OwS h) (hw : CWd h w) (hg : CGr h 2 gs m) (hc : CWy h gs m w) (hb : ∀ p, p ≤ w.length → wy gs m w p < 2 ^ 63) (hp : p < w.length) (hn : n < wy gs m w p) (ht : h_l h 13 4 = lN n) (k : ∀ i n' l h', gto gs m w p gs.length 0 n = some (i, n') → gs[i]? = some l → p + l.length ≤ w.length → n' < wy gs m w (p + l.length) → h_l h' 13 4 = lN n' → Fr (fun c k => c = 13 ∧ k = 4) h h' → Q (some (.int (nI i))) h') : wpm (d + 4) 114 [.ref 13, .ref 2, .int (nI p)] h Q := by
  refine wpm_in P_Wo_groupToward rfl (by decide) (by show ¬ 6 < 3; decide) ?_
  have h8 := hw.1.1
  have h14 := hg.1.1
  have hbp := hb p (by omega)
  have hrec := wy_rec (w := w) hg.1 hp
  generalize hR : gto gs m w p gs.length 0 n = R at k
  have loop : ∀ (c j n : Nat) (g : PH) (v4 v5 : Value), gs.length - j = c → j ≤ gs.length → Fr (fun c k => c = 13 ∧ k = 4) h g → h_l g 13 4 = lN n → n + wsum (fun l => wy gs m w (p + l)) gs m w p j < wy gs m w p → gto gs m w p c j n = R → wpx (d + 3) P_Wo_groupToward 2 [.ref 13, .ref 2, .int (nI p), .int (nI j), v4, v5] [] g Q := by
    intro c
    induction c with
    | zero =>
      intro j n g v4 v5 hc' hj hf ht hs hR
      have ej : j = gs.length := by omega
      rw [ej, ← hrec] at hs
      omega
    | succ c ih =>
      intro j n g v4 v5 hc' hj hf ht hs hR
      have hO' := hf.ow hO
      have hw' : CWd g w := hw.fr hf (fun c k q => by omega)
      have hg' : CGr g 2 gs m := hg.fr hf (fun c k q => by omega)
      have hy' : CWy g gs m w := hc.fr hf (fun k q => by omega)
      have hG := GrS_2 hO'
      refine B_Wo_groupToward_2 hG.1 (fun q => ?_) (fun _ => ?_)
      · rw [hg'.2.1, nI_leI (by omega) (by omega)] at q
        omega
      · have gj : gs[j]? = some gs[j] := List.getElem?_eq_getElem (by omega)
        generalize gs[j] = l at gj
        have el : gs.getD j [] = l := by rw [List.getD_eq_getElem?_getD, gj]; rfl
        obtain ⟨a1, a2, a3⟩ := hg.1.at gj
        have h7 := a1.2
        unfold gto at hR
        refine B_Wo_groupToward_10 (os_theWord hO') (wo_fits hO' hw' hg' gj (by omega) (fun q => ?_) (fun q => ?_))
        · have hle := ftb_le (show p ≤ w.length by omega) q
          rw [el] at hle
          have hbl := hb (p + l.length) hle
          rw [if_pos q, el] at hR
          refine B_Wo_groupToward_17 (fun z => absurd z (by decide)) (fun _ => ?_)
          have e0 : (nI p + h_i g (2 + 2) (nI j).toNatClampNeg) = nI (p + l.length) := by rw [nI_clamp (by omega), (hg'.2.2.2 j l gj).2, nI_add]
          have e1 : h_l g 15 (nI p + h_i g (2 + 2) (nI j).toNatClampNeg).toNatClampNeg = lN (wy gs m w (p + l.length)) := by rw [e0, nI_clamp (by omega), hy' _ hle]
          refine B_Wo_groupToward_20 (os_theWord hO') (or_w_ways hO') hG.1 hG.2.2.1.1 hG.2.2.1.2 (vp_in_nI a3 (by omega)) (os_w_ways hO') (by rw [e0]; exact vp_in_nI (by omega) (by omega)) (fun z => ?_) (fun z => ?_)
          · rw [e1] at z ⊢
            rw [ht, lg_ge (by omega) hbl] at z
            rw [if_neg (by omega)] at hR
            refine B_Wo_groupToward_47 (os_theWord hO') (B_Wo_groupToward_58 ?_)
            rw [nI_1, ht, lN_sub z]
            refine ih (j + 1) _ _ _ _ (by omega) (by omega) (hf.tr (Fr.wl _ _ ⟨rfl, rfl⟩)) (by rw [h_l_wl, if_pos ⟨rfl, rfl⟩]) ?_ hR
            rw [ws_in gj q]
            omega
          · rw [e1] at z ⊢
            rw [ht, lg_ge (by omega) hbl] at z
            rw [if_pos (by omega)] at hR
            exact B_Wo_groupToward_45 (k j n l g hR.symm gj hle (by omega) ht hf)
        · rw [if_neg q] at hR
          refine B_Wo_groupToward_17 (fun _ => B_Wo_groupToward_58 ?_) (fun z => absurd rfl z)
          rw [nI_1]
          refine ih (j + 1) _ _ _ _ (by omega) (by omega) hf ht ?_ hR
          rw [ws_out q]
          exact hs
  exact B_Wo_groupToward_0 (loop _ 0 n h _ _ rfl (Nat.zero_le _) (Fr.rf _ h) ht (by show n + 0 < _; omega) hR)
theorem md_goesBy {d : Nat} {h : PH} {Q : PQ} {gs : List (List Nat)} {m : Nat} {w : List Nat} {p n : Nat} (hM : MdS h) (hw : MWd h w) (hg : MGr h gs m) (hc : MWy h gs m w) (hb : ∀ p, p ≤ w.length → wy gs m w p < 2 ^ 63) (hp : p < w.length) (hn : n < wy gs m w p) (ht : h_i h 17 41 = nI p) (k : ∀ i n' l h', gto gs m w p gs.length 0 n = some (i, n') → gs[i]? = some l → p + l.length ≤ w.length → n' < wy gs m w (p + l.length) → h_i h' 17 41 = nI (p + l.length) → h_i h' 17 42 = nI i → Fr (fun c k => c = 17 ∧ (k = 41 ∨ k = 42)) h h' → Q (some (.long (lN n'))) h') : wpm (d + 3) 231 [.ref 17, .long (lN n)] h Q := by
  refine wpm_in P_Md_goesBy rfl (by decide) (by show ¬ 8 < 3; decide) ?_
  have h8 := hw.1.1
  have h14 := hg.1.1
  have hbp := hb p (by omega)
  have hrec := wy_rec (w := w) hg.1 hp
  generalize hn0 : lN n = n0
  generalize hR : gto gs m w p gs.length 0 n = R at k
  have loop : ∀ (c j n : Nat) (v6 v7 : Value), gs.length - j = c → j ≤ gs.length → n + wsum (fun l => wy gs m w (p + l)) gs m w p j < wy gs m w p → gto gs m w p c j n = R → wpx (d + 2) P_Md_goesBy 5 [.ref 17, .long n0, .retAddr 2, .long (lN n), .retAddr 2, .int (nI j), v6, v7] [] h Q := by
    intro c
    induction c with
    | zero =>
      intro j n v6 v7 hc' hj hs hR
      have ej : j = gs.length := by omega
      rw [ej, ← hrec] at hs
      omega
    | succ c ih =>
      intro j n v6 v7 hc' hj hs hR
      refine B_Md_goesBy_5 hM.1 (fun q => ?_) (fun _ => ?_)
      · rw [hg.2.1, nI_leI (by omega) (by omega)] at q
        omega
      · have gj : gs[j]? = some gs[j] := List.getElem?_eq_getElem (by omega)
        generalize gs[j] = l at gj
        have el : gs.getD j [] = l := by rw [List.getD_eq_getElem?_getD, gj]; rfl
        obtain ⟨a1, a2, a3⟩ := hg.1.at gj
        have h7 := a1.2
        unfold gto at hR
        refine B_Md_goesBy_14 hM.1 (mr_word hM) ?_
        rw [hw.2.1, ht]
        refine md_stands hM (hw.rw hM) hg gj (by omega) (fun q => ?_) (fun q => ?_)
        · have hle := ftb_le (show p ≤ w.length by omega) q
          rw [el] at hle
          have hbl := hb (p + l.length) hle
          rw [if_pos q, el] at hR
          refine B_Md_goesBy_32 (fun z => absurd z (by decide)) (fun _ => ?_)
          have e0 : (h_i h 17 41 + h_i h 19 (nI j).toNatClampNeg) = nI (p + l.length) := by rw [nI_clamp (by omega), (hg.2.2.2 j l gj).1, ht, nI_add]
          refine B_Md_goesBy_35 hM.1 (mr_ways hM) (mr_size hM) (ms_size hM) (vp_in_nI a3 (by omega)) (ms_ways hM) (by rw [e0]; exact vp_in_nI (by omega) (by omega)) ?_
          rw [e0, nI_clamp (by omega), hc _ hle]
          refine B_Md_goesBy_56 (fun z => ?_) (fun z => ?_)
          · rw [lg_ge (by omega) hbl] at z
            rw [if_neg (by omega)] at hR
            refine B_Md_goesBy_89 ?_
            rw [nI_1, lN_sub z]
            refine ih (j + 1) _ _ _ (by omega) (by omega) ?_ hR
            rw [ws_in gj q]
            omega
          · rw [lg_ge (by omega) hbl] at z
            rw [if_pos (by omega)] at hR
            refine B_Md_goesBy_65 hM.1 (mr_size hM) (ms_size hM) (vp_in_nI a3 (by omega)) ?_
            rw [wi_ne h _ (by omega), wi_ne h _ (by omega), e0]
            refine k j n l _ hR.symm gj hle (by omega) (wi_eq ..) (by rw [wi_ne _ _ (by omega), wi_eq]) ((Fr.wi h _ ⟨rfl, Or.inr rfl⟩).tr (Fr.wi _ _ ⟨rfl, Or.inl rfl⟩))
        · rw [if_neg q] at hR
          refine B_Md_goesBy_32 (fun _ => B_Md_goesBy_55 (B_Md_goesBy_56 (fun z => ?_) (fun z => ?_))) (fun z => absurd rfl z)
          · refine B_Md_goesBy_89 ?_
            rw [nI_1, show (0 : Int64) = lN 0 from rfl, lN_sub (Nat.zero_le _), Nat.sub_zero]
            refine ih (j + 1) _ _ _ (by omega) (by omega) ?_ hR
            rw [ws_out q]
            exact hs
          · rw [show (0 : Int64) = lN 0 from rfl, lg_ge (by omega) (by omega)] at z
            omega
  subst hn0
  exact B_Md_goesBy_0 (loop _ 0 n _ _ rfl (Nat.zero_le _) (by show n + 0 < _; omega) hR)
