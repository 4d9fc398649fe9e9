/-! sounds: the rows of sounds of the first two readings; the class's side -/
theorem gto_found {gs : List (List Nat)} {m : Nat} {w : List Nat} {p : Nat} (ho : okg gs m) (hp : p < w.length) : ∀ (c j n : Nat), gs.length - j = c → j ≤ gs.length → n + wsum (fun l => wy gs m w (p + l)) gs m w p j < wy gs m w p → ∃ i n' l, gto gs m w p c j n = some (i, n') ∧ gs[i]? = some l ∧ p + l.length ≤ w.length ∧ n' < wy gs m w (p + l.length)
  | 0, j, n, hc, hj, hs => by
    have ej : j = gs.length := by omega
    rw [ej, ← wy_rec ho hp] at hs
    omega
  | c + 1, j, n, hc, hj, hs => by
    have gj : gs[j]? = some gs[j] := List.getElem?_eq_getElem (by omega)
    generalize gs[j] = l at gj
    have el : gs.getD j [] = l := by rw [List.getD_eq_getElem?_getD, gj]; rfl
    unfold gto
    by_cases q : ftb gs m w p j = true
    · have hle := ftb_le (show p ≤ w.length by omega) q
      rw [el] at hle
      rw [if_pos q, el]
      by_cases z : n < wy gs m w (p + l.length)
      · rw [if_pos z]
        exact ⟨j, n, l, rfl, gj, hle, z⟩
      · rw [if_neg z]
        refine gto_found ho hp c (j + 1) _ (by omega) (by omega) ?_
        rw [ws_in gj q]
        omega
    · rw [if_neg q]
      refine gto_found ho hp c (j + 1) _ (by omega) (by omega) ?_
      rw [ws_out q]
      exact hs
theorem gto_ex {gs : List (List Nat)} {m : Nat} {w : List Nat} {p n : Nat} (ho : okg gs m) (hp : p < w.length) (hn : n < wy gs m w p) : ∃ i n' l, gto gs m w p gs.length 0 n = some (i, n') ∧ gs[i]? = some l ∧ p + l.length ≤ w.length ∧ n' < wy gs m w (p + l.length) := gto_found ho hp _ 0 n rfl (Nat.zero_le _) (by show n + 0 < _; omega)
/-- the first reading of all stays the first -/
theorem gto_zero {gs : List (List Nat)} {m : Nat} {w : List Nat} {p : Nat} : ∀ (c j i n' : Nat), gto gs m w p c j 0 = some (i, n') → n' = 0
  | 0, j, i, n', h => by cases h
  | c + 1, j, i, n', h => by
    unfold gto at h
    split at h
    · split at h
      · have := Option.some.inj h
        exact (Prod.mk.inj this).2.symm
      · rw [Nat.zero_sub] at h
        exact gto_zero c (j + 1) i n' h
    · exact gto_zero c (j + 1) i n' h
def snr (gs : List (List Nat)) (m : Nat) (w : List Nat) (so : Nat → Int32) : Nat → Nat → Nat → List Int32
  | 0, _, _ => []
  | c + 1, p, n => if p < w.length then (match gto gs m w p gs.length 0 n with
    | some (i, n') => so i :: snr gs m w so c (p + (gs.getD i []).length) n'
    | none => []) else []
theorem snr_st {gs : List (List Nat)} {m : Nat} {w l : List Nat} {so : Nat → Int32} {c p n i n' : Nat} (hp : p < w.length) (hg : gto gs m w p gs.length 0 n = some (i, n')) (hl : gs[i]? = some l) : snr gs m w so (c + 1) p n = so i :: snr gs m w so c (p + l.length) n' := by
  have el : gs.getD i [] = l := by rw [List.getD_eq_getElem?_getD, hl]; rfl
  show (if p < w.length then _ else _) = _
  rw [if_pos hp, hg]
  show so i :: snr gs m w so c (p + (gs.getD i []).length) n' = _
  rw [el]
theorem snr_no {gs : List (List Nat)} {m : Nat} {w : List Nat} {so : Nat → Int32} {c p n : Nat} (hp : ¬ p < w.length) : snr gs m w so (c + 1) p n = [] := by
  show (if p < w.length then _ else _) = _
  rw [if_neg hp]
def sndR (gs : List (List Nat)) (m : Nat) (w : List Nat) (so : Nat → Int32) : Int32 := if wy gs m w 0 < 2 then nI (wy gs m w 0) else if snr gs m w so (w.length + 1) 0 0 = snr gs m w so (w.length + 1) 0 1 then 1 else 2
theorem lN_small {n : Nat} (h : n < 2) : (lN n).toInt32 = nI n := by
  rcases (show n = 0 ∨ n = 1 by omega) with rfl | rfl <;> decide
theorem wo_sounds {d : Nat} {h : PH} {Q : PQ} {gs : List (List Nat)} {m : Nat} {w : List Nat} {so : Nat → Int32} (hO : OwS h) (hw : CWd h w) (hg : CGr h 2 gs m) (hso : CSo h 2 gs.length so) (hb : ∀ p, p ≤ w.length → wy gs m w p < 2 ^ 63) (k : ∀ h', Fr Wrd h h' → Q (some (.int (sndR gs m w so))) h') : wpm (d + 5) 115 [.ref 13, .ref 2] h Q := by
  refine wpm_in P_Wo_unlikeSoundRows rfl (by decide) (by show ¬ 9 < 2; decide) ?_
  have h8 := hw.1.1
  have h14 := hg.1.1
  have hb0 := hb 0 (Nat.zero_le _)
  unfold sndR at k
  refine B_Wo_unlikeSoundRows_0 (os_theWord hO) (wo_countWays hO hw hg hb (fun g hc hf => ?_))
  have hO1 := hf.ow hO
  have hF : Fr Wrd h g := hf.up (fun c k q => Or.inr q)
  refine B_Wo_unlikeSoundRows_5 (os_theWord hO1) (or_w_ways hO1) (os_w_ways hO1) (vp_in_nI (n := 0) (by omega) (by omega)) (fun q => ?_) (fun q => ?_)
  · rw [hc 0 (Nat.zero_le _), show (2 : Int64) = lN 2 from rfl, lg_ge hb0 (by omega)] at q
    rw [if_neg (by omega)] at k
    refine B_Wo_unlikeSoundRows_26 ?_
    have loop : ∀ (c p1 p2 n s : Nat) (g' : PH) (v7 v8 : Value), w.length - p1 < c → w.length - p2 < c → p1 ≤ w.length → p2 ≤ w.length → s ≤ p1 → s ≤ p2 → 0 < wy gs m w p1 → n < wy gs m w p2 → Fr Wrd h g' → CWy g' gs m w → (∀ h', Fr Wrd h h' → Q (some (.int (if snr gs m w so c p1 0 = snr gs m w so c p2 n then 1 else 2))) h') → wpx (d + 4) P_Wo_unlikeSoundRows 36 [.ref 13, .ref 2, .int (nI p1), .int (nI p2), .long (lN n), .retAddr 2, .int (nI s), v7, v8] [] g' Q := by
      intro c
      induction c with
      | zero => intro p1 p2 n s g' v7 v8 h1; omega
      | succ c ih =>
        intro p1 p2 n s g' v7 v8 h1 h2 h3 h4 h5 h6 h9 h10 hf' hy k
        have hO' := hf'.ow hO
        have hw' : CWd g' w := hw.fr hf' (fun c k q => by rcases q with q | q <;> omega)
        have hg' : CGr g' 2 gs m := hg.fr hf' (fun c k q => by rcases q with q | q <;> omega)
        -- one of them is at the end
        have fin : (¬ p1 < w.length ∨ ¬ p2 < w.length) → wpx (d + 4) P_Wo_unlikeSoundRows 151 [.ref 13, .ref 2, .int (nI p1), .int (nI p2), .long (lN n), .retAddr 2, .int (nI s), v7, v8] [] g' Q := fun he => by
          refine B_Wo_unlikeSoundRows_151 (fun z => ?_) (fun z => ?_)
          · rw [nI_eq (by omega) (by omega)] at z
            have hne : snr gs m w so (c + 1) p1 0 ≠ snr gs m w so (c + 1) p2 n := by
              rcases he with he | he
              · obtain ⟨i, n', l, e1, e2, e3, e4⟩ := gto_ex hg.1 (show p2 < w.length by omega) h10
                rw [snr_no he, snr_st (by omega) e1 e2]
                intro u
                cases u
              · obtain ⟨i, n', l, e1, e2, e3, e4⟩ := gto_ex hg.1 (show p1 < w.length by omega) h9
                rw [snr_no he, snr_st (by omega) e1 e2]
                intro u
                cases u
            rw [if_neg hne] at k
            exact B_Wo_unlikeSoundRows_160 (B_Wo_unlikeSoundRows_161 (k g' hf'))
          · rw [nI_eq (by omega) (by omega)] at z
            have heq : snr gs m w so (c + 1) p1 0 = snr gs m w so (c + 1) p2 n := by
              rw [snr_no (by omega), snr_no (by omega)]
            rw [if_pos heq] at k
            exact B_Wo_unlikeSoundRows_156 (B_Wo_unlikeSoundRows_161 (k g' hf'))
        refine B_Wo_unlikeSoundRows_36 (os_theWord hO') (fun z => ?_) (fun _ => ?_)
        · rw [hw'.2.1, nI_leI (by omega) (by omega)] at z
          exact fin (Or.inl (by omega))
        refine B_Wo_unlikeSoundRows_45 (os_theWord hO') (fun z => ?_) (fun z1 => ?_)
        · rw [hw'.2.1, nI_leI (by omega) (by omega)] at z
          exact fin (Or.inl (by omega))
        refine B_Wo_unlikeSoundRows_53 (os_theWord hO') (fun z => ?_) (fun z2 => ?_)
        · rw [hw'.2.1, nI_leI (by omega) (by omega)] at z
          exact fin (Or.inr (by omega))
        rw [hw'.2.1, nI_leI (by omega) (by omega)] at z1 z2
        refine B_Wo_unlikeSoundRows_61 (os_theWord hO') ?_
        have hfa : Fr Wrd h (w_l g' 13 4 0) := hf'.tr (Fr.wl _ _ (Or.inl ⟨rfl, rfl⟩))
        have hya : CWy (w_l g' 13 4 0) gs m w := hy.fr (Fr.wl (W := fun c k => c = 13 ∧ k = 4) g' _ ⟨rfl, rfl⟩) (fun k q => by omega)
        have hta : h_l (w_l g' 13 4 0) 13 4 = lN 0 := by rw [h_l_wl, if_pos ⟨rfl, rfl⟩]; rfl
        generalize w_l g' 13 4 0 = ga at hfa hya hta ⊢
        have hWd : ∀ {x : PH}, Fr Wrd h x → CWd x w := fun hx => hw.fr hx (fun c k q => by rcases q with q | q <;> omega)
        have hGd : ∀ {x : PH}, Fr Wrd h x → CGr x 2 gs m := fun hx => hg.fr hx (fun c k q => by rcases q with q | q <;> omega)
        refine wo_toward (hfa.ow hO) (hWd hfa) (hGd hfa) hya hb (by omega) h9 hta (fun i n' l g2 e1 e2 e3 e4 e5 e6 => ?_)
        have en := gto_zero _ _ _ _ e1
        subst en
        have hf2 : Fr Wrd h g2 := hfa.tr (e6.up (fun c k q => Or.inl q))
        refine B_Wo_unlikeSoundRows_72 (os_theWord (hf2.ow hO)) ?_
        have hfb : Fr Wrd h (w_l g2 13 4 (lN n)) := hf2.tr (Fr.wl _ _ (Or.inl ⟨rfl, rfl⟩))
        have hyb : CWy (w_l g2 13 4 (lN n)) gs m w := (hya.fr e6 (fun k q => by omega)).fr (Fr.wl (W := fun c k => c = 13 ∧ k = 4) g2 _ ⟨rfl, rfl⟩) (fun k q => by omega)
        have htb : h_l (w_l g2 13 4 (lN n)) 13 4 = lN n := by rw [h_l_wl, if_pos ⟨rfl, rfl⟩]
        generalize w_l g2 13 4 (lN n) = gb at hfb hyb htb ⊢
        refine wo_toward (hfb.ow hO) (hWd hfb) (hGd hfb) hyb hb (by omega) h10 htb (fun i2 n2 l2 g3 b1 b2 b3 b4 b5 b6 => ?_)
        have hf3 : Fr Wrd h g3 := hfb.tr (b6.up (fun c k q => Or.inl q))
        have hO3 := hf3.ow hO
        have hG3 := GrS_2 hO3
        have hg3 := hGd hf3
        have hs3 : CSo g3 2 gs.length so := hso.fr hf3 (fun c k q => by rcases q with q | q <;> omega)
        obtain ⟨a1, a2, a3⟩ := hg.1.at e2
        obtain ⟨c1, c2, c3⟩ := hg.1.at b2
        have l1 := (List.getElem?_eq_some_iff.mp e2).1
        have l2' := (List.getElem?_eq_some_iff.mp b2).1
        have v1 : vp_in (nI i) 14 := vp_in_nI a3 (by omega)
        have v2 : vp_in (nI i2) 14 := vp_in_nI c3 (by omega)
        refine B_Wo_unlikeSoundRows_86 (os_theWord hO3) (fun z => absurd z (nI_neg1 (by omega))) (fun _ => ?_)
        rw [b5]
        refine B_Wo_unlikeSoundRows_100 (fun z => absurd z (nI_neg1 (by omega))) (fun _ => ?_)
        rw [snr_st (by omega) e1 e2, snr_st (by omega) b1 b2] at k
        refine B_Wo_unlikeSoundRows_106 hG3.1 hG3.2.2.2.1.1 hG3.2.2.2.1.2 v1 v2 (fun z => ?_) (fun z => ?_)
        · rw [nI_clamp (by omega), nI_clamp (by omega), hs3 i l1, hs3 i2 l2'] at z
          refine B_Wo_unlikeSoundRows_125 hG3.1 hG3.2.2.1.1 hG3.2.2.1.2 v1 v2 ?_
          rw [nI_clamp (by omega), nI_clamp (by omega), (hg3.2.2.2 i l e2).2, (hg3.2.2.2 i2 l2 b2).2, nI_add, nI_add, nI_1]
          refine ih _ _ n2 (s + 1) g3 _ _ (by omega) (by omega) e3 b3 (by omega) (by omega) e4 b4 hf3 (hyb.fr b6 (fun k q => by omega)) (fun h' hh => ?_)
          have := k h' hh
          rw [z] at this
          simp only [List.cons.injEq, true_and] at this
          exact this
        · rw [nI_clamp (by omega), nI_clamp (by omega), hs3 i l1, hs3 i2 l2'] at z
          rw [if_neg (fun u => z (List.cons.inj u).1)] at k
          exact B_Wo_unlikeSoundRows_123 (k g3 hf3)
    exact loop (w.length + 1) 0 0 1 0 g _ _ (by omega) (by omega) (Nat.zero_le _) (Nat.zero_le _) (Nat.le_refl _) (Nat.le_refl _) (by omega) (by omega) hF hc k
  · rw [hc 0 (Nat.zero_le _), show (2 : Int64) = lN 2 from rfl, lg_ge hb0 (by omega)] at q
    rw [if_pos (by omega)] at k
    refine B_Wo_unlikeSoundRows_18 (os_theWord hO1) (or_w_ways hO1) (os_w_ways hO1) (vp_in_nI (n := 0) (by omega) (by omega)) ?_
    rw [hc 0 (Nat.zero_le _), lN_small (by omega)]
    exact k g hF
theorem ow_sounds {d : Nat} {h : PH} {Q : PQ} {gs : List (List Nat)} {m : Nat} {w : List Nat} {so : Nat → Int32} (hO : OwS h) (hw : CWd h w) (hg : CGr h 2 gs m) (hso : CSo h 2 gs.length so) (hb : ∀ p, p ≤ w.length → wy gs m w p < 2 ^ 63) (k : ∀ h', Fr Wrd h h' → Q (some (.int (sndR gs m w so))) h') : wpm (d + 6) 136 [.ref 0] h Q := by
  refine wpm_in P_Ow_sounds rfl (by decide) (by show ¬ 1 < 1; decide) ?_
  exact B_Ow_sounds_0 hO.1 (or_theWord hO) (or_groups hO) (os_theWord hO) (wo_sounds hO hw hg hso hb (fun h' hf => B_Ow_sounds_11 (k h' hf)))
