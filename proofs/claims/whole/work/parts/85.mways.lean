/-! readings on the reference's side (no premise: both sides of its sum wrap alike) -/
/-- a row of letters of the reference -/
def MRw (h : PH) (r N : Nat) (w : List Nat) : Prop := okw w ∧ h_sh h r = some (1, N) ∧ w.length ≤ N ∧ N < 2 ^ 31 ∧ ∀ k x, w[k]? = some x → h_i h r k = nI (x + 96)
theorem MRw.fr {W : Nat → Nat → Prop} {h h' : PH} {r N : Nat} {w : List Nat} (hf : Fr W h h') (hw : ∀ k, ¬ W r k) (hg : MRw h r N w) : MRw h' r N w := ⟨hg.1, by rw [hf.1]; exact hg.2.1, hg.2.2.1, hg.2.2.2.1, fun k x hk => by rw [hf.i r k (hw k)]; exact hg.2.2.2.2 k x hk⟩
theorem MWd.rw {h : PH} {w : List Nat} (hM : MdS h) (hw : MWd h w) : MRw h 26 800 w := ⟨hw.1, ms_word hM, hw.1.1, by decide, hw.2.2⟩
theorem md_stands {d : Nat} {h : PH} {Q : PQ} {gs : List (List Nat)} {m p j r N : Nat} {w l : List Nat} (hM : MdS h) (hw : MRw h r N w) (hg : MGr h gs m) (hj : gs[j]? = some l) (hp : p ≤ w.length) (kt : ftb gs m w p j = true → Q (some (.int 1)) h) (kf : ¬ ftb gs m w p j = true → Q (some (.int 0)) h) : wpm (d + 2) 226 [.ref 17, .int (nI j), .ref r, .int (nI w.length), .int (nI p)] h Q := by
  refine wpm_in P_Md_stands rfl (by decide) (by show ¬ 6 < 5; decide) ?_
  obtain ⟨a1, a2, a3⟩ := hg.1.at hj
  have va : vp_in (nI j) 14 := vp_in_nI a3 (by omega)
  have h7 := a1.2
  have h8 := hw.1.1
  obtain ⟨la, lb⟩ := hg.2.2.2 j l hj
  refine B_Md_stands_0 hM.1 ?_
  rw [hg.2.2.1]
  refine md_isOf hg.1.m31 (by omega) (fun q => ?_) (fun q => ?_)
  · refine B_Md_stands_8 (fun z => absurd z (by decide)) (fun _ => ?_)
    refine B_Md_stands_11 hM.1 (mr_size hM) (ms_size hM) va (fun z => ?_) (fun z => ?_)
    · rw [nI_clamp (by omega), la, nI_add, nI_leI (by omega) (by omega)] at z
      refine B_Md_stands_26 ?_
      have loop : ∀ (c n : Nat), l.length - n = c → n ≤ l.length → (∀ t, t < n → l[t]? = (w.drop p)[t]?) → wpx (d + 1) P_Md_stands 29 [.ref 17, .int (nI j), .ref r, .int (nI w.length), .int (nI p), .int (nI n)] [] h Q := by
        intro c
        induction c with
        | zero =>
          intro n hc h1 h3
          have en : n = l.length := by omega
          refine B_Md_stands_29 hM.1 (mr_size hM) (ms_size hM) va (fun _ => ?_) (fun y => ?_)
          · refine B_Md_stands_65 (kt ((ftb_iff hj).mpr ⟨q, ?_⟩))
            rw [cpl_eq n l (w.drop p) h1 (by rw [List.length_drop]; omega) h3 (Or.inl en), en]
          · rw [nI_clamp (by omega), la, nI_leI (by omega) (by omega)] at y
            omega
        | succ c ih =>
          intro n hc h1 h3
          refine B_Md_stands_29 hM.1 (mr_size hM) (ms_size hM) va (fun y => ?_) (fun _ => ?_)
          · rw [nI_clamp (by omega), la, nI_leI (by omega) (by omega)] at y
            omega
          · have gl : l[n]? = some l[n] := List.getElem?_eq_getElem (by omega)
            have gw : w[p + n]? = some w[p + n] := List.getElem?_eq_getElem (by omega)
            have hN := hw.2.2.1
            refine B_Md_stands_40 hw.2.1 (by rw [nI_add]; exact vp_in_nI (by omega) hw.2.2.2.1) hM.1 ?_
            refine md_letterAt hM (by omega) ?_
            rw [lb _ _ gl, nI_add, nI_clamp (by omega), hw.2.2.2.2 _ _ gw]
            have xl := (a1.1 _ (List.mem_of_getElem? gl)).2
            have xw := (hw.1.2 _ (List.mem_of_getElem? gw)).2
            refine B_Md_stands_54 (fun e => ?_) (fun e => ?_)
            · rw [nI_eq (by omega) (by omega)] at e
              refine B_Md_stands_59 ?_
              rw [nI_1]
              refine ih (n + 1) (by omega) (by omega) (fun t ht => ?_)
              by_cases h9 : t = n
              · subst h9
                rw [List.getElem?_drop, gl, gw]
                congr 1
                omega
              · exact h3 t (by omega)
            · rw [nI_eq (by omega) (by omega)] at e
              refine B_Md_stands_57 (kf (fun y => ?_))
              have h5 := ((ftb_iff hj).mp y).2
              rw [cpl_eq n l (w.drop p) h1 (by rw [List.length_drop]; omega) h3 (Or.inr (Or.inr (by rw [List.getElem?_drop, gl, gw]; intro u; exact e (by rw [Option.some.inj u]))))] at h5
              omega
      exact loop _ 0 rfl (Nat.zero_le _) (fun t ht => absurd ht (by omega))
    · rw [nI_clamp (by omega), la, nI_add, nI_leI (by omega) (by omega)] at z
      refine B_Md_stands_24 (kf (fun y => ?_))
      have h5 := ftb_le hp y
      rw [List.getD_eq_getElem?_getD, hj] at h5
      exact z h5
  · exact B_Md_stands_8 (fun _ => B_Md_stands_24 (kf (fun e => q ((ftb_iff hj).mp e).1))) (fun z => absurd rfl z)
theorem md_layWays {d : Nat} {h : PH} {Q : PQ} {gs : List (List Nat)} {m r N : Nat} {w : List Nat} (hM : MdS h) (hw : MRw h r N w) (hr : r ≠ 36) (hg : MGr h gs m) (k : ∀ h', MWy h' gs m w → Fr (fun c _ => c = 36) h h' → Q none h') : wpm (d + 3) 227 [.ref 17, .ref r, .int (nI w.length)] h Q := by
  refine wpm_in P_Md_layWays rfl (by decide) (by show ¬ 5 < 3; decide) ?_
  have h8 := hw.1.1
  have h14 := hg.1.1
  have outer : ∀ (n : Nat) (g : PH) (v4 : Value), n ≤ w.length → Fr (fun c _ => c = 36) h g → (∀ i, n ≤ i → i ≤ w.length → h_l g 36 i = lN (wy gs m w i)) → wpx (d + 2) P_Md_layWays 11 [.ref 17, .ref r, .int (nI w.length), .int (nI n - (1 : Int32)), v4] [] g Q := by
    intro n
    induction n with
    | zero =>
      intro g v4 hn hf hi
      exact B_Md_layWays_11 (fun _ => B_Md_layWays_85 (k g (fun i hl => hi i (Nat.zero_le _) hl) hf)) (fun q => absurd (show nI 0 - (1 : Int32) < 0 by decide) q)
    | succ n ih =>
      intro g v4 hn hf hi
      have hM' := hf.md hM
      rw [nI_pred]
      refine B_Md_layWays_11 (fun q => absurd q (nI_pos (by omega))) (fun _ => B_Md_layWays_15 hM'.1 (mr_ways hM') (ms_ways hM') (vp_in_nI (by omega) (by omega)) ?_)
      rw [nI_clamp (by omega)]
      have inner : ∀ (c j : Nat) (g : PH), gs.length - j = c → j ≤ gs.length → Fr (fun c _ => c = 36) h g → (∀ i, n + 1 ≤ i → i ≤ w.length → h_l g 36 i = lN (wy gs m w i)) → h_l g 36 n = lN (wsum (fun l => wy gs m w (n + l)) gs m w n j) → wpx (d + 2) P_Md_layWays 25 [.ref 17, .ref r, .int (nI w.length), .int (nI n), .int (nI j)] [] g Q := by
        intro c
        induction c with
        | zero =>
          intro j g hc hj hf hi hs
          have ej : j = gs.length := by omega
          have hM' := hf.md hM
          have hg' : MGr g gs m := hg.fr hf (fun c k q => by omega)
          refine B_Md_layWays_25 hM'.1 (fun _ => B_Md_layWays_79 ?_) (fun q => ?_)
          · rw [nI_dn]
            refine ih g _ (by omega) hf (fun i h1 h2 => ?_)
            by_cases e : i = n
            · subst e
              rw [hs, ej, ← wy_rec hg.1 (by omega)]
            · exact hi i (by omega) h2
          · rw [hg'.2.1, nI_leI (by omega) (by omega)] at q
            omega
        | succ c ihc =>
          intro j g hc hj hf hi hs
          have hM' := hf.md hM
          have hg' : MGr g gs m := hg.fr hf (fun c k q => by omega)
          have hw' : MRw g r N w := hw.fr hf (fun k q => hr q)
          refine B_Md_layWays_25 hM'.1 (fun q => ?_) (fun _ => ?_)
          · rw [hg'.2.1, nI_leI (by omega) (by omega)] at q
            omega
          · have gj : gs[j]? = some gs[j] := List.getElem?_eq_getElem (by omega)
            generalize gs[j] = l at gj
            have el : gs.getD j [] = l := by rw [List.getD_eq_getElem?_getD, gj]; rfl
            obtain ⟨a1, a2, a3⟩ := hg.1.at gj
            have h7 := a1.2
            have vn : vp_in (nI n) 801 := vp_in_nI (by omega) (by omega)
            have fin : ∀ v : Int64, v = lN (wsum (fun l => wy gs m w (n + l)) gs m w n (j + 1)) → wpx (d + 2) P_Md_layWays 25 [.ref 17, .ref r, .int (nI w.length), .int (nI n), .int (nI (j + 1))] [] (w_l g 36 n v) Q := fun v hv => by
              refine ihc (j + 1) _ (by omega) (by omega) (hf.tr (Fr.wl _ _ rfl)) (fun i h1 h2 => ?_) ?_
              · rw [h_l_wl, if_neg (fun z => by omega)]
                exact hi i h1 h2
              · rw [h_l_wl, if_pos ⟨rfl, rfl⟩]
                exact hv
            refine B_Md_layWays_34 hM'.1 (mr_ways hM') (ms_ways hM') vn (md_stands hM' hw' hg' gj (by omega) (fun q => ?_) (fun q => ?_))
            · have es : wsum (fun l => wy gs m w (n + l)) gs m w n (j + 1) = wsum (fun l => wy gs m w (n + l)) gs m w n j + wy gs m w (n + l.length) := by
                show _ + _ = _
                rw [if_pos q, el]
              have hle := ftb_le (show n ≤ w.length by omega) q
              rw [el] at hle
              refine B_Md_layWays_50 (fun z => absurd z (by decide)) (fun _ => ?_)
              refine B_Md_layWays_53 hM'.1 (mr_ways hM') (mr_size hM') (ms_size hM') (vp_in_nI a3 (by omega)) (ms_ways hM') (by rw [nI_clamp (by omega), (hg'.2.2.2 j l gj).1, nI_add]; exact vp_in_nI (by omega) (by omega)) ?_
              rw [nI_clamp (by omega), (hg'.2.2.2 j l gj).1, nI_add, nI_clamp (by omega), hi (n + l.length) (by omega) (by omega)]
              refine B_Md_layWays_71 (ms_ways hM') vn ?_
              rw [nI_clamp (by omega), nI_1, hs, lN_add, ← es]
              exact fin _ rfl
            · have es : wsum (fun l => wy gs m w (n + l)) gs m w n (j + 1) = wsum (fun l => wy gs m w (n + l)) gs m w n j := by
                show _ + _ = _
                rw [if_neg q]
                rfl
              refine B_Md_layWays_50 (fun _ => B_Md_layWays_70 ?_) (fun z => absurd rfl z)
              refine B_Md_layWays_71 (ms_ways hM') vn ?_
              rw [nI_clamp (by omega), nI_1, hs, show (0 : Int64) = lN 0 from rfl, lN_add, Nat.add_zero, ← es]
              exact fin _ rfl
      refine inner _ 0 _ rfl (Nat.zero_le _) (hf.tr (Fr.wl _ _ rfl)) (fun i h1 h2 => ?_) ?_
      · rw [h_l_wl, if_neg (fun z => by omega)]
        exact hi i h1 h2
      · rw [h_l_wl, if_pos ⟨rfl, rfl⟩]
        rfl
  refine B_Md_layWays_0 hM.1 (mr_ways hM) (ms_ways hM) (vp_in_nI (by omega) (by omega)) ?_
  rw [nI_clamp (by omega)]
  refine outer w.length _ _ (Nat.le_refl _) (Fr.wl h _ rfl) (fun i h1 h2 => ?_)
  have e : i = w.length := by omega
  subst e
  rw [h_l_wl, if_pos ⟨rfl, rfl⟩, wy_end]
  rfl
def Wml (c k : Nat) : Prop := (c = 17 ∧ k = 0) ∨ c = 36
theorem md_readings {d : Nat} {h : PH} {Q : PQ} {gs : List (List Nat)} {m : Nat} {w : List Nat} (hM : MdS h) (hw : MWd h w) (hg : MGr h gs m) (k : ∀ h', Fr Wml h h' → Q (some (.long (lN (wy gs m w 0)))) h') : wpm (d + 4) 230 [.ref 17] h Q := by
  refine wpm_in P_Md_readings rfl (by decide) (by show ¬ 1 < 1; decide) ?_
  refine B_Md_readings_0 hM.1 (mr_word hM) ?_
  have hf0 := th_fr h
  have hM0 := hf0.md hM
  have hw0 := hw.fr hf0 wth_w
  have hg0 := hg.fr hf0 wth_g
  generalize w_i h 17 0 0 = g at hf0 hM0 hw0 hg0 ⊢
  rw [hw0.2.1]
  refine md_layWays hM0 (hw0.rw hM0) (by decide) hg0 (fun h' hc hf => ?_)
  have hM' := hf.md hM0
  refine B_Md_readings_17 hM'.1 (mr_ways hM') (ms_ways hM') (vp_in_nI (n := 0) (by omega) (by omega)) ?_
  rw [hc 0 (Nat.zero_le _)]
  exact k h' ((hf0.up (fun c k q => Or.inl q)).tr (hf.up (fun c k q => Or.inr q)))
