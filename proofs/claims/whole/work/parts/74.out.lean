/-! THE CLASS: out, and taking back the last act -/
theorem gr_change2 {d : Nat} {h : PH} {Q : PQ} {o : Nat} {gs : List (List Nat)} {m b : Nat} (hs : GrS h o) (hg : CGr h o gs m) (hb : b < 2 ^ gs.length) (k : ∀ h', CGr h' o gs (m ^^^ b) → h_i h' o 6 = h_i h o 6 + 1 → Fr (fun c k => c = o ∧ (k = 5 ∨ k = 6)) h h' → Q none h') : wpm (d + 1) 40 [.ref o, .int 2, .int (nI b)] h Q := by
  refine wpm_in P_Gr_change rfl (by decide) (by show ¬ 4 < 3; decide) ?_
  have h14 := hg.1.1
  have hb31 : b < 2 ^ 31 := Nat.lt_of_lt_of_le hb (Nat.pow_le_pow_right (by decide) (by omega))
  have hm := hg.1.m31
  refine B_Gr_change_0 hs.1 (fun q => absurd rfl q) (fun _ => ?_)
  have f1 : Fr (fun c k => c = o ∧ (k = 5 ∨ k = 6)) h (w_i h o 6 (h_i h o 6 + (1 : Int32))) := Fr.wi _ _ ⟨rfl, Or.inr rfl⟩
  refine B_Gr_change_15 (f1.gr hs).1 ?_
  rw [wi_ne h _ (by omega), hg.2.2.1, nI_xorN (by omega) (by omega)]
  have f2 : Fr (fun c k => c = o ∧ (k = 5 ∨ k = 6)) h (w_i (w_i h o 6 (h_i h o 6 + (1 : Int32))) o 5 (nI (m ^^^ b))) := f1.tr (Fr.wi _ _ ⟨rfl, Or.inl rfl⟩)
  refine k _ ⟨⟨hg.1.1, Nat.xor_lt_two_pow hg.1.2.1 hb, hg.1.2.2⟩, ?_, ?_, fun t l ht => ⟨?_, ?_⟩⟩ ?_ f2
  · rw [f2.i o 3 (by omega)]; exact hg.2.1
  · rw [wi_eq]
  · rw [f2.l (o + 1) t (by omega)]; exact (hg.2.2.2 t l ht).1
  · rw [f2.i (o + 2) t (by omega)]; exact (hg.2.2.2 t l ht).2
  · rw [wi_ne _ _ (by omega), wi_eq]
def Wco (c k : Nat) : Prop := Wac 2 c k ∨ (c = 2 ∧ (k = 5 ∨ k = 6))
theorem CAc.fr {W : Nat → Nat → Prop} {h h' : PH} {o : Nat} {ac : List (Int32 × Int32)} (hf : Fr W h h') (hw : ∀ c k, W c k → ¬ Wac o c k) (hc : CAc h o ac) : CAc h' o ac := by
  refine ⟨?_, hc.2.1, fun n w hn => ⟨?_, ?_⟩⟩
  · rw [hf.i o 9 (fun q => hw _ _ q (Or.inr (Or.inr ⟨rfl, rfl⟩)))]; exact hc.1
  · rw [hf.i (o + 4) n (fun q => hw _ _ q (Or.inl rfl))]; exact (hc.2.2 n w hn).1
  · rw [hf.i (o + 5) n (fun q => hw _ _ q (Or.inr (Or.inl rfl)))]; exact (hc.2.2 n w hn).2
theorem ow_out {d : Nat} {h : PH} {Q : PQ} {gs : List (List Nat)} {m : Nat} {ac : List (Int32 × Int32)} {x b : Int32} (hO : OwS h) (hg : CGr h 2 gs m) (hc : CAc h 2 ac) (kt : outP gs m x b → ∀ h', CAc h' 2 (acd ac ++ [(2, nI (2 ^ x.toNatClampNeg))]) → CGr h' 2 gs (m ^^^ 2 ^ x.toNatClampNeg) → h_i h' 2 6 = h_i h 2 6 + 1 → Fr Wco h h' → Q (some (.int 1)) h') (kf : ¬ outP gs m x b → Q (some (.int 0)) h) : wpm (d + 3) 150 [.ref 0, .int x, .int b] h Q := by
  refine wpm_in P_Ow_out rfl (by decide) (by show ¬ 3 < 3; decide) ?_
  have hs := GrS_2 hO
  have h14 := hg.1.1
  refine B_Ow_out_0 hO.1 (or_groups hO) (os_groups hO) (gr_has hs hg ?_)
  by_cases q : x < 0 ∨ nI gs.length ≤ x
  · rw [if_pos q]
    exact B_Ow_out_8 (fun _ => B_Ow_out_23 (kf (fun w => w.1 q))) (fun z => absurd rfl z)
  · rw [if_neg q]
    refine B_Ow_out_8 (fun z => absurd z (by decide)) (fun _ => ?_)
    obtain ⟨i, hi, rfl⟩ := isg_of hg.1 q
    unfold outP at kt kf
    rw [nI_clamp (by omega)] at kt kf
    have go : (if inm m i then (1 : Int32) else 0) = b → wpx (d + 2) P_Ow_out 25 [.ref 0, .int (nI i), .int b] [] h Q := fun e => by
      refine B_Ow_out_25 hO.1 (or_groups hO) (os_groups hO) ?_
      have hp : 2 ^ i < 2 ^ 14 := Nat.pow_lt_pow_right (by decide) (by omega)
      rw [show (1 : Int32) = nI 1 from rfl, pk_shlN (n := 1) (nI i &&& 31) i (sh_s i (by omega)) (by omega), Nat.one_mul]
      refine gr_act hs hc (fun h1 hc1 f1 => ?_)
      have hg1 : CGr h1 2 gs m := hg.fr f1 (fun c k q z => by unfold Wac at q; omega)
      refine gr_change2 (f1.gr hs) hg1 (Nat.pow_lt_pow_right (by decide) hi) (fun h2 hg2 st f2 => ⟨rfl, B_Ow_out_36 ?_⟩)
      refine kt ⟨q, e⟩ h2 (hc1.fr f2 (fun c k q z => by unfold Wac at z; omega)) hg2 ?_ ((f1.up (fun c k q => Or.inl q)).tr (f2.up (fun c k q => Or.inr q)))
      rw [st, f1.i 2 6 (fun q => by unfold Wac at q; omega)]
    refine B_Ow_out_11 hO.1 (or_groups hO) (os_groups hO) (gr_isIn hs hg hi (fun p => ?_) (fun p => ?_))
    · refine B_Ow_out_19 (fun e => go (by rw [if_pos p]; exact e)) (fun e => B_Ow_out_23 (kf (fun w => e ?_)))
      have := w.2
      rw [if_pos p] at this
      exact this
    · refine B_Ow_out_19 (fun e => go (by rw [if_neg p]; exact e)) (fun e => B_Ow_out_23 (kf (fun w => e ?_)))
      have := w.2
      rw [if_neg p] at this
      exact this
/-- the last act, taken back: what is called to change the groups -/
theorem gr_takeBackAct {d : Nat} {h : PH} {Q : PQ} {o : Nat} {ac : List (Int32 × Int32)} (hs : GrS h o) (hc : CAc h o ac) (kf : ac = [] → Q (some (.int 0)) h) (kt : ∀ ac' x y, ac = ac' ++ [(x, y)] → ∀ h', CAc h' o ac' → Fr (fun c k => c = o ∧ k = 9) h h' → (x = 2 → wpm d 40 [.ref o, .int x, .int y] h' (fun r h2 => r = none ∧ Q (some (.int 1)) h2)) ∧ (¬ x = 2 → wpm d 41 [.ref o, .int x, .int y] h' (fun r h2 => r = none ∧ Q (some (.int 1)) h2))) : wpm (d + 1) 39 [.ref o] h Q := by
  refine wpm_in P_Gr_takeBackAct rfl (by decide) (by show ¬ 3 < 1; decide) ?_
  have h12 := hc.2.1
  refine B_Gr_takeBackAct_0 hs.1 (fun q => ?_) (fun q => ?_)
  · rcases nil_or_last ac with e | ⟨ac', ⟨x, y⟩, rfl⟩
    · exfalso
      rw [hc.1, e] at q
      exact absurd q (by decide)
    · have h11 : ac'.length ≤ 11 := by rw [List.length_append] at h12; have : [(x, y)].length = 1 := rfl; omega
      have e9 : h_i h o 9 - (1 : Int32) = nI ac'.length := by
        rw [hc.1, List.length_append]
        exact nI_pred _
      have ff : Fr (fun c k => c = o ∧ k = 9) h (w_i h o 9 (nI ac'.length)) := Fr.wi _ _ ⟨rfl, rfl⟩
      obtain ⟨p1, p2⟩ := hc.2.2 ac'.length (x, y) (by rw [List.getElem?_append_right (Nat.le_refl _), Nat.sub_self]; rfl)
      have hc' : CAc (w_i h o 9 (nI ac'.length)) o ac' := by
        refine ⟨by rw [wi_eq], by omega, fun n w hn => ?_⟩
        have hlt := (List.getElem?_eq_some_iff.mp hn).1
        rw [wi_ne _ _ (by omega), wi_ne _ _ (by omega)]
        exact hc.2.2 n w (by rw [List.getElem?_append_left hlt]; exact hn)
      obtain ⟨k1, k2⟩ := kt ac' x y rfl _ hc' ff
      have g1 : h_i (w_i h o 9 (nI ac'.length)) (o + 4) ac'.length = x := by rw [wi_ne _ _ (by omega)]; exact p1
      have g2 : h_i (w_i h o 9 (nI ac'.length)) (o + 5) ac'.length = y := by rw [wi_ne _ _ (by omega)]; exact p2
      have hs' := ff.gr hs
      refine B_Gr_takeBackAct_10 hs.1 hs.2.2.2.2.1.1 hs.2.2.2.2.1.2 (by rw [e9, wi_eq]; exact vp_in_nI (by omega) (by omega)) hs.2.2.2.2.2.1 hs.2.2.2.2.2.2 (by rw [e9, wi_eq]; exact vp_in_nI (by omega) (by omega)) (fun z => ?_) (fun z => ?_)
      · rw [e9, wi_eq, nI_clamp (by omega), g1] at z
        rw [e9, wi_eq, nI_clamp (by omega), g1, g2]
        refine B_Gr_takeBackAct_54 hs'.1 ((k2 z).mono (fun r h2 hq => ?_))
        obtain ⟨rfl, hq⟩ := hq
        exact B_Gr_takeBackAct_60 hq
      · rw [e9, wi_eq, nI_clamp (by omega), g1] at z
        rw [e9, wi_eq, nI_clamp (by omega), g1, g2]
        refine B_Gr_takeBackAct_45 hs'.1 ((k1 z).mono (fun r h2 hq => ?_))
        obtain ⟨rfl, hq⟩ := hq
        exact B_Gr_takeBackAct_51 (B_Gr_takeBackAct_60 hq)
  · refine B_Gr_takeBackAct_8 (kf ?_)
    rw [hc.1] at q
    have : ¬ 1 ≤ ac.length := fun e => q (nI_le (a := 1) e (by omega))
    exact List.eq_nil_of_length_eq_zero (by omega)
