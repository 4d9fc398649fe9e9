/-! THE MODEL: keep, out, undo -/
theorem md_keep {d : Nat} {h : PH} {Q : PQ} {gs : List (List Nat)} {m : Nat} {as : List (List (List Nat) × Nat)} (hM : MdS h) (hg : MGr h gs m) (hk : MKp h as) (k : ∀ h', MKp h' (kpd as ++ [(gs, m)]) → Fr Wkp h h' → h_i h' 17 25 = 0 → h_i h' 17 26 = 0 → h_i h' 17 70 = 0 → Q none h') : wpm (d + 2) 278 [.ref 17] h Q := by
  refine wpm_in P_Md_keep rfl (by decide) (by show ¬ 3 < 1; decide) ?_
  have h12 := hk.2.1
  refine B_Md_keep_0 hM.1 (fun q => ?_) (fun q => ?_)
  · rw [hk.1] at q
    have q' : ¬ as.length = 12 := fun e => q (by rw [e]; rfl)
    unfold kpd at k
    rw [if_neg q'] at k
    exact md_keep_52 hM hg hk (by omega) k
  · rw [hk.1] at q
    have q' : as.length = 12 := (nI_eq (b := 12) (by omega) (by omega)).mp q
    unfold kpd at k
    rw [if_pos q'] at k
    refine B_Md_keep_9 ?_
    have loop : ∀ (c j : Nat) (g : PH) (v : Value), 1692 - j = c → j ≤ 1692 → 141 ≤ j → Fr (fun c _ => c = 62) h g → (∀ i, i + 141 < j → h_i g 62 i = h_i h 62 (i + 141)) → (∀ i, j ≤ i + 141 → h_i g 62 i = h_i h 62 i) → wpx (d + 1) P_Md_keep 13 [.ref 17, .int (nI j), v] [] g Q := by
      intro c
      induction c with
      | zero =>
        intro j g v hj hle h141 hf h1 h2
        have ej : j = 1692 := by omega
        subst ej
        refine B_Md_keep_13 (fun _ => ?_) (fun q => absurd (by decide) q)
        refine B_Md_keep_42 (hf.md hM).1 ?_
        rw [hf.i 17 76 (by decide), hk.1, q', show nI 12 - (1 : Int32) = nI 11 from nI_pred 11]
        generalize hh : w_i g 17 76 (nI 11) = g1
        have f1 : Fr (fun c k => c = 17 ∧ k = 76) g g1 := by rw [← hh]; exact Fr.wi _ _ ⟨rfl, rfl⟩
        have F : Fr Wkp h g1 := (hf.up (fun c k q => Or.inl q)).tr (f1.up (fun c k q => Or.inr ⟨q.1, Or.inl q.2⟩))
        refine md_keep_52 (F.md hM) (hg.fr F (fun c k q z => ?_)) ⟨?_, ?_, fun s hs => ?_, fun n s hn => ?_⟩ ?_ (fun h' a b z1 z2 z3 => k h' a (F.tr b) z1 z2 z3)
        · rcases q with q | q <;> rcases z with z | z | z <;> omega
        · rw [← hh, wi_eq, List.length_drop, q']
        · rw [List.length_drop]; omega
        · exact hk.2.2.1 s (List.mem_of_mem_drop hs)
        · rw [List.getElem?_drop] at hn
          have hlt := (List.getElem?_eq_some_iff.mp hn).1
          refine KSn.eq (hk.2.2.1 s (List.mem_of_getElem? hn)) (fun i hi => ?_) (hk.2.2.2 (1 + n) s hn)
          rw [f1.i 62 _ (fun q => absurd q.1 (by decide)), h1 _ (by omega)]
          congr 1
          omega
        · rw [List.length_drop]; omega
      | succ c ih =>
        intro j g v hj hle h141 hf h1 h2
        have hG := hf.md hM
        refine B_Md_keep_13 (fun q => ?_) (fun _ => ?_)
        · have := (nI_leI (a := 1692) (by omega) (by omega)).mp q
          omega
        · have es : nI j - (141 : Int32) = nI (j - 141) := by rw [show (141 : Int32) = nI 141 from rfl, nI_subN h141]
          refine B_Md_keep_20 hG.1 (mr_kept hG) (ms_kept hG) (vp_in_nI (by omega) (by omega)) (by rw [es]; exact vp_in_nI (by omega) (by omega)) ?_
          rw [es, nI_clamp (by omega), nI_clamp (by omega), nI_1, h2 j (by omega)]
          refine ih (j + 1) _ v (by omega) (by omega) (by omega) (hf.tr (Fr.wi _ _ rfl)) (fun i hi => ?_) (fun i hi => ?_)
          · by_cases e : i = j - 141
            · rw [e, wi_eq, show j - 141 + 141 = j from by omega]
            · rw [wi_ne _ _ (by omega)]; exact h1 i (by omega)
          · rw [wi_ne _ _ (by omega)]; exact h2 i (by omega)
    exact loop _ 141 h _ rfl (by omega) (Nat.le_refl _) (Fr.rf _ h) (fun i hi => absurd hi (by omega)) (fun i _ => rfl)
theorem nI_xorN {a b : Nat} (ha : a < 2 ^ 32) (hb : b < 2 ^ 32) : nI a ^^^ nI b = nI (a ^^^ b) := by
  apply Int32.toBitVec_inj.mp
  apply BitVec.eq_of_toNat_eq
  rw [Int32.toBitVec_xor, BitVec.toNat_xor]
  unfold nI
  rw [Int32.toBitVec_ofNat', Int32.toBitVec_ofNat', Int32.toBitVec_ofNat', BitVec.toNat_ofNat, BitVec.toNat_ofNat, BitVec.toNat_ofNat, Nat.mod_eq_of_lt ha, Nat.mod_eq_of_lt hb, Nat.mod_eq_of_lt (Nat.xor_lt_two_pow ha hb)]
theorem okg.xor {gs : List (List Nat)} {m k : Nat} (ho : okg gs m) (hk : k < gs.length) : okg gs (m ^^^ 2 ^ k) := ⟨ho.1, Nat.xor_lt_two_pow ho.2.1 (Nat.pow_lt_pow_right (by decide) hk), ho.2.2⟩
/-- whether out does it -/
def outP (gs : List (List Nat)) (m : Nat) (x b : Int32) : Prop := isg gs x ∧ (if inm m x.toNatClampNeg then (1 : Int32) else 0) = b
def Wmo (c k : Nat) : Prop := Wkp c k ∨ (c = 17 ∧ (k = 0 ∨ k = 6))
theorem MKp.fr {W : Nat → Nat → Prop} {h h' : PH} {as : List (List (List Nat) × Nat)} (hf : Fr W h h') (hw : ∀ c k, W c k → ¬ (c = 62 ∨ (c = 17 ∧ k = 76))) (hk : MKp h as) : MKp h' as := by
  refine ⟨?_, hk.2.1, hk.2.2.1, fun n s hn => ?_⟩
  · rw [hf.i 17 76 (fun q => hw _ _ q (Or.inr ⟨rfl, rfl⟩))]; exact hk.1
  · exact KSn.eq (hk.2.2.1 s (List.mem_of_getElem? hn)) (fun i _ => hf.i 62 _ (fun q => hw _ _ q (Or.inl rfl))) (hk.2.2.2 n s hn)
theorem wth_k : ∀ c k, Wth c k → ¬ (c = 62 ∨ (c = 17 ∧ k = 76)) := by
  rintro c k ⟨rfl, rfl⟩ q
  omega
theorem md_out {d : Nat} {h : PH} {Q : PQ} {gs : List (List Nat)} {m : Nat} {as : List (List (List Nat) × Nat)} {x b : Int32} (hM : MdS h) (hg : MGr h gs m) (hk : MKp h as) (kt : outP gs m x b → ∀ h', MKp h' (kpd as ++ [(gs, m)]) → MGr h' gs (m ^^^ 2 ^ x.toNatClampNeg) → Fr Wmo h h' → h_i h' 17 25 = 0 → h_i h' 17 26 = 0 → h_i h' 17 70 = 0 → Q (some (.int 1)) h') (kf : ¬ outP gs m x b → Q (some (.int 0)) (w_i h 17 0 0)) : wpm (d + 3) 280 [.ref 17, .int x, .int b] h Q := by
  refine wpm_in P_Md_out rfl (by decide) (by show ¬ 3 < 3; decide) ?_
  refine B_Md_out_0 hM.1 ?_
  have F0 := th_fr h
  have hM := F0.md hM
  have hg := hg.fr F0 wth_g
  have hk := hk.fr F0 wth_k
  generalize w_i h 17 0 0 = g at kf hM hg hk F0 ⊢
  have h14 := hg.1.1
  refine md_isGroup hM hg (fun q => ?_) (fun q => ?_)
  · refine B_Md_out_10 (fun z => absurd z (by decide)) (fun _ => ?_)
    obtain ⟨i, hi, rfl⟩ := isg_of hg.1 q
    unfold outP at kt kf
    rw [nI_clamp (by omega)] at kt kf
    refine B_Md_out_13 hM.1 ?_
    rw [hg.2.2.1]
    have go : (if inm m i then (1 : Int32) else 0) = b → wpx (d + 2) P_Md_out 27 [.ref 17, .int (nI i), .int b] [] g Q := fun e => by
      refine B_Md_out_27 hM.1 (md_keep hM hg hk (fun g1 hk1 f1 z1 z2 z3 => ?_))
      refine B_Md_out_31 (f1.md hM).1 ?_
      have hp : 2 ^ i < 2 ^ 14 := Nat.pow_lt_pow_right (by decide) (by omega)
      have hm := hg.1.m31
      have hg1 : MGr g1 gs m := hg.fr f1 (fun c k q z => by rcases q with q | q <;> rcases z with z | z | z <;> omega)
      rw [hg1.2.2.1, show (1 : Int32) = nI 1 from rfl, pk_shlN (n := 1) (nI i &&& 31) i (sh_s i (by omega)) (by omega), nI_xorN (by omega) (by omega), Nat.one_mul]
      generalize hh : w_i g1 17 6 (nI (m ^^^ 2 ^ i)) = g2
      have f2 : Fr (fun c k => c = 17 ∧ k = 6) g1 g2 := by rw [← hh]; exact Fr.wi _ _ ⟨rfl, rfl⟩
      refine kt ⟨q, e⟩ g2 (hk1.fr f2 (fun c k q z => by omega)) ⟨hg.1.xor hi, ?_, ?_, fun t l ht => ⟨?_, fun j y hj => ?_⟩⟩ ?_ ?_ ?_ ?_
      · rw [f2.i 17 4 (by decide)]; exact hg1.2.1
      · rw [← hh, wi_eq]
      · rw [f2.i 19 t (fun q => absurd q.1 (by decide))]; exact (hg1.2.2.2 t l ht).1
      · rw [f2.i 18 _ (fun q => absurd q.1 (by decide))]; exact (hg1.2.2.2 t l ht).2 j y hj
      · refine ((F0.up (fun c k q => Or.inr ⟨q.1, Or.inl q.2⟩)).tr (f1.up (fun c k q => Or.inl q))).tr (f2.up (fun c k q => Or.inr ⟨q.1, Or.inr q.2⟩))
      · rw [f2.i 17 25 (by decide)]; exact z1
      · rw [f2.i 17 26 (by decide)]; exact z2
      · rw [f2.i 17 70 (by decide)]; exact z3
    refine md_isOf hg.1.m31 (by omega) (fun p => ?_) (fun p => ?_)
    · refine B_Md_out_21 (fun e => go (by rw [if_pos p]; exact e)) (fun e => B_Md_out_25 (kf (fun w => e ?_)))
      have := w.2
      rw [if_pos p] at this
      exact this
    · refine B_Md_out_21 (fun e => go (by rw [if_neg p]; exact e)) (fun e => B_Md_out_25 (kf (fun w => e ?_)))
      have := w.2
      rw [if_neg p] at this
      exact this
  · exact B_Md_out_10 (fun _ => B_Md_out_25 (kf (fun w => q w.1))) (fun z => absurd rfl z)
