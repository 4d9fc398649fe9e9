/-! words on the class's side: the table of keys -/
theorem and_mask (y : Int32) {b : Nat} (hb : b ≤ 30) : y &&& nI (2 ^ b - 1) = nI (y.toBitVec.toNat % 2 ^ b) := by
  have p30 : (2 : Nat) ^ b ≤ 2 ^ 30 := Nat.pow_le_pow_right (by omega) hb
  have p0 : 0 < (2 : Nat) ^ b := Nat.pow_pos (by omega)
  have lt := Nat.mod_lt y.toBitVec.toNat p0
  apply Int32.toBitVec_inj.mp
  apply BitVec.eq_of_toNat_eq
  rw [Int32.toBitVec_and, BitVec.toNat_and]
  unfold nI
  rw [Int32.toBitVec_ofNat', Int32.toBitVec_ofNat', BitVec.toNat_ofNat, BitVec.toNat_ofNat, Nat.mod_eq_of_lt (show 2 ^ b - 1 < 2 ^ 32 by omega), Nat.and_two_pow_sub_one_eq_mod, Nat.mod_eq_of_lt (show y.toBitVec.toNat % 2 ^ b < 2 ^ 32 by omega)]
theorem nI_mask {n b : Nat} (hn : n < 2 ^ 32) (hb : b ≤ 30) : nI n &&& nI (2 ^ b - 1) = nI (n % 2 ^ b) := by
  rw [and_mask _ hb]
  unfold nI
  rw [Int32.toBitVec_ofNat', BitVec.toNat_ofNat, Nat.mod_eq_of_lt hn]
def hsh (M k : Nat) : Nat := ((((nI k * (-1640531535 : Int32)).toUInt32 >>> ((8 : Int32).toUInt32 &&& Int32.toUInt32 31)).toInt32).toBitVec.toNat) % M
theorem hsh_is {b k : Nat} (hb : b ≤ 30) : (((nI k * (-1640531535 : Int32)).toUInt32 >>> ((8 : Int32).toUInt32 &&& Int32.toUInt32 31)).toInt32) &&& nI (2 ^ b - 1) = nI (hsh (2 ^ b) k) := and_mask _ hb
theorem hsh_lt {M k : Nat} (h : 0 < M) : hsh M k < M := Nat.mod_lt _ h
def HT (M : Nat) (sl : Nat → Int32) (ks P : List Nat) : Prop := P.length = ks.length ∧ P.Nodup ∧ (∀ (s p : Nat), P[s]? = some p → p < M ∧ sl p = nI (s + 1)) ∧ (∀ p, p < M → ¬ p ∈ P → sl p = 0) ∧ ∀ (s p k : Nat), P[s]? = some p → ks[s]? = some k → ∃ j, p = (hsh M k + j) % M ∧ ∀ i, i < j → (hsh M k + i) % M ∈ P
theorem HT.full {M a : Nat} {P : List Nat} (hM : 0 < M) (ha : a < M) (h : ∀ i, i < M → (a + i) % M ∈ P) : M ≤ P.length := by
  have h1 : List.range M ⊆ P := fun p hp => by
    have hp := List.mem_range.mp hp
    have := h ((p + M - a) % M) (Nat.mod_lt _ hM)
    have e : (a + (p + M - a) % M) % M = p := by
      rw [Nat.add_mod_mod, show a + (p + M - a) = p + M by omega, Nat.add_mod_right, Nat.mod_eq_of_lt hp]
    rw [e] at this
    exact this
  have := List.nodup_range.length_le_of_subset h1
  rw [List.length_range] at this
  exact this
theorem HT.val {M p : Nat} {sl : Nat → Int32} {ks P : List Nat} (h : HT M sl ks P) (hp : p < M) : (p ∈ P ∧ ∃ s, P[s]? = some p ∧ s < ks.length ∧ sl p = nI (s + 1)) ∨ (¬ p ∈ P ∧ sl p = 0) := by
  by_cases y : p ∈ P
  · obtain ⟨s, hs⟩ := List.getElem?_of_mem y
    have := (List.getElem?_eq_some_iff.mp hs).1
    exact Or.inl ⟨y, s, hs, by have := h.1; omega, (h.2.2.1 s p hs).2⟩
  · exact Or.inr ⟨y, h.2.2.2.1 p hp y⟩
theorem HT.add {M k p j : Nat} {sl sl' : Nat → Int32} {ks P : List Nat} (h : HT M sl ks P) (hM : 0 < M) (hp : p = (hsh M k + j) % M) (hn : ¬ p ∈ P) (hj : ∀ i, i < j → (hsh M k + i) % M ∈ P) (hsl : ∀ q, sl' q = if q = p then nI (ks.length + 1) else sl q) : HT M sl' (ks ++ [k]) (P ++ [p]) := by
  obtain ⟨h1, h2, h3, h4, h5⟩ := h
  have pM : p < M := by rw [hp]; exact Nat.mod_lt _ hM
  refine ⟨by rw [List.length_append, List.length_append, h1]; rfl, nd_snoc h2 hn, fun s q hq => ?_, fun q hq hqn => ?_, fun s q k' hq hk => ?_⟩
  · rcases get_snoc hq with ⟨a, b⟩ | ⟨a, b⟩
    · have ne : q ≠ p := fun z => hn (by rw [← z]; exact List.mem_of_getElem? b)
      rw [hsl, if_neg ne]
      exact h3 s q b
    · rw [hsl, if_pos b, b, a, h1]
      exact ⟨pM, rfl⟩
  · have ne : q ≠ p := fun z => hqn (List.mem_append.mpr (Or.inr (List.mem_singleton.mpr z)))
    rw [hsl, if_neg ne]
    exact h4 q hq (fun z => hqn (List.mem_append.mpr (Or.inl z)))
  · rcases get_snoc hq with ⟨a, b⟩ | ⟨a, b⟩
    · rw [List.getElem?_append_left (by omega)] at hk
      obtain ⟨j', e1, e2⟩ := h5 s q k' b hk
      exact ⟨j', e1, fun i hi => List.mem_append.mpr (Or.inl (e2 i hi))⟩
    · have ek : k' = k := by
        rw [a, h1, List.getElem?_append_right (Nat.le_refl _), Nat.sub_self] at hk
        exact (Option.some.inj hk).symm
      subst ek
      exact ⟨j, b.trans hp, fun i hi => List.mem_append.mpr (Or.inl (hj i hi))⟩
theorem HT.emp {M : Nat} {sl : Nat → Int32} (h : ∀ p, p < M → sl p = 0) : HT M sl [] [] := ⟨rfl, List.nodup_nil, fun s p hp => (by cases hp), fun p hp _ => h p hp, fun s p k hp => (by cases hp)⟩
theorem HT.cg {M : Nat} {sl sl' : Nat → Int32} {ks P : List Nat} (h : HT M sl ks P) (e : ∀ p, p < M → sl' p = sl p) : HT M sl' ks P := ⟨h.1, h.2.1, fun s p hp => ⟨(h.2.2.1 s p hp).1, (e p (h.2.2.1 s p hp).1).trans (h.2.2.1 s p hp).2⟩, fun p hp hn => (e p hp).trans (h.2.2.2.1 p hp hn), h.2.2.2.2⟩
theorem mod_step {M a i : Nat} (hM : 0 < M) : ((a + i) % M + 1) % M = (a + (i + 1)) % M := by
  rw [Nat.add_mod_eq_add_mod_right 1 (Nat.mod_mod (a + i) M)]
  rw [Nat.add_assoc]
theorem adI.set {c ct ct' f0 a : Nat} {ad : Nat → Nat} (h : adI c ct ad) (ha : ct ≤ a) (hc : a < ct') (hcc : c < ct) (h63 : 63 ≤ c) : adI c ct' (fun f => if f = f0 then a else ad f) := by
  refine ⟨fun f f' hf hf' h4 h4' e => ?_, fun f hf h4 => ?_⟩
  · have b1 := h.2 f hf h4
    have b2 := h.2 f' hf' h4'
    have e : (if f = f0 then a else ad f) = (if f' = f0 then a else ad f') := e
    by_cases y1 : f = f0
    · by_cases y2 : f' = f0
      · omega
      · rw [if_pos y1, if_neg y2] at e
        omega
    · by_cases y2 : f' = f0
      · rw [if_neg y1, if_pos y2] at e
        omega
      · rw [if_neg y1, if_neg y2] at e
        exact h.1 f f' hf hf' h4 h4' e
  · have b1 := h.2 f hf h4
    show (if f = f0 then a else ad f) ≠ c ∧ 63 ≤ (if f = f0 then a else ad f) ∧ (if f = f0 then a else ad f) < _
    split <;> omega
theorem ce_growSlots {d : Nat} {h : PH} {Q : PQ} {c K M E b : Nat} {ad : Nat → Nat} {ks : List Nat} (hS : CeS h c ad K M E) (hM8 : 256 ≤ M) (hb : M = 2 ^ b) (hb2 : b ≤ 20) (hk4 : h_i h c 4 = nI ks.length) (hkK : ks.length ≤ K) (hkM : ks.length < 2 * M) (hK : K ≤ 1048576) (hks : ∀ (s k : Nat), ks[s]? = some k → k < 2 ^ 31 ∧ h_i h (ad 0) s = nI k) (k : ∀ h' ad' P, CeS h' c ad' K (2 * M) E → HT (2 * M) (h_i h' (ad' 5)) ks P → (∀ f, f ≠ 5 → ad' f = ad f) → ad' 5 = h_ct h → Ge c (fun _ _ => False) h h' → Acc h h' K M E K (2 * M) E → Q none h') : wpm (d + 1) 19 [.ref c] h Q := by
  refine wpm_in P_Ce_growSlots rfl (by decide) (by show ¬ 5 < 1; decide) ?_
  obtain ⟨s0, s1, s2, s3, s4, s5, s6, s7, s8, s9, s10, s11⟩ := hS
  have p20 : (2 : Nat) ^ b ≤ 2 ^ 20 := Nat.pow_le_pow_right (by omega) hb2
  have p0 : 0 < (2 : Nat) ^ b := Nat.pow_pos (by omega)
  have p20' : (2 : Nat) ^ 20 = 1048576 := rfl
  have hb' : 2 * M = 2 ^ (b + 1) := by rw [hb, Nat.pow_succ]; omega
  have en : (2 : Int32) * (Int32.ofNat M) = nI (2 * M) := by
    rw [show (Int32.ofNat M) = nI M from rfl, show (2 : Int32) = nI 2 from rfl, nI_mulN]
  have cl : (nI (2 * M)).toNatClampNeg = 2 * M := nI_clamp (by omega)
  have f0 : Ge c (fun _ _ => False) h (w_r (h_new h (1, 2 * M) (2 * M)) c 5 (some (h_ct h))) := (Ge.new c _ h (1, 2 * M) (2 * M)).tr (Ge.wr (W := fun _ _ => False)) (fun _ _ _ z => z.elim)
  have sh0 : ∀ x, x < h_ct h → h_sh (w_r (h_new h (1, 2 * M) (2 * M)) c 5 (some (h_ct h))) x = h_sh h x := f0.2.2.1
  have r0 : ∀ f, f ≠ 5 → h_r (w_r (h_new h (1, 2 * M) (2 * M)) c 5 (some (h_ct h))) c f = h_r h c f := fun f hf => by rw [w_r_ne (fun z => hf z.2), (Gn.new h (1, 2 * M) (2 * M)).r s11]
  have i0 : ∀ x k, x < h_ct h → h_i (w_r (h_new h (1, 2 * M) (2 * M)) c 5 (some (h_ct h))) x k = h_i h x k := fun x k hx => f0.i hx (fun z => z)
  have n0s : h_sh (w_r (h_new h (1, 2 * M) (2 * M)) c 5 (some (h_ct h))) (h_ct h) = some (1, 2 * M) := sh_new_eq h (1, 2 * M) (2 * M)
  have n0z : ∀ i, h_i (w_r (h_new h (1, 2 * M) (2 * M)) c 5 (some (h_ct h))) (h_ct h) i = 0 := fun i => (i_wr ..).trans (i_new_eq h (1, 2 * M) (2 * M) i)
  have r05 : h_r (w_r (h_new h (1, 2 * M) (2 * M)) c 5 (some (h_ct h))) c 5 = some (h_ct h) := w_r_eq
  have ct0 : h_ct (w_r (h_new h (1, 2 * M) (2 * M)) c 5 (some (h_ct h))) = h_ct h + 1 := rfl
  have sl0 : h_sl (w_r (h_new h (1, 2 * M) (2 * M)) c 5 (some (h_ct h))) = h_sl h + 2 * M := rfl
  refine B_Ce_growSlots_0 (n3 := 2 * M) s0 s5.1 s5.2 ?_ ?_ (a2 := h_ct h) ?_ ?_ ?_
  · rw [en, cl]
    exact fun z => z.elim (fun q => nI_lt0 (by omega) q) (fun q => by omega)
  · rw [en, cl, sh_new_lt s11]
    exact s0
  · rw [en, cl]
    exact r05
  · rw [en, cl]
    exact sh_new_eq h (1, 2 * M) (2 * M)
  rw [en, cl, show (Int32.ofNat (2 * M)) = nI (2 * M) from rfl, show (1 : Int32) = nI 1 from rfl, nI_subN (by omega)]
  have hS0 : CeS (w_r (h_new h (1, 2 * M) (2 * M)) c 5 (some (h_ct h))) c (fun f => if f = 5 then h_ct h else ad f) K (2 * M) E := by
    have l : ∀ f, f < 9 → f ≠ 4 → ad f < h_ct h := fun f a b => (s9.2 f a b).2.2
    exact ⟨(sh0 c s11).trans s0, ⟨(r0 0 (by omega)).trans s1.1, (sh0 _ (l 0 (by omega) (by omega))).trans s1.2⟩, ⟨(r0 1 (by omega)).trans s2.1, (sh0 _ (l 1 (by omega) (by omega))).trans s2.2⟩, ⟨(r0 2 (by omega)).trans s3.1, (sh0 _ (l 2 (by omega) (by omega))).trans s3.2⟩, ⟨(r0 3 (by omega)).trans s4.1, (sh0 _ (l 3 (by omega) (by omega))).trans s4.2⟩, ⟨r05, n0s⟩, ⟨(r0 6 (by omega)).trans s6.1, (sh0 _ (l 6 (by omega) (by omega))).trans s6.2⟩, ⟨(r0 7 (by omega)).trans s7.1, (sh0 _ (l 7 (by omega) (by omega))).trans s7.2⟩, ⟨(r0 8 (by omega)).trans s8.1, (sh0 _ (l 8 (by omega) (by omega))).trans s8.2⟩, s9.set (Nat.le_refl _) (by omega) s11 s10, s10, by omega⟩
  generalize w_r (h_new h (1, 2 * M) (2 * M)) c 5 (some (h_ct h)) = g0 at f0 sh0 r0 i0 n0s n0z r05 ct0 sl0 hS0 ⊢
  have lad0 := (s9.2 0 (by omega) (by omega)).2.2
  have loop : ∀ (n s : Nat) (g : PH) (P : List Nat) (v3 v4 : Value), ks.length - s = n → s ≤ ks.length → Fr (fun x _ => x = h_ct h) g0 g → HT (2 * M) (h_i g (h_ct h)) (ks.take s) P → wpx d P_Ce_growSlots 23 [.ref c, .int (nI (2 * M - 1)), .int (nI s), v3, v4] [] g Q := by
    intro n
    induction n with
    | zero =>
      intro s g P v3 v4 hn hs hf hT
      have es : s = ks.length := by omega
      rw [es, List.take_length] at hT
      have hSg := hS0.fr hf
      refine B_Ce_growSlots_23 hSg.1 (fun _ => B_Ce_growSlots_91 (k g _ P hSg hT (fun f hf => if_neg hf) rfl (f0.tr hf.ge (fun x k hx z => by omega)) ?_)) (fun z => ?_)
      · unfold Acc
        rw [hf.2.2.1, hf.2.2.2.1, ct0, sl0]
        exact ⟨by omega, by omega⟩
      · rw [hf.i _ _ (by omega), i0 _ _ s11, hk4, nI_leI (by omega) (by omega)] at z
        omega
    | succ n ih =>
      intro s g P v3 v4 hn hs hf hT
      have hSg := hS0.fr hf
      have gk : ks[s]? = some (ks[s]'(by omega)) := List.getElem?_eq_getElem (by omega)
      generalize ks[s]'(by omega) = ky at gk
      obtain ⟨kb, kv⟩ := hks s ky gk
      refine B_Ce_growSlots_23 hSg.1 (fun z => ?_) (fun _ => B_Ce_growSlots_31 hSg.1 hSg.2.1.1 hSg.2.1.2 (vp_in_nI (by omega) (by omega)) ?_)
      · rw [hf.i _ _ (by omega), i0 _ _ s11, hk4, nI_leI (by omega) (by omega)] at z
        omega
      have ek : h_i g (if (0 : Nat) = 5 then h_ct h else ad 0) (nI s).toNatClampNeg = nI ky := by
        rw [nI_clamp (by omega)]
        show h_i g (ad 0) s = _
        rw [hf.i _ _ (by omega), i0 _ _ lad0, kv]
      have ek' : h_i g ((fun f => if f = 5 then h_ct h else ad f) 0) (nI s).toNatClampNeg = nI ky := ek
      rw [ek', hb', hsh_is (by omega), ← hb']
      have hlt := hsh_lt (M := 2 * M) (k := ky) (by omega)
      have hPl : P.length = s := by
        rw [hT.1, List.length_take]
        omega
      have tk : ks.take (s + 1) = ks.take s ++ [ky] := by
        rw [List.take_add_one, gk]
        rfl
      have seek : ∀ (n2 i : Nat), 2 * M - i = n2 → i ≤ 2 * M → (∀ i', i' < i → (hsh (2 * M) ky + i') % (2 * M) ∈ P) → wpx d P_Ce_growSlots 49 [.ref c, .int (nI (2 * M - 1)), .int (nI s), .int (nI ((hsh (2 * M) ky + i) % (2 * M))), .int (nI i)] [] g Q := by
        intro n2
        induction n2 with
        | zero =>
          intro i hn2 hi hp
          have := HT.full (P := P) (by omega) hlt (fun i' hi' => hp i' (by omega))
          omega
        | succ n2 ih2 =>
          intro i hn2 hi hp
          have plt : (hsh (2 * M) ky + i) % (2 * M) < 2 * M := Nat.mod_lt _ (by omega)
          have vp : vp_in (nI ((hsh (2 * M) ky + i) % (2 * M))) (2 * M) := vp_in_nI plt (by omega)
          refine B_Ce_growSlots_49 (fun z => ?_) (fun _ => B_Ce_growSlots_55 hSg.1 hSg.2.2.2.2.2.1.1 hSg.2.2.2.2.2.1.2 vp (fun z => ?_) (fun z => B_Ce_growSlots_64 ?_))
          · rw [nI_ltI (by omega) (by omega)] at z
            omega
          · rw [nI_clamp (by omega)] at z
            have z : h_i g (h_ct h) ((hsh (2 * M) ky + i) % (2 * M)) = 0 := z
            have np : ¬ (hsh (2 * M) ky + i) % (2 * M) ∈ P := fun y => by
              rcases hT.val plt with ⟨_, s', _, h2, h3⟩ | ⟨y', _⟩
              · rw [z] at h3
                have := (nI_eq (a := 0) (b := s' + 1) (by omega) (by rw [List.length_take] at h2; omega)).mp h3
                omega
              · exact y' y
            refine B_Ce_growSlots_76 hSg.1 hSg.2.2.2.2.2.1.1 hSg.2.2.2.2.2.1.2 vp ?_
            rw [nI_clamp (by omega), nI_1]
            refine ih (s + 1) _ (P ++ [(hsh (2 * M) ky + i) % (2 * M)]) _ _ (by omega) (by omega) (hf.tr (Fr.wi _ _ rfl)) ?_
            rw [tk]
            refine hT.add (j := i) (by omega) rfl np hp (fun q => ?_)
            rw [List.length_take, Nat.min_eq_left (by omega)]
            show h_i (w_i g (h_ct h) _ _) (h_ct h) q = _
            rw [h_i_wi]
            by_cases y : q = (hsh (2 * M) ky + i) % (2 * M)
            · rw [if_pos ⟨rfl, y⟩, if_pos y]
            · rw [if_neg (fun w => y w.2), if_neg y]
          · rw [nI_clamp (by omega)] at z
            have z : ¬ h_i g (h_ct h) ((hsh (2 * M) ky + i) % (2 * M)) = 0 := z
            have inP : (hsh (2 * M) ky + i) % (2 * M) ∈ P := by
              rcases hT.val plt with ⟨y, _⟩ | ⟨_, y⟩
              · exact y
              · exact absurd y z
            rw [nI_1, nI_1, hb', nI_mask (by omega) (by omega), ← hb', mod_step (by omega)]
            refine ih2 (i + 1) (by omega) (by omega) (fun i' hi' => ?_)
            by_cases y : i' = i
            · rw [y]
              exact inP
            · exact hp i' (by omega)
      have := seek (2 * M) 0 rfl (Nat.zero_le _) (fun i' hi' => absurd hi' (Nat.not_lt_zero _))
      rw [Nat.add_zero, Nat.mod_eq_of_lt hlt] at this
      exact this
  exact loop ks.length 0 g0 [] _ _ rfl (Nat.zero_le _) (Fr.rf _ _) (HT.emp (fun p _ => n0z p))
