/-! THE CLASS: groups marked, and unmarked -/
theorem lN_orN {a b : Nat} (ha : a < 2 ^ 64) (hb : b < 2 ^ 64) : lN a ||| lN b = lN (a ||| b) := by
  apply Int64.toBitVec_inj.mp
  apply BitVec.eq_of_toNat_eq
  rw [Int64.toBitVec_or, BitVec.toNat_or]
  unfold lN
  rw [Int64.toBitVec_ofNat', Int64.toBitVec_ofNat', Int64.toBitVec_ofNat', BitVec.toNat_ofNat, BitVec.toNat_ofNat, BitVec.toNat_ofNat, Nat.mod_eq_of_lt ha, Nat.mod_eq_of_lt hb, Nat.mod_eq_of_lt (Nat.or_lt_two_pow ha hb)]
theorem or_add {a b i : Nat} (h : b < 2 ^ i) : a * 2 ^ i ||| b = a * 2 ^ i + b := by
  have := Nat.shiftLeft_add_eq_or_of_lt h a
  rw [Nat.shiftLeft_eq] at this
  exact this.symm
/-- a row with the mark: ahead in way 1, else behind -/
def mkl (x : Int32) (l : List Nat) : List Nat := if x = 1 then 27 :: l else l ++ [27]
def mkr (x : Int32) (s t : Nat) (l : List Nat) : List Nat := if inm s t ∧ l.length < 7 then mkl x l else l
def mkg (x : Int32) (s : Nat) (gs : List (List Nat)) : List (List Nat) := gs.mapIdx (fun t l => mkr x s t l)
theorem mkl_len (x : Int32) (l : List Nat) : (mkl x l).length = l.length + 1 := by
  unfold mkl
  split
  · rfl
  · rw [List.length_append]; rfl
theorem mkl_ok {x : Int32} {l : List Nat} (h : okr l) (h7 : l.length < 7) : okr (mkl x l) := by
  refine ⟨fun y hy => ?_, by rw [mkl_len]; omega⟩
  unfold mkl at hy
  split at hy
  · rcases List.mem_cons.mp hy with q | q
    · rw [q]; decide
    · exact h.1 y q
  · rcases List.mem_append.mp hy with q | q
    · exact h.1 y q
    · rw [List.mem_singleton.mp q]; decide
theorem mkr_ok {x : Int32} {s t : Nat} {l : List Nat} (h : okr l) (h0 : 0 < l.length) : okr (mkr x s t l) ∧ 0 < (mkr x s t l).length := by
  unfold mkr
  by_cases q : inm s t ∧ l.length < 7
  · rw [if_pos q]
    exact ⟨mkl_ok h q.2, by rw [mkl_len]; omega⟩
  · rw [if_neg q]
    exact ⟨h, h0⟩
theorem mkg_at {x : Int32} {s t : Nat} {gs : List (List Nat)} {l : List Nat} (h : (mkg x s gs)[t]? = some l) : ∃ a, gs[t]? = some a ∧ l = mkr x s t a := by
  unfold mkg at h
  rw [List.getElem?_mapIdx] at h
  cases hk : gs[t]? with
  | none => rw [hk] at h; cases h
  | some a => rw [hk] at h; exact ⟨a, rfl, (Option.some.inj h).symm⟩
theorem mkg_len (x : Int32) (s : Nat) (gs : List (List Nat)) : (mkg x s gs).length = gs.length := List.length_mapIdx
theorem mkg_ok {x : Int32} {s m : Nat} {gs : List (List Nat)} (h : okg gs m) : okg (mkg x s gs) m := by
  refine ⟨by rw [mkg_len]; exact h.1, by rw [mkg_len]; exact h.2.1, fun l hl => ?_⟩
  obtain ⟨t, ht, rfl⟩ := List.getElem_of_mem hl
  obtain ⟨a, ha, e⟩ := mkg_at (List.getElem?_eq_getElem ht)
  rw [e]
  obtain ⟨a1, a2, _⟩ := h.at ha
  exact mkr_ok a1 a2
theorem pk_ahead {l : List Nat} (h : okr l) : ((27 : Int64) <<< (((5 : Int32) * nI l.length).toInt64 &&& 63)) ||| pk l = pk (27 :: l) := by
  have h7 := h.2
  have hp := pkN_lt h.lt
  rw [pw32] at hp
  have h35 := h.pk
  have hq : 2 ^ (5 * l.length) ≤ 2 ^ 35 := Nat.pow_le_pow_right (by decide) (by omega)
  rw [show (27 : Int64) = lN 27 from rfl, show (5 : Int32) = nI 5 from rfl, nI_mulN, l_shl (by omega)]
  unfold pk
  rw [lN_orN (by omega) (by omega), or_add hp]
  congr 1
  have : pkN ([27] ++ l) = pkN [27] * 32 ^ l.length + pkN l := pkN_app [27] l
  rw [pkN_one, pw32] at this
  exact this.symm
theorem pk_behind {l : List Nat} (h : okr l) : (pk l <<< ((5 : Int32).toInt64 &&& 63)) ||| (27 : Int64) = pk (l ++ [27]) := by
  have h35 := h.pk
  unfold pk
  rw [show (27 : Int64) = lN 27 from rfl, show (5 : Int32) = nI 5 from rfl, l_shl (by omega), lN_orN (by omega) (by omega), or_add (by decide), pkN_snoc]
  congr 1
  omega
theorem wl_eq (h : PH) (c k : Nat) (v : Int64) : h_l (w_l h c k v) c k = v := by rw [h_l_wl, if_pos ⟨rfl, rfl⟩]
theorem wl_ne (h : PH) {c k c' k' : Nat} (v : Int64) (hn : ¬ (c' = c ∧ k' = k)) : h_l (w_l h c k v) c' k' = h_l h c' k' := by rw [h_l_wl, if_neg hn]
def Wcm (o c k : Nat) : Prop := c = o + 1 ∨ c = o + 2 ∨ (c = o ∧ k = 6)
theorem gr_changeM {d : Nat} {h : PH} {Q : PQ} {o : Nat} {gs : List (List Nat)} {m s : Nat} {x : Int32} (hs : GrS h o) (hg : CGr h o gs m) (hx : ¬ x = 2) (hb : s < 2 ^ 31) (k : ∀ h', CGr h' o (mkg x s gs) m → h_i h' o 6 = h_i h o 6 + 1 → Fr (Wcm o) h h' → Q none h') : wpm (d + 1) 40 [.ref o, .int x, .int (nI s)] h Q := by
  refine wpm_in P_Gr_change rfl (by decide) (by show ¬ 4 < 3; decide) ?_
  have h14 := hg.1.1
  refine B_Gr_change_0 hs.1 (fun _ => B_Gr_change_26 ?_) (fun q => absurd q hx)
  have loop : ∀ (c j : Nat) (g : PH), gs.length - j = c → j ≤ gs.length → Fr (Wcm o) h g → h_i g o 6 = h_i h o 6 + 1 → (∀ t l, gs[t]? = some l → h_l g (o + 1) t = pk (if t < j then mkr x s t l else l) ∧ h_i g (o + 2) t = nI (if t < j then mkr x s t l else l).length) → wpx d P_Gr_change 28 [.ref o, .int x, .int (nI s), .int (nI j)] [] g Q := by
    intro c
    induction c with
    | zero =>
      intro j g hj hle hf hst hr
      have hG := hf.gr hs
      have e3 : h_i g o 3 = nI gs.length := by rw [hf.i o 3 (fun q => by unfold Wcm at q; omega)]; exact hg.2.1
      refine B_Gr_change_28 hG.1 (fun _ => B_Gr_change_117 ?_) (fun q => ?_)
      · refine k g ⟨mkg_ok hg.1, ?_, ?_, fun t l ht => ?_⟩ hst hf
        · rw [mkg_len]; exact e3
        · rw [hf.i o 5 (fun q => by unfold Wcm at q; omega)]; exact hg.2.2.1
        · obtain ⟨a, ha, rfl⟩ := mkg_at ht
          have hlt := (List.getElem?_eq_some_iff.mp ha).1
          have := hr t a ha
          rw [if_pos (by omega)] at this
          exact this
      · rw [e3, nI_leI (by omega) (by omega)] at q
        omega
    | succ c ih =>
      intro j g hj hle hf hst hr
      have hG := hf.gr hs
      have e3 : h_i g o 3 = nI gs.length := by rw [hf.i o 3 (fun q => by unfold Wcm at q; omega)]; exact hg.2.1
      have hj' : j < gs.length := by omega
      have ga : gs[j]? = some gs[j] := List.getElem?_eq_getElem hj'
      generalize gs[j] = a at ga
      obtain ⟨a1, a2, a3⟩ := hg.1.at ga
      have a7 := a1.2
      have va : vp_in (nI j) 14 := vp_in_nI a3 (by omega)
      have ra := hr j a ga
      rw [if_neg (by omega)] at ra
      have skip : mkr x s j a = a → wpx d P_Gr_change 111 [.ref o, .int x, .int (nI s), .int (nI j)] [] g Q := fun e => by
        refine B_Gr_change_111 ?_
        rw [nI_1]
        refine ih (j + 1) g (by omega) (by omega) hf hst (fun t l ht => ?_)
        by_cases et : t = j
        · subst et
          rw [ga] at ht
          cases ht
          rw [if_pos (by omega), e]
          exact ra
        · have := hr t l ht
          by_cases lt : t < j
          · rw [if_pos lt] at this; rw [if_pos (by omega)]; exact this
          · rw [if_neg lt] at this; rw [if_neg (by omega)]; exact this
      refine B_Gr_change_28 hG.1 (fun q => ?_) (fun _ => ?_)
      · rw [e3, nI_leI (by omega) (by omega)] at q
        omega
      refine B_Gr_change_36 (fun q => ?_) (fun q => ?_)
      · rw [bit_c hb (by omega)] at q
        exact skip (by unfold mkr; rw [if_neg (fun w => q w.1)])
      rw [bit_c hb (by omega)] at q
      refine B_Gr_change_45 hG.1 hG.2.2.1.1 hG.2.2.1.2 va (fun z => ?_) (fun z => ?_)
      · rw [nI_clamp (by omega), ra.2] at z
        have := (nI_leI (a := 7) (by omega) (by omega)).mp z
        exact skip (by unfold mkr; rw [if_neg (fun w => by have := w.2; omega)])
      rw [nI_clamp (by omega), ra.2] at z
      have z' : a.length < 7 := by
        by_cases e : a.length < 7
        · exact e
        · exact absurd (nI_le (a := 7) (by omega) (by omega)) z
      have em : mkr x s j a = mkl x a := by unfold mkr; rw [if_pos ⟨q, z'⟩]
      have put : wpx d P_Gr_change 100 [.ref o, .int x, .int (nI s), .int (nI j)] [.long (pk (mkl x a)), .int (nI j), .ref (o + 1)] g Q := by
        refine B_Gr_change_100 hG.2.1.2 va hG.1 hG.2.2.1.1 hG.2.2.1.2 va (B_Gr_change_111 ?_)
        rw [nI_clamp (by omega), show h_i (w_l g (o + 1) j (pk (mkl x a))) (o + 2) j = h_i g (o + 2) j from rfl, ra.2, nI_1, nI_1]
        refine ih (j + 1) _ (by omega) (by omega) ((hf.tr (Fr.wl _ _ (Or.inl rfl))).tr (Fr.wi _ _ (Or.inr (Or.inl rfl)))) ?_ (fun t l ht => ?_)
        · rw [wi_ne _ _ (by omega)]
          exact hst
        · by_cases et : t = j
          · subst et
            rw [ga] at ht
            cases ht
            rw [if_pos (by omega), em]
            refine ⟨?_, ?_⟩
            · show h_l (w_l g (o + 1) t (pk (mkl x a))) (o + 1) t = _
              rw [wl_eq]
            · rw [wi_eq, mkl_len]
          · have := hr t l ht
            have g1 : h_l (w_i (w_l g (o + 1) j (pk (mkl x a))) (o + 2) j (nI (a.length + 1))) (o + 1) t = h_l g (o + 1) t := by
              show h_l (w_l g (o + 1) j (pk (mkl x a))) (o + 1) t = _
              rw [wl_ne _ _ (by omega)]
            have g2 : h_i (w_i (w_l g (o + 1) j (pk (mkl x a))) (o + 2) j (nI (a.length + 1))) (o + 2) t = h_i g (o + 2) t := by
              rw [wi_ne _ _ (by omega)]
              rfl
            rw [g1, g2]
            by_cases lt : t < j
            · rw [if_pos lt] at this; rw [if_pos (by omega)]; exact this
            · rw [if_neg lt] at this; rw [if_neg (by omega)]; exact this
      refine B_Gr_change_56 hG.1 hG.2.1.1 (fun n1 => ?_) (fun n1 => ?_)
      · refine B_Gr_change_88 hG.1 hG.2.1.1 hG.2.1.2 va ?_
        rw [nI_clamp (by omega), ra.1, pk_behind a1]
        unfold mkl at put
        rw [if_neg n1] at put
        exact put
      · refine B_Gr_change_66 hG.1 hG.2.2.1.1 hG.2.2.1.2 va hG.2.1.1 hG.2.1.2 va ?_
        rw [nI_clamp (by omega), ra.1, ra.2, pk_ahead a1]
        unfold mkl at put
        rw [if_pos n1] at put
        exact put
  refine loop _ 0 _ rfl (Nat.zero_le _) (Fr.wi _ _ (Or.inr (Or.inr ⟨rfl, rfl⟩))) (wi_eq ..) (fun t l ht => ?_)
  rw [if_neg (by omega), wi_ne _ _ (by omega)]
  exact hg.2.2.2 t l ht
