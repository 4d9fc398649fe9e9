/-! drawn on both sides: the law's answers -/
def drS (s : Int32) : Int32 := s * (1103515245 : Int32) + (12345 : Int32)
def drK (gs : List (List Nat)) (m : Nat) (s : Int32) : Nat := (inN m gs.length 0 (drU s % pop m 14)).getD 0
def drw (gs : List (List Nat)) (m : Nat) : Nat → Int32 → List Nat
  | 0, _ => []
  | c + 1, s => gs.getD (drK gs m (drS s)) [] ++ drw gs m c (drS s)
def drO (m : Nat) (n : Int32) : Prop := 0 < m ∧ ¬ n < (1 : Int32) ∧ n ≤ (5 : Int32)
theorem pop_in {gs : List (List Nat)} {m : Nat} (ho : okg gs m) : pop m 14 = pop m gs.length := by
  have := ho.1
  rw [show 14 = gs.length + (14 - gs.length) by omega, pop_up ho.2.1]
theorem pop_32 {gs : List (List Nat)} {m : Nat} (ho : okg gs m) : pop m 32 = pop m 14 := by
  have h : m < 2 ^ 14 := Nat.lt_of_lt_of_le ho.2.1 (Nat.pow_le_pow_right (by omega) ho.1)
  exact pop_up h 18
theorem pop_pos {gs : List (List Nat)} {m : Nat} (ho : okg gs m) : 0 < pop m 14 ↔ 0 < m := by
  have h : m < 2 ^ 14 := Nat.lt_of_lt_of_le ho.2.1 (Nat.pow_le_pow_right (by omega) ho.1)
  constructor
  · intro q
    rcases Nat.eq_zero_or_pos m with z | z
    · subst z
      rw [pop_zero] at q
      omega
    · exact z
  · intro q
    rcases Nat.eq_zero_or_pos (pop m 14) with z | z
    · have := pop_0 14 h z
      omega
    · exact z
theorem drK_at {gs : List (List Nat)} {m : Nat} (ho : okg gs m) (hm : 0 < m) (s : Int32) : ∃ l, inN m gs.length 0 (drU s % pop m 14) = some (drK gs m s) ∧ gs[drK gs m s]? = some l ∧ okr l ∧ 0 < l.length ∧ drK gs m s < 14 := by
  have hp := (pop_pos ho).mpr hm
  have h1 : drU s % pop m 14 + pop m 0 < pop m (0 + gs.length) := by
    rw [Nat.zero_add, ← pop_in ho]
    show drU s % pop m 14 + 0 < _
    exact Nat.mod_lt _ hp
  obtain ⟨a, e1, e2, e3, e4⟩ := inN_some _ _ _ h1
  have e : drK gs m s = a := by
    unfold drK
    rw [e1]
    rfl
  rw [e]
  have ga : gs[a]? = some gs[a] := List.getElem?_eq_getElem (by omega)
  obtain ⟨a1, a2, a3⟩ := ho.at ga
  exact ⟨_, e1, ga, a1, a2, a3⟩
theorem drw_st {gs : List (List Nat)} {m c : Nat} {s : Int32} {l : List Nat} (hl : gs[drK gs m (drS s)]? = some l) : drw gs m (c + 1) s = l ++ drw gs m c (drS s) := by
  show gs.getD (drK gs m (drS s)) [] ++ _ = _
  rw [List.getD_eq_getElem?_getD, hl]
  rfl
theorem drw_le {gs : List (List Nat)} {m : Nat} (ho : okg gs m) (hm : 0 < m) : ∀ (c : Nat) (s : Int32), (drw gs m c s).length ≤ 7 * c ∧ ∀ x ∈ drw gs m c s, 0 < x ∧ x < 28
  | 0, s => ⟨Nat.le_refl _, fun x hx => by cases hx⟩
  | c + 1, s => by
    obtain ⟨l, e1, e2, e3, e4, e5⟩ := drK_at ho hm (drS s)
    have := drw_le ho hm c (drS s)
    have h7 := e3.2
    rw [drw_st e2]
    refine ⟨by rw [List.length_append]; omega, fun x hx => ?_⟩
    rcases List.mem_append.mp hx with q | q
    · exact e3.1 x q
    · exact this.2 x q
theorem n15 {n : Int32} (h1 : ¬ n < (1 : Int32)) (h5 : n ≤ (5 : Int32)) : ∃ c, c ≤ 5 ∧ n = nI c := by
  have h0 : ¬ n < 0 := by
    rw [Int32.lt_iff_toInt_lt] at h1 ⊢
    have e1 : (1 : Int32).toInt = 1 := by decide
    have e0 : (0 : Int32).toInt = 0 := by decide
    omega
  obtain ⟨c, hc, rfl⟩ := nI_of h0
  exact ⟨c, (nI_leI (b := 5) hc (by omega)).mp h5, rfl⟩
theorem ow_drawn {d : Nat} {h : PH} {Q : PQ} {gs : List (List Nat)} {m : Nat} {s n : Int32} (hO : OwS h) (hg : CGr h 2 gs m) (k1 : ¬ drO m n → Q (some (.int (-1))) h) (k2 : ∀ h', drO m n → CWd h' (drw gs m n.toNatClampNeg s) → Fr Wcd h h' → Q (some (.int (nI (drw gs m n.toNatClampNeg s).length))) h') : wpm (d + 4) 142 [.ref 0, .int s, .int n] h Q := by
  refine wpm_in P_Ow_drawn rfl (by decide) (by show ¬ 7 < 3; decide) ?_
  have hm := hg.1.m31
  have hp := pop_le m 14
  refine B_Ow_drawn_0 hO.1 (or_groups hO) (os_groups hO) ?_
  rw [hg.2.2.1]
  refine ji_bitCount (by omega) ?_
  rw [pop_32 hg.1]
  refine B_Ow_drawn_10 (fun q => B_Ow_drawn_26 (k1 (fun z => ?_))) (fun q0 => ?_)
  · have := (nI_ltI (b := 1) (by omega) (by omega)).mp q
    have := (pop_pos hg.1).mpr z.1
    omega
  have q0' : 0 < pop m 14 := by
    rcases Nat.eq_zero_or_pos (pop m 14) with z | z
    · rw [z] at q0
      exact absurd (by decide) q0
    · exact z
  have hm0 := (pop_pos hg.1).mp q0'
  refine B_Ow_drawn_16 (fun q => B_Ow_drawn_26 (k1 (fun z => z.2.1 q))) (fun q1 => B_Ow_drawn_21 (fun q5 => ?_) (fun q => B_Ow_drawn_26 (k1 (fun z => q z.2.2))))
  have hD : drO m n := ⟨hm0, q1, q5⟩
  obtain ⟨c0, hc5, rfl⟩ := n15 q1 q5
  have k2' := fun h' => k2 h' hD
  rw [nI_clamp (by omega)] at k2'
  refine B_Ow_drawn_28 hO.1 (or_theWord hO) (os_theWord hO) (wo_clear hO (fun g hw hf => B_Ow_drawn_35 ?_))
  have loop : ∀ (c i : Nat) (s' : Int32) (g : PH) (w : List Nat) (v6 : Value), c0 - i = c → i ≤ c0 → CWd g w → Fr Wcd h g → w.length + 7 * c ≤ 800 → (∀ h', CWd h' (w ++ drw gs m c s') → Fr Wcd h h' → Q (some (.int (nI (w ++ drw gs m c s').length))) h') → wpx (d + 3) P_Ow_drawn 41 [.ref 0, .int s, .int (nI c0), .int (nI (pop m 14)), .int s', .int (nI i), v6] [] g Q := by
    intro c
    induction c with
    | zero =>
      intro i s' g w v6 hc hi hw hf hn k
      have hO' := hf.ow hO
      refine B_Ow_drawn_41 (fun _ => B_Ow_drawn_113 hO'.1 (or_theWord hO') (os_theWord hO') ?_) (fun q => ?_)
      · have e : w ++ drw gs m 0 s' = w := List.append_nil w
        rw [e] at k
        rw [hw.2.1]
        exact k g hw hf
      · rw [nI_leI (by omega) (by omega)] at q
        omega
    | succ c ih =>
      intro i s' g w v6 hc hi hw hf hn k
      have hO' := hf.ow hO
      have hg' : CGr g 2 gs m := hg.fr hf (fun c k q => by unfold Wcd at q; omega)
      have hG' := GrS_2 hO'
      have hu := drU_lt (drS s')
      obtain ⟨l, e1, e2, e3, e4, e5⟩ := drK_at hg.1 hm0 (drS s')
      have h7 := e3.2
      refine B_Ow_drawn_41 (fun q => ?_) (fun _ => B_Ow_drawn_47 hO'.1 (or_groups hO') (fun z => ?_) (os_groups hO') ?_)
      · rw [nI_leI (by omega) (by omega)] at q
        omega
      · have := (nI_eq (b := 0) (by omega) (by omega)).mp z
        omega
      · rw [show s' * (1103515245 : Int32) + (12345 : Int32) = drS s' from rfl, drU_is, nI_rem (by omega) (by omega)]
        have hmod := Nat.mod_lt (drU (drS s')) q0'
        refine gr_inByNumber hG' hg' (by omega) ?_
        rw [e1]
        refine B_Ow_drawn_72 (fun z => absurd z (nI_neg1 (by omega))) (fun _ => B_Ow_drawn_80 hO'.1 (or_theWord hO') (or_groups hO') (os_groups hO') hG'.2.1.1 hG'.2.1.2 (vp_in_nI e5 (by omega)) hG'.2.2.1.1 hG'.2.2.1.2 (vp_in_nI e5 (by omega)) (os_theWord hO') ?_)
        rw [show oI (some (drK gs m (drS s'))) = nI (drK gs m (drS s')) from rfl, nI_clamp (by omega), (hg'.2.2.2 _ l e2).1, (hg'.2.2.2 _ l e2).2]
        refine wo_addRow hO' hw e3 (by omega) (fun h' hw' hf' => B_Ow_drawn_107 ?_)
        rw [nI_1]
        refine ih (i + 1) (drS s') h' (w ++ l) _ (by omega) (by omega) hw' (hf.tr hf') (by rw [List.length_append]; omega) ?_
        rw [drw_st e2, ← List.append_assoc] at k
        exact k
  exact loop c0 0 s g [] _ rfl (Nat.zero_le _) hw hf (by show 0 + 7 * c0 ≤ 800; omega) k2'
def Wdr (c k : Nat) : Prop := Wth c k ∨ Wtr c k ∨ Wmd c k
theorem md_drawn {d : Nat} {h : PH} {Q : PQ} {gs : List (List Nat)} {m : Nat} {s n : Int32} (hM : MdS h) (hg : MGr h gs m) (k1 : ∀ h', ¬ drO m n → Fr Wth h h' → Q (some (.int (-1))) h') (k2 : ∀ h', drO m n → MWd h' (drw gs m n.toNatClampNeg s) → Fr Wdr h h' → Q (some (.int (nI (drw gs m n.toNatClampNeg s).length))) h') : wpm (d + 3) 246 [.ref 17, .int s, .int n] h Q := by
  refine wpm_in P_Md_drawn rfl (by decide) (by show ¬ 7 < 3; decide) (B_Md_drawn_0 hM.1 ?_)
  have hf0 := th_fr h
  have hM0 := hf0.md hM
  have hg0 := hg.fr hf0 wth_g
  have hm := hg.1.m31
  have hp := pop_le m 14
  generalize w_i h 17 0 0 = g0 at hf0 hM0 hg0 ⊢
  refine md_in ?_
  by_cases qn : n < (1 : Int32) ∨ (5 : Int32) < n
  · rw [if_pos qn]
    exact B_Md_drawn_11 (fun _ => B_Md_drawn_21 (k1 g0 (fun z => qn.elim (fun y => z.2.1 y) (fun y => absurd y (Int32.not_lt.mpr z.2.2))) hf0)) (fun z => absurd rfl z)
  rw [if_neg qn]
  have q1 : ¬ n < (1 : Int32) := fun z => qn (Or.inl z)
  have q5 : n ≤ (5 : Int32) := Int32.not_lt.mp (fun z => qn (Or.inr z))
  refine B_Md_drawn_11 (fun z => absurd z (by decide)) (fun _ => B_Md_drawn_14 hM0.1 (fun qm => ?_) (fun qm => B_Md_drawn_21 (k1 g0 (fun z => ?_) hf0)))
  rotate_left
  · rw [hg0.2.2.1] at qm
    have := (nI_eq (b := 0) (by omega) (by omega)).mp qm
    have := z.1
    omega
  rw [hg0.2.2.1] at qm
  have hm0 : 0 < m := by
    rcases Nat.eq_zero_or_pos m with z | z
    · exact absurd (by rw [z]; rfl) qm
    · exact z
  have q0' := (pop_pos hg.1).mpr hm0
  have hD : drO m n := ⟨hm0, q1, q5⟩
  obtain ⟨c0, hc5, rfl⟩ := n15 q1 q5
  have k2' := fun h' => k2 h' hD
  rw [nI_clamp (by omega)] at k2'
  have hdw := drw_le hg.1 hm0 c0 s
  have loop : ∀ (c i : Nat) (s' : Int32) (g : PH) (t : List Nat) (v5 v6 : Value), c0 - i = c → i ≤ c0 → MTr g t → Fr Wdr h g → t.length + 7 * c ≤ 800 → t ++ drw gs m c s' = drw gs m c0 s → wpx (d + 2) P_Md_drawn 33 [.ref 17, .int s, .int (nI c0), .int s', .int (nI i), v5, v6] [] g Q := by
    intro c
    induction c with
    | zero =>
      intro i s' g t v5 v6 hc hi ht hf hn e
      have hM' := hf.md hM
      have et : t = drw gs m c0 s := by
        rw [← e]
        exact (List.append_nil t).symm
      refine B_Md_drawn_33 (fun _ => B_Md_drawn_124 hM'.1 (mr_trial hM') ?_) (fun q => ?_)
      · rw [ht.2.1, et]
        refine md_takesWord (f := 0) hM' (ms_trial hM') (by omega) (by omega) (by omega) ⟨by omega, hdw.2⟩ (fun k x hk => ?_) (fun h' hw' hf' => ?_)
        · rw [Nat.zero_add]
          exact ht.2.2 k x (by rw [et]; exact hk)
        · refine B_Md_drawn_137 (hf'.md hM').1 ?_
          rw [hw'.2.1]
          exact k2' h' hw' (hf.tr (hf'.up (fun c k q => Or.inr (Or.inr q))))
      · rw [nI_leI (by omega) (by omega)] at q
        omega
    | succ c ih =>
      intro i s' g t v5 v6 hc hi ht hf hn e
      have hM' := hf.md hM
      have hg' : MGr g gs m := hg.fr hf (fun c k q => by unfold Wdr Wth Wtr Wmd at q; omega)
      have hu := drU_lt (drS s')
      obtain ⟨l, e1, e2, e3, e4, e5⟩ := drK_at hg.1 hm0 (drS s')
      have h7 := e3.2
      refine B_Md_drawn_33 (fun q => ?_) (fun _ => B_Md_drawn_39 hM'.1 ?_)
      · rw [nI_leI (by omega) (by omega)] at q
        omega
      · rw [show s' * (1103515245 : Int32) + (12345 : Int32) = drS s' from rfl, drU_is, hg'.2.2.1]
        refine md_many hm (B_Md_drawn_60 (fun z => ?_) ?_)
        · have := (nI_eq (b := 0) (by omega) (by omega)).mp z
          omega
        · rw [nI_rem (by omega) (by omega)]
          have hmod := Nat.mod_lt (drU (drS s')) q0'
          have inner : ∀ (e j i' : Nat), gs.length - j = e → j ≤ gs.length → i' < 2 ^ 31 → inN m e j i' = some (drK gs m (drS s')) → wpx (d + 2) P_Md_drawn 66 [.ref 17, .int s, .int (nI c0), .int (drS s'), .int (nI i), .int (nI i'), .int (nI j)] [] g Q := by
            intro e'
            induction e' with
            | zero => intro j i' he hj hi' hin; cases hin
            | succ e' ihe =>
              intro j i' he hj hi' hin
              have h14 := hg.1.1
              refine B_Md_drawn_66 hM'.1 ?_
              rw [hg'.2.2.1]
              refine md_isOf hm (by omega) (fun q => ?_) (fun q => ?_)
              · have e : inN m (e' + 1) j i' = if i' = 0 then some j else inN m e' (j + 1) (i' - 1) := if_pos q
                rw [e] at hin
                refine B_Md_drawn_75 (fun z => absurd z (by decide)) (fun _ => B_Md_drawn_78 (fun z => ?_) (fun z => ?_))
                · have z0 : i' ≤ 0 := (nI_leI (b := 0) hi' (by omega)).mp z
                  rw [if_pos (by omega)] at hin
                  have ej : j = drK gs m (drS s') := Option.some.inj hin
                  rw [← ej] at e2
                  refine B_Md_drawn_111 hM'.1 (md_tries hM' hg' ht e2 (Nat.zero_le _) (by omega) (fun h' ht' hf' => B_Md_drawn_118 ?_))
                  rw [nI_1]
                  rw [ej] at e2
                  refine ih (i + 1) (drS s') h' (t ++ l) _ _ (by omega) (by omega) ht' (hf.tr (hf'.up (fun c k q => Or.inr (Or.inl q)))) (by rw [List.length_append]; omega) ?_
                  rw [List.append_assoc, ← drw_st e2]
                  assumption
                · have z0 : ¬ i' = 0 := fun y => z (by rw [y]; decide)
                  rw [if_neg z0] at hin
                  refine B_Md_drawn_83 hM'.1 ?_
                  rw [hg'.2.2.1]
                  refine md_isOf hm (by omega) (fun _ => ?_) (fun y => absurd q y)
                  refine B_Md_drawn_94 (fun y => absurd y (by decide)) (fun _ => B_Md_drawn_97 (B_Md_drawn_102 ?_))
                  rw [nI_1, show nI i' - (1 : Int32) = nI (i' - 1) from nI_subN (b := 1) (by omega)]
                  exact ihe (j + 1) (i' - 1) (by omega) (by omega) (by omega) hin
              · have e : inN m (e' + 1) j i' = inN m e' (j + 1) i' := if_neg q
                rw [e] at hin
                refine B_Md_drawn_75 (fun _ => B_Md_drawn_83 hM'.1 ?_) (fun z => absurd rfl z)
                rw [hg'.2.2.1]
                refine md_isOf hm (by omega) (fun y => absurd y q) (fun _ => ?_)
                refine B_Md_drawn_94 (fun _ => B_Md_drawn_101 (B_Md_drawn_102 ?_)) (fun y => absurd rfl y)
                rw [nI_1, show nI i' - (0 : Int32) = nI i' from nI_subN (b := 0) (by omega)]
                exact ihe (j + 1) i' (by omega) (by omega) hi' hin
          exact inner _ 0 _ rfl (Nat.zero_le _) (by omega) e1
  refine B_Md_drawn_23 hM0.1 (loop c0 0 s _ [] _ _ rfl (Nat.zero_le _) ⟨Nat.zero_le _, by rw [wi_eq]; rfl, fun k x hk => by cases hk⟩ ((hf0.up (fun c k q => Or.inl q)).tr (Fr.wi _ _ (Or.inr (Or.inl (Or.inl ⟨rfl, rfl⟩))))) (by show 0 + 7 * c0 ≤ 800; omega) rfl)
