/-! cures on the reference's side -/
def Wic (c k : Nat) : Prop := Wpn c k ∨ c = 18 ∨ c = 19 ∨ (c = 17 ∧ k = 6)
theorem way3 (x : Int32) : (x < 0 ∨ 2 < x) ∨ x = 0 ∨ x = 1 ∨ x = 2 := by
  by_cases a : x < 0
  · exact Or.inl (Or.inl a)
  by_cases b : 2 < x
  · exact Or.inl (Or.inr b)
  rw [Int32.lt_iff_toInt_lt] at a b
  have e2 : (2 : Int32).toInt = 2 := by decide
  have e1 : (1 : Int32).toInt = 1 := by decide
  have e0 : (0 : Int32).toInt = 0 := by decide
  rw [e0] at a
  rw [e2] at b
  refine Or.inr ?_
  by_cases p : x.toInt = 0
  · exact Or.inl (Int32.toInt_inj.mp (p.trans e0.symm))
  by_cases q : x.toInt = 1
  · exact Or.inr (Or.inl (Int32.toInt_inj.mp (q.trans e1.symm)))
  · exact Or.inr (Or.inr (Int32.toInt_inj.mp ((show x.toInt = 2 by omega).trans e2.symm)))
theorem lowb_lt : ∀ n y, lowb n y < 2 ^ n
  | 0, y => by
    show 0 < 2 ^ 0
    decide
  | n + 1, y => by
    have := lowb_lt n (y / 2)
    unfold lowb
    rw [Nat.pow_succ]
    by_cases z : y % 2 = 1
    · rw [if_pos z]
      omega
    · rw [if_neg z]
      omega
theorem md_isCure {d : Nat} {h : PH} {Q : PQ} {gs : List (List Nat)} {m s : Nat} {x : Int32} (hM : MdS h) (hg : MGr h gs m) (hu : unlC gs) (hx : x = 0 ∨ x = 1 ∨ x = 2) (hs : sbs s (can gs m)) (kt : Hls x gs m s → ∀ h', MGr h' gs m → Fr Wic h h' → Q (some (.int 1)) h') (kf : ¬ Hls x gs m s → ∀ h', MGr h' gs m → Fr Wic h h' → Q (some (.int 0)) h') : wpm (d + 5) 275 [.ref 17, .int x, .int (nI s)] h Q := by
  refine wpm_in P_Md_isCure rfl (by decide) (by show ¬ 6 < 3; decide) (B_Md_isCure_0 hM.1 ?_)
  rw [hg.2.2.1]
  have h14 := hg.1.1
  obtain ⟨c1, c2⟩ := can_sub hs
  have hb31 : s < 2 ^ 31 := Nat.lt_of_lt_of_le c2 (Nat.pow_le_pow_right (by decide) (by omega))
  have h7 : ∀ t l, gs[t]? = some l → inm s t → l.length < 7 := fun t l ht hi => by
    have := (c1 t hi).2.2
    rw [gD ht] at this
    omega
  have fin : ∀ (b : Int32) (v : Int32), narrow .boolean (.int b) = .int b → (∀ h', MGr h' gs m → Fr Wic h h' → Q (some (.int b)) h') → ∀ g, Fr Wic h g → (∀ t l, gs[t]? = some l → MRow g t l) → wpx (d + 4) P_Md_isCure 65 [.ref 17, .int x, .int (nI s), .int (nI m), .int b, .int v] [] g Q := by
    intro b v hb kk g hf hr
    refine B_Md_isCure_65 (hf.md hM).1 hb (kk _ ⟨hg.1, ?_, wi_eq .., fun t l ht => ?_⟩ (hf.tr (Fr.wi _ _ (Or.inr (Or.inr (Or.inr ⟨rfl, rfl⟩))))))
    · rw [wi_ne _ _ (by omega), hf.i 17 4 (fun z => by unfold Wic Wpn at z; omega)]
      exact hg.2.1
    · have := hr t l ht
      refine ⟨by rw [wi_ne _ _ (by omega)]; exact this.1, fun i y hi => ?_⟩
      rw [wi_ne _ _ (by omega)]
      exact this.2 i y hi
  have loop : ∀ (b : Int32), ¬ x = 2 → narrow .boolean (.int b) = .int b → (∀ h', MGr h' gs m → Fr Wic h h' → Q (some (.int b)) h') → ∀ (c k : Nat) (g : PH), gs.length - k = c → k ≤ gs.length → Fr Wic h g → (∀ t l, gs[t]? = some l → MRow g t (if t < k then l else mkr x s t l)) → wpx (d + 4) P_Md_isCure 20 [.ref 17, .int x, .int (nI s), .int (nI m), .int b, .int (nI k)] [] g Q := by
    intro b hx2 hb kk c
    have hx3 : ¬ (2 : Int32) ≤ x := by rcases hx with e | e | e <;> rw [e] at hx2 ⊢ <;> first | decide | exact absurd rfl hx2
    induction c with
    | zero =>
      intro k g hc hk hf hr
      have e4 : h_i g 17 4 = nI gs.length := by rw [hf.i 17 4 (fun z => by unfold Wic Wpn at z; omega)]; exact hg.2.1
      refine B_Md_isCure_20 (hf.md hM).1 (fun _ => fin b _ hb kk g hf (fun t l ht => ?_)) (fun q => ?_)
      · have := hr t l ht
        have hlt := (List.getElem?_eq_some_iff.mp ht).1
        rw [if_pos (by omega)] at this
        exact this
      · rw [e4, nI_leI (by omega) (by omega)] at q
        omega
    | succ c ih =>
      intro k g hc hk hf hr
      have hG := hf.md hM
      have e4 : h_i g 17 4 = nI gs.length := by rw [hf.i 17 4 (fun z => by unfold Wic Wpn at z; omega)]; exact hg.2.1
      have hk' : k < gs.length := by omega
      have ga : gs[k]? = some gs[k] := List.getElem?_eq_getElem hk'
      generalize gs[k] = a at ga
      obtain ⟨a1, a2, a3⟩ := hg.1.at ga
      have ra := hr k a ga
      rw [if_neg (by omega)] at ra
      have next : ∀ g1 : PH, Fr (Wrw k) g g1 → MRow g1 k a → wpx (d + 4) P_Md_isCure 59 [.ref 17, .int x, .int (nI s), .int (nI m), .int b, .int (nI k)] [] g1 Q := by
        intro g1 ff rj
        refine B_Md_isCure_59 ?_
        rw [nI_1]
        refine ih (k + 1) g1 (by omega) (by omega) (hf.tr (ff.up (fun c k q => by unfold Wrw at q; unfold Wic; omega))) (fun t l ht => ?_)
        by_cases et : t = k
        · subst et
          rw [ga] at ht
          cases ht
          rw [if_pos (by omega)]
          exact rj
        · have := hr t l ht
          obtain ⟨b1, b2, b3⟩ := hg.1.at ht
          by_cases lt : t < k
          · rw [if_pos lt] at this
            rw [if_pos (by omega)]
            have b7 := b1.2
            exact this.fr ff et (by omega)
          · rw [if_neg lt] at this
            rw [if_neg (by omega)]
            have b7 := (mkr_ok (x := x) (s := s) (t := t) b1 b2).1.2
            exact this.fr ff et (by omega)
      refine B_Md_isCure_20 hG.1 (fun q => ?_) (fun _ => ?_)
      · rw [e4, nI_leI (by omega) (by omega)] at q
        omega
      refine B_Md_isCure_29 (fun z => absurd z hx3) (fun _ => B_Md_isCure_34 ?_)
      refine md_isOf hb31 (by omega) (fun q => ?_) (fun q => ?_)
      · refine B_Md_isCure_40 (fun z => absurd z (by decide)) (fun _ => ?_)
        have z' := h7 k a ga q
        have em : mkr x s k a = mkl x a := by unfold mkr; rw [if_pos ⟨q, z'⟩]
        rw [em] at ra
        unfold mkl at ra
        refine B_Md_isCure_43 (fun n1 => B_Md_isCure_55 (B_Md_isCure_56 hG.1 ?_)) (fun n1 => B_Md_isCure_51 (B_Md_isCure_56 hG.1 ?_))
        · rw [if_neg n1] at ra
          exact md_unmarks_behind hG ra a3 z' (fun g1 rj ff => next g1 ff rj)
        · rw [if_pos n1] at ra
          exact md_unmarks_ahead hG ra a3 z' (fun g1 rj ff => next g1 ff rj)
      · refine B_Md_isCure_40 (fun _ => next g (Fr.rf _ g) ?_) (fun z => absurd rfl z)
        have em : mkr x s k a = a := by unfold mkr; rw [if_neg (fun w => q w.1)]
        rw [em] at ra
        exact ra
  by_cases hx2 : x = 2
  · subst hx2
    have sm : s &&& m = s := sbs_and.mp (fun k hk => (c1 k hk).1)
    refine md_does2 hM hg c2 sm (fun g hg1 f1 => ?_)
    refine B_Md_isCure_11 (f1.md hM).1 ?_
    have rows : ∀ g', Fr Wpn g g' → ∀ t l, gs[t]? = some l → MRow g' t l := fun g' f2 t l ht => by
      have hq := hg1.2.2.2 t l ht
      refine ⟨by rw [f2.i 19 t (fun z => by unfold Wpn at z; omega)]; exact hq.1, fun i y hi => ?_⟩
      rw [f2.i 18 _ (fun z => by unfold Wpn at z; omega)]
      exact hq.2 i y hi
    have frs : ∀ g', Fr Wpn g g' → Fr Wic h g' := fun g' f2 => (f1.up (fun c k z => by unfold Wic; omega)).tr (f2.up (fun c k z => Or.inl z))
    have ends : ∀ (b : Int32), narrow .boolean (.int b) = .int b → (∀ h', MGr h' gs m → Fr Wic h h' → Q (some (.int b)) h') → ∀ g', Fr Wpn g g' → wpx (d + 4) P_Md_isCure 20 [.ref 17, .int 2, .int (nI s), .int (nI m), .int b, .int 0] [] g' Q := fun b hb kk g' f2 => by
      have hF := frs g' f2
      exact B_Md_isCure_20 (hF.md hM).1 (fun _ => fin b _ hb kk g' hF (rows g' f2)) (fun _ => B_Md_isCure_29 (fun _ => fin b _ hb kk g' hF (rows g' f2)) (fun z => absurd (by decide) z))
    refine md_partsNow (f1.md hM) hg1 hu.unlk (fun hp g' f2 => B_Md_isCure_15 (ends 1 rfl (kt hp) g' f2)) (fun hp g' f2 => B_Md_isCure_15 (ends 0 rfl (kf hp) g' f2))
  · have hx01 : x = 0 ∨ x = 1 := by rcases hx with e | e | e <;> first | exact Or.inl e | exact Or.inr e | exact absurd e hx2
    have e1 : hlg x s gs = mkg x s gs := by unfold hlg; rw [if_neg hx2]
    have e2 : hlm x s m = m := by unfold hlm; rw [if_neg hx2]
    unfold Hls at kt kf
    rw [e1, e2] at kt kf
    refine md_doesM hM hg hx01 hb31 h7 (fun g hg1 f1 => ?_)
    refine B_Md_isCure_11 (f1.md hM).1 ?_
    have rows : ∀ g', Fr Wpn g g' → ∀ t l, gs[t]? = some l → MRow g' t (if t < 0 then l else mkr x s t l) := fun g' f2 t l ht => by
      have hq := hg1.2.2.2 t (mkr x s t l) (by unfold mkg; rw [List.getElem?_mapIdx, ht]; rfl)
      rw [if_neg (by omega)]
      refine ⟨by rw [f2.i 19 t (fun z => by unfold Wpn at z; omega)]; exact hq.1, fun i y hi => ?_⟩
      rw [f2.i 18 _ (fun z => by unfold Wpn at z; omega)]
      exact hq.2 i y hi
    have frs : ∀ g', Fr Wpn g g' → Fr Wic h g' := fun g' f2 => (f1.up (fun c k z => by unfold Wic; omega)).tr (f2.up (fun c k z => Or.inl z))
    refine md_partsNow (f1.md hM) hg1 (unlC_mkg.mpr hu).unlk (fun hp g' f2 => B_Md_isCure_15 (loop 1 hx2 rfl (kt hp) _ 0 g' rfl (Nat.zero_le _) (frs g' f2) (rows g' f2))) (fun hp g' f2 => B_Md_isCure_15 (loop 0 hx2 rfl (kf hp) _ 0 g' rfl (Nat.zero_le _) (frs g' f2) (rows g' f2)))
theorem CuB.no {P : Nat → Prop} {u : Nat} (hp : ¬ P u) : ∀ {o : Option Nat}, CuB P u o → CuB P (u + 1) o
  | none, h => fun s hs hP => by
    by_cases e : s = u
    · exact hp (e ▸ hP)
    · exact h s (by omega) hP
  | some b, h => ⟨by have := h.1; omega, h.2.1, fun s hs hP => by
    by_cases e : s = u
    · exact absurd (e ▸ hP) hp
    · exact h.2.2 s (by omega) hP⟩
theorem CuB.keep {P : Nat → Prop} {u b : Nat} (hc : ck b ≤ ck u) (h : CuB P u (some b)) : CuB P (u + 1) (some b) := ⟨by have := h.1; omega, h.2.1, fun s hs hP => by
    by_cases e : s = u
    · rw [e]
      exact hc
    · exact h.2.2 s (by omega) hP⟩
theorem CuB.new {P : Nat → Prop} {u : Nat} (hp : P u) : ∀ {o : Option Nat}, (∀ b, o = some b → ck u ≤ ck b) → CuB P u o → CuB P (u + 1) (some u)
  | none, _, h => ⟨by omega, hp, fun s hs hP => by
    by_cases e : s = u
    · rw [e]
      exact Nat.le_refl _
    · exact absurd hP (h s (by omega))⟩
  | some b, hc, h => ⟨by omega, hp, fun s hs hP => by
    by_cases e : s = u
    · rw [e]
      exact Nat.le_refl _
    · exact Nat.le_trans (hc b rfl) (h.2.2 s (by omega) hP)⟩
theorem md_cureOf {d : Nat} {h : PH} {Q : PQ} {gs : List (List Nat)} {m : Nat} {x : Int32} (hM : MdS h) (hg : MGr h gs m) (hu : unlC gs) (hx : x = 0 ∨ x = 1 ∨ x = 2) (k : ∀ o, IsCu x gs m o → ∀ h', MGr h' gs m → Fr Wic h h' → Q (some (.int (oN o))) h') : wpm (d + 6) 276 [.ref 17, .int x] h Q := by
  refine wpm_in P_Md_cureOf rfl (by decide) (by show ¬ 8 < 2; decide) (B_Md_cureOf_0 ?_)
  have h14 := hg.1.1
  have hm31 := hg.1.m31
  have p14 : 2 ^ gs.length ≤ 2 ^ 14 := Nat.pow_le_pow_right (by decide) h14
  have cl : can gs m < 2 ^ gs.length := canN_lt
  -- one set after another
  have sets : ∀ (c u : Nat) (o : Option Nat) (g : PH) (v5 v6 v7 : Value), 2 ^ gs.length - u = c → u ≤ 2 ^ gs.length → CuB (cuP x gs m) u o → MGr g gs m → Fr Wic h g → wpx (d + 5) P_Md_cureOf 55 [.ref 17, .int x, .int (nI (can gs m)), .int (oN o), .int (nI u), v5, v6, v7] [] g Q := by
    intro c
    induction c with
    | zero =>
      intro u o g v5 v6 v7 hc hu' ho hgg hf
      refine B_Md_cureOf_55 (hf.md hM).1 (fun _ => B_Md_cureOf_156 (k o ?_ g hgg hf)) (fun q => ?_)
      · have e : u = 2 ^ gs.length := by omega
        unfold IsCu
        rw [← e]
        exact ho
      · rw [hgg.2.1, sh1k _ (by omega), nI_leI (by omega) (by omega)] at q
        omega
    | succ c ih =>
      intro u o g v5 v6 v7 hc hu' ho hgg hf
      refine B_Md_cureOf_55 (hf.md hM).1 (fun q => ?_) (fun _ => ?_)
      · rw [hgg.2.1, sh1k _ (by omega), nI_leI (by omega) (by omega)] at q
        omega
      have nxt : ∀ (o' : Option Nat) (g' : PH) (w5 w6 w7 : Value), CuB (cuP x gs m) (u + 1) o' → MGr g' gs m → Fr Wic h g' → wpx (d + 5) P_Md_cureOf 150 [.ref 17, .int x, .int (nI (can gs m)), .int (oN o'), .int (nI u), w5, w6, w7] [] g' Q := fun o' g' w5 w6 w7 ho' hg' hf' => by
        refine B_Md_cureOf_150 ?_
        rw [nI_1]
        exact ih (u + 1) o' g' w5 w6 w7 (by omega) (by omega) ho' hg' hf'
      refine B_Md_cureOf_66 (fun q => ?_) (fun q => ?_)
      · rw [and_nots (by omega) (by omega)] at q
        have try_ : ∀ (x6 : Int32), (∀ b, o = some b → ck u ≤ ck b) → wpx (d + 5) P_Md_cureOf 125 [.ref 17, .int x, .int (nI (can gs m)), .int (oN o), .int (nI u), .int (nI (pop u 14)), .int x6, v7] [] g Q := fun x6 hb => by
          refine B_Md_cureOf_125 (B_Md_cureOf_130 (fun z => absurd z (by decide)) (fun _ => B_Md_cureOf_137 (hf.md hM).1 ?_))
          refine md_isCure (hf.md hM) hgg hu hx q (fun hp g' hg' f2 => ?_) (fun hp g' hg' f2 => ?_)
          · refine B_Md_cureOf_144 (fun z => absurd z (by decide)) (fun _ => B_Md_cureOf_147 ?_)
            exact nxt (some u) g' _ _ _ (CuB.new ⟨q, hp⟩ hb ho) hg' (hf.tr f2)
          · exact B_Md_cureOf_144 (fun _ => nxt o g' _ _ _ (CuB.no (fun w => hp w.2) ho) hg' (hf.tr f2)) (fun z => absurd rfl z)
        refine B_Md_cureOf_78 (md_many (by omega) ?_)
        cases o with
        | none => exact B_Md_cureOf_83 (fun _ => try_ _ (fun b hb => by cases hb)) (fun z => absurd (by decide) z)
        | some b =>
          have hbu := ho.1
          have pb := pop_le b 14
          have pu := pop_le u 14
          have skip : ∀ (x6 : Int32), ck b ≤ ck u → wpx (d + 5) P_Md_cureOf 129 [.ref 17, .int x, .int (nI (can gs m)), .int (nI b), .int (nI u), .int (nI (pop u 14)), .int x6, v7] [] g Q := fun x6 hb =>
            B_Md_cureOf_129 (B_Md_cureOf_130 (fun _ => nxt (some b) g _ _ _ (CuB.keep hb ho) hgg hf) (fun z => absurd rfl z))
          refine B_Md_cureOf_83 (fun z => absurd z (nI_lt0 (by omega))) (fun _ => B_Md_cureOf_95 (md_many (by omega) ?_))
          refine B_Md_cureOf_101 (fun z => try_ _ (fun b' hb' => ?_)) (fun z => B_Md_cureOf_104 (md_many (by omega) ?_))
          · cases hb'
            rw [nI_ltI (by omega) (by omega)] at z
            exact Nat.le_of_lt (ck_lt.mpr (Or.inl z))
          · rw [nI_ltI (by omega) (by omega)] at z
            refine B_Md_cureOf_110 (fun y => ?_) (fun y => ?_)
            · refine skip _ (Nat.le_of_lt (ck_lt.mpr (Or.inl ?_)))
              have : ¬ pop u 14 = pop b 14 := fun w => y (by rw [w])
              omega
            · have y' := (nI_eq (by omega) (by omega)).mp y
              have hne : u ≠ b := by omega
              have xl : u ^^^ b < 2 ^ 14 := Nat.xor_lt_two_pow (by omega) (by omega)
              have key := low_rv (n := 14) (s := u) (t := b) (by omega) (by omega) hne
              have ll : lowb 14 (u ^^^ b) &&& u < 2 ^ 14 := Nat.lt_of_le_of_lt Nat.and_le_right (by omega)
              have e : ((nI u ^^^ nI b) &&& (-(nI u ^^^ nI b))) &&& nI u = nI (lowb 14 (u ^^^ b) &&& u) := by
                rw [nI_xorN (by omega) (by omega), low_nI xl, nI_andN (by have := lowb_lt 14 (u ^^^ b); omega) (by omega)]
              refine B_Md_cureOf_113 (fun v => skip _ ?_) (fun v => try_ _ (fun b' hb' => ?_))
              · have v0 : nI u ^^^ oN (some b) = nI u ^^^ nI b := rfl
                rw [v0, e] at v
                have v' := (nI_eq (b := 0) (by omega) (by omega)).mp v
                have : ¬ rv 14 b < rv 14 u := fun w => (key.mpr w) v'
                refine Nat.le_of_not_lt (fun w => ?_)
                rcases ck_lt.mp w with w | w
                · omega
                · exact this w.2
              · cases hb'
                have v0 : nI u ^^^ oN (some b) = nI u ^^^ nI b := rfl
                rw [v0, e] at v
                have : lowb 14 (u ^^^ b) &&& u ≠ 0 := fun w => v (by rw [w]; rfl)
                exact Nat.le_of_lt (ck_lt.mpr (Or.inr ⟨y', key.mp this⟩))
      · rw [and_nots (by omega) (by omega)] at q
        exact B_Md_cureOf_75 (nxt o g _ _ _ (CuB.no (fun w => q w.1) ho) hgg hf)
  -- the groups that can be chosen
  have cans : ∀ (c n : Nat) (v4 v5 v6 v7 : Value), gs.length - n = c → n ≤ gs.length → wpx (d + 5) P_Md_cureOf 4 [.ref 17, .int x, .int (nI (canN gs m n)), .int (nI n), v4, v5, v6, v7] [] h Q := by
    intro c
    induction c with
    | zero =>
      intro n v4 v5 v6 v7 hc hn
      refine B_Md_cureOf_4 hM.1 (fun _ => B_Md_cureOf_50 ?_) (fun q => ?_)
      · have e : n = gs.length := by omega
        rw [e]
        exact sets _ 0 none h v5 v6 v7 rfl (Nat.zero_le _) (fun s hs => absurd hs (by omega)) hg (Fr.rf _ _)
      · rw [hg.2.1, nI_leI (by omega) (by omega)] at q
        omega
    | succ c ih =>
      intro n v4 v5 v6 v7 hc hn
      refine B_Md_cureOf_4 hM.1 (fun q => ?_) (fun _ => B_Md_cureOf_12 hM.1 ?_)
      · rw [hg.2.1, nI_leI (by omega) (by omega)] at q
        omega
      have gn := gS (gs := gs) (k := n) (by omega)
      have l7 := (hg.1.at gn).1.2
      have cn : canN gs m n < 2 ^ n := canN_lt
      have pn : 2 ^ n ≤ 2 ^ 14 := Nat.pow_le_pow_right (by decide) (by omega)
      rw [hg.2.2.1]
      have e0 : canN gs m (n + 1) = if inm m n ∧ (gs.getD n []).length ≤ 6 then canN gs m n ||| 2 ^ n else canN gs m n := rfl
      have skip : ¬ (inm m n ∧ (gs.getD n []).length ≤ 6) → wpx (d + 5) P_Md_cureOf 41 [.ref 17, .int x, .int (nI (canN gs m n)), .int (nI n), v4, v5, v6, v7] [.int (nI (canN gs m n))] h Q := fun z => by
        rw [if_neg z] at e0
        refine B_Md_cureOf_41 (B_Md_cureOf_42 ?_)
        rw [show (0 : Int32) = nI 0 from rfl, nI_orN (by omega) (by omega), Nat.or_zero, nI_1, ← e0]
        exact ih (n + 1) v4 v5 v6 v7 (by omega) (by omega)
      refine md_isOf hm31 (by omega) (fun q => B_Md_cureOf_21 (fun z => absurd z (by decide)) (fun _ => ?_)) (fun q => B_Md_cureOf_21 (fun _ => skip (fun w => q w.1)) (fun z => absurd rfl z))
      refine B_Md_cureOf_24 hM.1 (mr_size hM) (ms_size hM) (vp_in_nI (by omega) (by omega)) (fun z => ?_) (fun z => ?_)
      · rw [nI_clamp (by omega), (hg.2.2.2 n _ gn).1, show (6 : Int32) = nI 6 from rfl, nI_ltI (by omega) (by omega)] at z
        exact skip (fun w => by have := w.2; omega)
      · rw [nI_clamp (by omega), (hg.2.2.2 n _ gn).1, show (6 : Int32) = nI 6 from rfl, nI_ltI (by omega) (by omega)] at z
        rw [if_pos ⟨q, by omega⟩] at e0
        refine B_Md_cureOf_35 (B_Md_cureOf_42 ?_)
        rw [sh1k _ (by omega), nI_orN (by omega) (by have : 2 ^ n < 2 ^ 15 := Nat.pow_lt_pow_right (by decide) (by omega); omega), nI_1, ← e0]
        exact ih (n + 1) v4 v5 v6 v7 (by omega) (by omega)
  exact cans _ 0 _ _ _ _ rfl (Nat.zero_le _)
