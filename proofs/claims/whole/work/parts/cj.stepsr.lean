/-! words on the reference's side: the row of a letter on -/
theorem iteP_c {P P' : Prop} {a b : Nat} (h : P ↔ P') : iteP P a b = iteP P' a b := by
  rw [propext h]
theorem stT_skip {N gs : List (List Nat)} {m s a : Nat} {v : List Nat} (hm : ∀ x, x ∈ N ↔ x = [] ∨ isI gs m x ∨ isG gs m x) (h : dR gs m v (N.getD a []) = 0 ∨ ¬ N.getD a [] ++ [s] ∈ N) : stT N gs m v s (a + 1) = stT N gs m v s a := funext (fun i => by
  unfold stT
  by_cases y : i = 0
  · rw [if_pos y, if_pos y]
    show min 2 (sm (EnS N gs m v s) a + EnS N gs m v s a) = _
    have : EnS N gs m v s a = 0 := by
      by_cases z : isG gs m (N.getD a [] ++ [s])
      · have e : EnS N gs m v s a = dR gs m v (N.getD a []) := iteP_t z
        rw [e]
        exact h.elim id (fun w => absurd ((hm _).mpr (Or.inr (Or.inr z))) w)
      · exact iteP_f z
    rw [this, Nat.add_zero]
  · rw [if_neg y, if_neg y]
    by_cases c : ∃ p, p < a ∧ p < N.length ∧ N[i]? = some (N.getD p [] ++ [s])
    · rw [iteP_t c]
      obtain ⟨p, p1, p2⟩ := c
      exact iteP_t ⟨p, by omega, p2⟩
    · rw [iteP_f c]
      by_cases c2 : ∃ p, p < a + 1 ∧ p < N.length ∧ N[i]? = some (N.getD p [] ++ [s])
      · rw [iteP_t c2]
        obtain ⟨p, p1, p2, p3⟩ := c2
        by_cases e : p = a
        · subst e
          rcases h with h | h
          · rw [gD p3, List.dropLast_concat]
            exact h
          · exact absurd (List.mem_of_getElem? p3) h
        · exact absurd ⟨p, by omega, p2, p3⟩ c
      · exact iteP_f c2)
theorem stT_go {N gs : List (List Nat)} {m s a j : Nat} {v : List Nat} (hN : okN N) (ha : a < N.length) (hj : N[j]? = some (N.getD a [] ++ [s])) : stT N gs m v s a j = 0 ∧ (isG gs m (N.getD a [] ++ [s]) → stT N gs m v s (a + 1) = updD (updD (stT N gs m v s a) j (dR gs m v (N.getD a []))) 0 (min 2 (stT N gs m v s a 0 + dR gs m v (N.getD a [])))) ∧ (¬ isG gs m (N.getD a [] ++ [s]) → stT N gs m v s (a + 1) = updD (stT N gs m v s a) j (dR gs m v (N.getD a []))) := by
  have j0 : j ≠ 0 := fun q => by
    rw [q, hN.2.1] at hj
    have := congrArg List.length (Option.some.inj hj)
    rw [List.length_append] at this
    have h1 : ([s] : List Nat).length = 1 := rfl
    have h2 : ([] : List Nat).length = 0 := rfl
    omega
  have uniq : ∀ p, p < N.length → N[j]? = some (N.getD p [] ++ [s]) → p = a := fun p hp e => by
    rw [hj] at e
    have e2 := (List.append_inj' (Option.some.inj e) rfl).1
    have h1 := gS (gs := N) hp
    have h2 := gS (gs := N) ha
    rw [← e2] at h1
    exact (nix_at hN.1 h1).symm.trans (nix_at hN.1 h2)
  have z0 : stT N gs m v s a j = 0 := by
    unfold stT
    rw [if_neg j0]
    exact iteP_f (fun ⟨p, p1, p2, p3⟩ => by have := uniq p p2 p3; omega)
  have atj : stT N gs m v s (a + 1) j = dR gs m v (N.getD a []) := by
    unfold stT
    rw [if_neg j0, iteP_t ⟨a, by omega, ha, hj⟩, gD hj, List.dropLast_concat]
  have other : ∀ i, i ≠ 0 → i ≠ j → stT N gs m v s (a + 1) i = stT N gs m v s a i := fun i i0 ij => by
    unfold stT
    rw [if_neg i0, if_neg i0]
    refine iteP_c ⟨fun ⟨p, p1, p2, p3⟩ => ⟨p, ?_, p2, p3⟩, fun ⟨p, p1, p2⟩ => ⟨p, by omega, p2⟩⟩
    by_cases e : p = a
    · subst e
      exact absurd ((nix_at hN.1 p3).symm.trans (nix_at hN.1 hj)) ij
    · omega
  refine ⟨z0, fun hg => funext (fun i => ?_), fun hg => funext (fun i => ?_)⟩
  · by_cases y : i = 0
    · rw [y, updD_at]
      have e : EnS N gs m v s a = dR gs m v (N.getD a []) := iteP_t hg
      show min 2 (sm (EnS N gs m v s) a + EnS N gs m v s a) = min 2 (min 2 (sm (EnS N gs m v s) a) + _)
      rw [e]
      omega
    · rw [updD_ne _ _ y]
      by_cases z : i = j
      · rw [z, updD_at, atj]
      · rw [updD_ne _ _ z, other i y z]
  · by_cases z : i = j
    · rw [z, updD_at, atj]
    · rw [updD_ne _ _ z]
      by_cases y : i = 0
      · rw [y]
        have e : EnS N gs m v s a = 0 := iteP_f hg
        show min 2 (sm (EnS N gs m v s) a + EnS N gs m v s a) = min 2 (sm (EnS N gs m v s) a)
        rw [e, Nat.add_zero]
      · exact other i y z
theorem stT_up {N gs : List (List Nat)} {m s a i : Nat} {v : List Nat} (hi : i ≠ 0) (h : stT N gs m v s a i ≠ 0) : stT N gs m v s (a + 1) i ≠ 0 := by
  unfold stT at h ⊢
  rw [if_neg hi] at h ⊢
  by_cases c : ∃ p, p < a ∧ p < N.length ∧ N[i]? = some (N.getD p [] ++ [s])
  · rw [iteP_t c] at h
    obtain ⟨p, p1, p2⟩ := c
    rw [iteP_t ⟨p, by omega, p2⟩]
    exact h
  · exact absurd (iteP_f c) h
theorem pq_zero (o n : Nat) : pq (fun _ => 0) o n = 0 := by
  unfold pq
  refine (sm_congr n (fun k hk => ?_)).trans (sm_zero n)
  show 0 * 4 ^ k = 0
  exact Nat.zero_mul _
theorem CNd.fr {W : Nat → Nat → Prop} {h h' : PH} {N gs : List (List Nat)} {m : Nat} (hf : Fr W h h') (hw : ∀ x k, W x k → ¬ (x = 44 ∨ x = 45 ∨ (x = 17 ∧ k = 53))) (hc : CNd h N gs m) : CNd h' N gs m := by
  obtain ⟨⟨c1, c2, c3, c4⟩, c5⟩ := hc
  refine ⟨⟨c1, ?_, c3, fun u x hu => ⟨fun h0 => ?_, fun s s0 hs => ?_⟩⟩, c5⟩
  · rw [hf.i _ _ (fun q => hw _ _ q (Or.inr (Or.inr ⟨rfl, rfl⟩)))]
    exact c2
  · rw [hf.i _ _ (fun q => hw _ _ q (Or.inr (Or.inl rfl)))]
    exact (c4 u x hu).1 h0
  · rw [hf.i _ _ (fun q => hw _ _ q (Or.inl rfl))]
    exact (c4 u x hu).2 s s0 hs
theorem md_steps {d : Nat} {h : PH} {Q : PQ} {N gs : List (List Nat)} {m s : Nat} {v : List Nat} (hM : MdS h) (ho : okg gs m) (hu : unlk gs) (hC : CNd h N gs m) (s0 : 0 < s) (hs : s < 28) (hD : DgA h 51 (stD N gs m v)) (k1 : ∀ h', DgA h' 52 (stD N gs m (v ++ [s])) → (∃ i, i ≠ 0 ∧ stD N gs m (v ++ [s]) i ≠ 0) → Fr (fun x _ => x = 52) h h' → Q (some (.int 1)) h') (k0 : ∀ h', DgA h' 52 (stD N gs m (v ++ [s])) → (∀ i, stD N gs m (v ++ [s]) i = 0) → Fr (fun x _ => x = 52) h h' → Q (some (.int 0)) h') : wpm (d + 4) 251 [.ref 17, .int (nI (s - 1))] h Q := by
  refine wpm_in P_Md_steps rfl (by decide) (by show ¬ 6 < 2; decide) ?_
  obtain ⟨⟨hN, h53, hW, hx⟩, hm⟩ := hC
  have n99 := hN.2.2.2.1
  have hC : CNd h N gs m := ⟨⟨hN, h53, hW, hx⟩, hm⟩
  have hCf : ∀ {g : PH}, Fr (fun x _ => x = 52) h g → CNd g N gs m := fun hf => hC.fr hf (fun x k z => by omega)
  have hDf : ∀ {g : PH}, Fr (fun x _ => x = 52) h g → DgA g 51 (stD N gs m v) := fun hf => hD.cg (fun k hk => hf.l _ _ (by omega))
  have nodes : ∀ (e a b : Nat) (g : PH) (v4 v5 : Value), N.length - a = e → a ≤ N.length → DgA g 52 (stT N gs m v s a) → Fr (fun x _ => x = 52) h g → (b = 0 ∧ (∀ i, stT N gs m v s a i = 0) ∨ b = 1 ∧ ∃ i, i ≠ 0 ∧ stT N gs m v s a i ≠ 0) → wpx (d + 3) P_Md_steps 24 [.ref 17, .int (nI (s - 1)), .int (nI b), .int (nI a), v4, v5] [] g Q := by
    intro e
    induction e with
    | zero =>
      intro a b g v4 v5 he ha hT hf hb
      have hMg := hf.md hM
      have ea : a = N.length := by omega
      subst ea
      refine B_Md_steps_24 hMg.1 (fun _ => ?_) (fun q => ?_)
      · rw [stT_end ho hu hN hm] at hT hb
        rcases hb with ⟨rfl, hz⟩ | ⟨rfl, hz⟩
        · exact B_Md_steps_106 (by decide) (k0 g hT hz hf)
        · exact B_Md_steps_106 (by decide) (k1 g hT hz hf)
      · rw [(hCf hf).1.2.1, nI_leI (by omega) (by omega)] at q
        omega
    | succ e ih =>
      intro a b g v4 v5 he ha hT hf hb
      have hMg := hf.md hM
      have hCg := hCf hf
      have q1 : N.length - (a + 1) = e := by
        clear hb
        omega
      have q2 : a + 1 ≤ N.length := by
        clear hb
        omega
      have gl := gS (gs := N) (k := a) (by omega)
      have ed : stD N gs m v a = dR gs m v (N.getD a []) := if_pos (by omega)
      have skip : ∀ v4 v5, dR gs m v (N.getD a []) = 0 ∨ ¬ N.getD a [] ++ [s] ∈ N → wpx (d + 3) P_Md_steps 100 [.ref 17, .int (nI (s - 1)), .int (nI b), .int (nI a), .int v4, .int v5] [] g Q := fun v4 v5 hh => by
        refine B_Md_steps_100 ?_
        rw [nI_1]
        have e := stT_skip hm hh
        exact ih (a + 1) b g _ _ q1 q2 (by rw [e]; exact hT) hf (by rw [e]; exact hb)
      refine B_Md_steps_24 hMg.1 (fun q => ?_) (fun _ => B_Md_steps_32 hMg.1 (mr_from hMg) (md_oftenAt (ms_from hMg) (hDf hf) (by omega) ?_))
      · rw [hCg.1.2.1, nI_leI (by omega) (by omega)] at q
        omega
      rw [ed]
      have d2 := dR_le (gs := gs) (m := m) v (N.getD a [])
      have eix : (27 : Int32) * nI a + nI (s - 1) = nI (27 * a + (s - 1)) := by rw [show (27 : Int32) = nI 27 from rfl, nI_mulN, nI_add]
      refine B_Md_steps_41 (fun z => ?_) (fun z => B_Md_steps_48 (B_Md_steps_63 (fun w => absurd w (by decide)) (fun _ => B_Md_steps_70 (skip _ _ (Or.inl ?_)))))
      · have dn : dR gs m v (N.getD a []) ≠ 0 := fun q => z (by rw [q]; rfl)
        refine B_Md_steps_52 hMg.1 (mr_nodeNext hMg) (ms_nodeNext hMg) (by rw [eix]; exact vp_in_nI (by omega) (by omega)) ?_
        rw [eix, nI_clamp (by omega), (hCg.1.2.2.2 a _ gl).2 s s0 hs]
        by_cases hin : N.getD a [] ++ [s] ∈ N
        · obtain ⟨j, hj⟩ := List.mem_iff_getElem?.mp hin
          have jl := (List.getElem?_eq_some_iff.mp hj).1
          obtain ⟨g1, g2, g3⟩ := stT_go (gs := gs) (m := m) (v := v) hN (by omega) hj
          have j0 : j ≠ 0 := fun q => by
            rw [q, hN.2.1] at hj
            have := congrArg List.length (Option.some.inj hj)
            rw [List.length_append] at this
            have h1 : ([s] : List Nat).length = 1 := rfl
            have h2 : ([] : List Nat).length = 0 := rfl
            omega
          rw [nd_at hN.1 hj]
          have atj : stT N gs m v s (a + 1) j ≠ 0 := by
            by_cases w : isG gs m (N.getD a [] ++ [s])
            · rw [g2 w, updD_ne _ _ j0, updD_at]
              exact dn
            · rw [g3 w, updD_at]
              exact dn
          refine B_Md_steps_63 (fun _ => B_Md_steps_73 hMg.1 (md_adds hMg hT (by omega) d2 (fun g' hT' f1 => ?_))) (fun w => absurd (nI_pos' (by omega)) w)
          have F1 := hf.tr f1
          have hM1 := F1.md hM
          have hC1 := hCf F1
          have be := (hC1.1.2.2.2 j _ hj).1 (by omega)
          rw [g1, Nat.zero_add, Nat.min_eq_right d2] at hT'
          refine B_Md_steps_83 hM1.1 (mr_nodeEnds hM1) (ms_nodeEnds hM1) (vp_in_nI (by omega) (by omega)) (fun q => B_Md_steps_100 ?_) (fun q => B_Md_steps_93 hM1.1 (md_adds (i := 0) hM1 hT' (by omega) d2 (fun g'' hT'' f2 => B_Md_steps_100 ?_)))
          · rw [nI_clamp (by omega)] at q
            have w : ¬ isG gs m (N.getD a [] ++ [s]) := fun w => by
              rw [be.1 w] at q
              exact absurd q (by decide)
            rw [nI_1]
            exact ih (a + 1) 1 g' _ _ q1 q2 (by rw [g3 w]; exact hT') F1 (Or.inr ⟨rfl, j, j0, atj⟩)
          · rw [nI_clamp (by omega)] at q
            have w : isG gs m (N.getD a [] ++ [s]) := Classical.byContradiction (fun w => q (be.2 w))
            rw [updD_ne _ _ (fun z => j0 z.symm)] at hT''
            rw [nI_1]
            exact ih (a + 1) 1 g'' _ _ q1 q2 (by rw [g2 w]; exact hT'') (F1.tr f2) (Or.inr ⟨rfl, j, j0, atj⟩)
        · rw [nd_no hin]
          exact B_Md_steps_63 (fun w => absurd w (by decide)) (fun _ => B_Md_steps_70 (skip _ _ (Or.inr hin)))
      · by_cases q : dR gs m v (N.getD a []) = 0
        · exact q
        · exact absurd z (nI_ne0 (by omega) (by omega))
  have zero : ∀ (e i : Nat) (g : PH), 4 - i = e → i ≤ 4 → (∀ q, q < i → h_l g 52 q = 0) → Fr (fun x _ => x = 52) h g → wpx (d + 3) P_Md_steps 2 [.ref 17, .int (nI (s - 1)), .int (nI i), .retAddr 0, .retAddr 0, .retAddr 0] [] g Q := by
    intro e
    induction e with
    | zero =>
      intro i g he hi hz hf
      have e4 : i = 4 := by omega
      subst e4
      refine B_Md_steps_2 (fun _ => B_Md_steps_20 ?_) (fun q => absurd (by decide) q)
      refine nodes _ 0 0 g _ _ rfl (Nat.zero_le _) ?_ hf (Or.inl ⟨rfl, fun i => by rw [stT_0]⟩)
      rw [stT_0]
      exact ⟨fun q hq => by rw [hz q hq, pq_zero]; rfl, fun _ => Nat.zero_le _⟩
    | succ e ih =>
      intro i g he hi hz hf
      have hMg := hf.md hM
      refine B_Md_steps_2 (fun q => ?_) (fun _ => B_Md_steps_7 hMg.1 (mr_to hMg) (ms_to hMg) (vp_in_nI (by omega) (by omega)) ?_)
      · rw [show (4 : Int32) = nI 4 from rfl, nI_leI (by omega) (by omega)] at q
        omega
      · rw [nI_clamp (by omega), nI_1]
        refine ih (i + 1) _ (by omega) (by omega) (fun q hq => ?_) (hf.tr (Fr.wl _ _ rfl))
        rw [h_l_wl]
        by_cases y : q = i
        · rw [if_pos ⟨rfl, y⟩]
        · rw [if_neg (fun w => y w.2)]
          exact hz q (by omega)
  exact B_Md_steps_0 (zero _ 0 h rfl (Nat.zero_le _) (fun q hq => absurd hq (by omega)) (Fr.rf _ _))
