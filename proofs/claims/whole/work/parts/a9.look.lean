/-! look on the class's side -/
theorem ow_commonLetters {d : Nat} {h : PH} {Q : PQ} {a b : List Nat} (ha : okr a) (hb : okr b) (k : Q (some (.int (nI (cpl a b)))) h) : wpm (d + 2) 168 [.long (pk a), .int (nI a.length), .long (pk b), .int (nI b.length)] h Q := by
  refine wpm_in P_Ow_commonLetters rfl (by decide) (by show ¬ 8 < 6; decide) (B_Ow_commonLetters_0 ?_)
  have a7 := ha.2
  have b7 := hb.2
  have em : (if nI b.length < nI a.length then nI b.length else nI a.length) = nI (min a.length b.length) := by
    by_cases z : b.length < a.length
    · rw [if_pos ((nI_ltI (by omega) (by omega)).mpr z), Nat.min_eq_right (by omega)]
    · rw [if_neg (fun y => z ((nI_ltI (by omega) (by omega)).mp y)), Nat.min_eq_left (by omega)]
  rw [em]
  have mn : min a.length b.length ≤ a.length ∧ min a.length b.length ≤ b.length := ⟨Nat.min_le_left .., Nat.min_le_right ..⟩
  have mn2 : min a.length b.length = a.length ∨ min a.length b.length = b.length := by omega
  generalize min a.length b.length = M at mn mn2 ⊢
  have loop : ∀ (e n : Nat), M - n = e → n ≤ M → (∀ i, i < n → a[i]? = b[i]?) → wpx (d + 1) P_Ow_commonLetters 11 [.long (pk a), .retAddr 2, .int (nI a.length), .long (pk b), .retAddr 2, .int (nI b.length), .int (nI M), .int (nI n)] [] h Q := by
    intro e
    induction e with
    | zero =>
      intro n he hn hi
      refine B_Ow_commonLetters_11 (fun _ => B_Ow_commonLetters_42 ?_) (fun z => ?_)
      · rw [cpl_eq n a b (by omega) (by omega) hi (by rcases mn2 with w | w <;> omega)] at k
        exact k
      · rw [nI_leI (by omega) (by omega)] at z
        omega
    | succ e ih =>
      intro n he hn hi
      have ga : a[n]? = some a[n] := List.getElem?_eq_getElem (by omega)
      have gb : b[n]? = some b[n] := List.getElem?_eq_getElem (by omega)
      have sa : sgn a (nI n) = nI a[n] := by
        unfold sgn
        rw [if_neg (fun z => z.elim (nI_pos (by omega)) (fun y => by rw [nI_leI (by omega) (by omega)] at y; omega)), nI_clamp (by omega), List.getD_eq_getElem?_getD, ga]
        rfl
      have sb : sgn b (nI n) = nI b[n] := by
        unfold sgn
        rw [if_neg (fun z => z.elim (nI_pos (by omega)) (fun y => by rw [nI_leI (by omega) (by omega)] at y; omega)), nI_clamp (by omega), List.getD_eq_getElem?_getD, gb]
        rfl
      have xa := (ha.1 _ (List.mem_of_getElem? ga)).2
      have xb := (hb.1 _ (List.mem_of_getElem? gb)).2
      refine B_Ow_commonLetters_11 (fun z => ?_) (fun _ => B_Ow_commonLetters_18 (ow_signOf ha (B_Ow_commonLetters_25 (ow_signOf hb (B_Ow_commonLetters_33 (fun z => B_Ow_commonLetters_42 ?_) (fun z => B_Ow_commonLetters_36 ?_))))))
      · rw [nI_leI (by omega) (by omega)] at z
        omega
      · rw [sa, sb, nI_eq (by omega) (by omega)] at z
        rw [cpl_eq n a b (by omega) (by omega) hi (Or.inr (Or.inr (fun y => z (by rw [ga, gb] at y; exact Option.some.inj y))))] at k
        exact k
      · rw [sa, sb, nI_eq (by omega) (by omega)] at z
        rw [nI_1]
        refine ih (n + 1) (by omega) (by omega) (fun i hin => ?_)
        by_cases w : i = n
        · subst w
          rw [ga, gb, z]
        · exact hi i (by omega)
  exact loop M 0 rfl (Nat.zero_le _) (fun i hi => absurd hi (Nat.not_lt_zero _))
theorem e14' (t k : Nat) : (nI t * (14 : Int32)) + nI k = nI (14 * t + k) := by rw [show (14 : Int32) = nI 14 from rfl, nI_mulN, nI_add, Nat.mul_comm]
def PLk (h : PH) (b : Nat) (gs : List (List Nat)) (m : Nat) (L : List (List Nat)) (t k : Nat) (r : List Nat) : Prop := (¬ inm m k → h_i h (b + 6) (14 * t + k) = 0 ∧ h_i h (b + 7) (14 * t + k) = -1) ∧ (inm m k → h_i h (b + 6) (14 * t + k) = nI (cpl (gs.getD k []) r) ∧ ((rsO (gs.getD k []) r = none ∧ h_i h (b + 7) (14 * t + k) = -1) ∨ ∃ s u, rsO (gs.getD k []) r = some s ∧ L[u]? = some s ∧ h_i h (b + 7) (14 * t + k) = nI u))
def CDp (h : PH) (b : Nat) (L : List (List Nat)) (f : List Nat → Nat) : Prop := ∀ t r, L[t]? = some r → h_i h (b + 5) t = nI (f r)
theorem PLk.fr {W : Nat → Nat → Prop} {h h' : PH} {b : Nat} {gs : List (List Nat)} {m : Nat} {L : List (List Nat)} {t k : Nat} {r : List Nat} (hf : Fr W h h') (h1 : ¬ W (b + 6) (14 * t + k)) (h2 : ¬ W (b + 7) (14 * t + k)) (hp : PLk h b gs m L t k r) : PLk h' b gs m L t k r := by
  unfold PLk at hp ⊢
  rw [hf.i _ _ h1, hf.i _ _ h2]
  exact hp
theorem nd_get {L : List (List Nat)} (hn : L.Nodup) {t u : Nat} {r : List Nat} (ht : L[t]? = some r) (hu : L[u]? = some r) : t = u := by
  rcases (show t < u ∨ t = u ∨ u < t by omega) with z | z | z
  · exact absurd rfl (pw_get (R := fun a b : List Nat => a ≠ b) hn ht hu z)
  · exact z
  · exact absurd rfl (pw_get (R := fun a b : List Nat => a ≠ b) hn hu ht z)
theorem upF_d {L : List (List Nat)} {f : List Nat → Nat} {h : PH} {b t v : Nat} {r : List Nat} (hn : L.Nodup) (ht : L[t]? = some r) (hd : CDp h b L f) : CDp (w_i h (b + 5) t (nI v)) b L (upF f r v) := fun u s hu => by
  unfold upF
  by_cases z : s = r
  · subst z
    have := nd_get hn ht hu
    subst this
    rw [if_pos rfl, wi_eq]
  · rw [if_neg z, wi_ne _ _ (fun y => z (by
      have e : u = t := y.2
      rw [e, ht] at hu
      exact (Option.some.inj hu).symm))]
    exact hd u s hu
theorem ta_deepen {d : Nat} {h : PH} {Q : PQ} {b B : Nat} {gs : List (List Nat)} {m : Nat} {L : List (List Nat)} {f : List Nat → Nat} (ho : okg gs m) (hT : TaS h b) (hl3 : h_i h b 3 = nI L.length) (hl98 : L.length ≤ 98) (hn : L.Nodup) (hP : ∀ t r, L[t]? = some r → ∀ k, k < gs.length → PLk h b gs m L t k r) (hd : CDp h b L f) (hB : ∀ x, f x ≤ B) (hB2 : B < 2 ^ 29) (k : ∀ h', CDp h' b L (lkT gs m L (f, false)).1 → Fr (fun c _ => c = b + 5) h h' → Q (some (.int (if (lkT gs m L (f, false)).2 = true then 1 else 0))) h') : wpm (d + 1) 81 [.ref b, .int (nI gs.length)] h Q := by
  refine wpm_in P_Ta_deepen rfl (by decide) (by show ¬ 8 < 2; decide) (B_Ta_deepen_0 ?_)
  have h14 := ho.1
  have inner : ∀ (t : Nat) (r : List Nat), L[t]? = some r → ∀ (e j B : Nat) (s : (List Nat → Nat) × Bool) (g : PH) (v5 v6 v7 : Value), gs.length - j = e → j ≤ gs.length → (∀ x, s.1 x ≤ B) → B + 7 * e < 2 ^ 30 → Fr (fun c _ => c = b + 5) h g → CDp g b L s.1 → (∀ g' v5 v6 v7 x4, Fr (fun c _ => c = b + 5) h g' → CDp g' b L (lkK gs m r e j s).1 → wpx d P_Ta_deepen 99 [.ref b, .int (nI gs.length), .int (if (lkK gs m r e j s).2 = true then 1 else 0), .int (nI t), .int x4, v5, v6, v7] [] g' Q) → wpx d P_Ta_deepen 15 [.ref b, .int (nI gs.length), .int (if s.2 = true then 1 else 0), .int (nI t), .int (nI j), v5, v6, v7] [] g Q := by
    intro t r ht e
    have tl := (List.getElem?_eq_some_iff.mp ht).1
    have vt : vp_in (nI t) 98 := vp_in_nI (by omega) (by omega)
    induction e with
    | zero =>
      intro j B s g v5 v6 v7 he hj hb hb2 hf hc kk
      refine B_Ta_deepen_15 (fun _ => kk g _ _ _ _ hf hc) (fun z => ?_)
      rw [nI_leI (by omega) (by omega)] at z
      omega
    | succ e ih =>
      intro j B s g v5 v6 v7 he hj hb hb2 hf hc kk
      have hTg := hT.fr hf
      have va : vp_in (nI (14 * t + j)) 1372 := vp_in_nI (by omega) (by omega)
      have hp := (hP t r ht j (by omega)).fr hf (by omega) (by omega)
      -- the two ways on
      have last : ∀ (v6 : Int32), wpx d P_Ta_deepen 70 [.ref b, .int (nI gs.length), .int (if s.2 = true then 1 else 0), .int (nI t), .int (nI j), .int (nI (14 * t + j)), .int v6, v7] [.int (nI (lkV gs m r j s.1))] g Q := fun v6 => by
        have lb := lkV_b (m := m) (r := r) ho (show j < gs.length by omega) hb
        have sr := hb r
        refine B_Ta_deepen_70 hTg.1 hTg.2.2.2.2.2.1.1 hTg.2.2.2.2.2.1.2 vt (fun z => B_Ta_deepen_93 ?_) (fun z => B_Ta_deepen_83 hTg.1 hTg.2.2.2.2.2.1.1 hTg.2.2.2.2.2.1.2 vt (B_Ta_deepen_93 ?_))
        · rw [nI_clamp (by omega), hc t r ht, nI_leI (by omega) (by omega)] at z
          rw [nI_1]
          refine ih (j + 1) B s g _ _ _ (by omega) (by omega) hb (by omega) hf hc (fun g' v5 v6 v7 x4 f' c' => ?_)
          have := kk g' v5 v6 v7 x4 f'
          have e1 : lkK gs m r (e + 1) j s = lkK gs m r e (j + 1) s := by
            show lkK gs m r e (j + 1) (lkS gs m r j s) = _
            rw [lkS_n z]
          rw [e1] at this
          exact this c'
        · rw [nI_clamp (by omega), hc t r ht, nI_leI (by omega) (by omega)] at z
          rw [nI_clamp (by omega), nI_1]
          have e0 : lkS gs m r j s = (upF s.1 r (lkV gs m r j s.1), true) := if_pos (by omega)
          have e1 : lkK gs m r (e + 1) j s = lkK gs m r e (j + 1) (upF s.1 r (lkV gs m r j s.1), true) := by
            show lkK gs m r e (j + 1) (lkS gs m r j s) = _
            rw [e0]
          rw [e1] at kk
          have b1 := lkS_b ho (m := m) (r := r) (k := j) (by omega) hb
          rw [e0] at b1
          exact ih (j + 1) (B + 7) (upF s.1 r (lkV gs m r j s.1), true) _ _ _ _ (by omega) (by omega) b1 (by omega) (hf.tr (Fr.wi g _ rfl)) (upF_d hn ht hc) kk
      refine B_Ta_deepen_15 (fun z => ?_) (fun _ => B_Ta_deepen_21 hTg.1 hTg.2.2.2.2.2.2.2.1.1 hTg.2.2.2.2.2.2.2.1.2 (by rw [e14']; exact va) (fun z => ?_) (fun z => ?_))
      · rw [nI_leI (by omega) (by omega)] at z
        omega
      · rw [e14', nI_clamp (by omega)] at z ⊢
        by_cases q : inm m j
        · obtain ⟨p1, p2 | ⟨x, u, p2, p3, p4⟩⟩ := hp.2 q
          · exact absurd p2.2 z
          · have ul := (List.getElem?_eq_some_iff.mp p3).1
            refine B_Ta_deepen_55 hTg.1 hTg.2.2.2.2.2.2.1.1 hTg.2.2.2.2.2.2.1.2 va hTg.2.2.2.2.2.1.1 hTg.2.2.2.2.2.1.2 (by rw [p4]; exact vp_in_nI (by omega) (by omega)) ?_
            rw [nI_clamp (by omega), p1, p4, nI_clamp (by omega), hc u x p3, nI_add]
            have ev : lkV gs m r j s.1 = cpl (gs.getD j []) r + s.1 x := by
              unfold lkV
              rw [if_pos q, p2]
              rfl
            rw [← ev]
            exact last _
        · exact absurd (hp.1 q).2 z
      · rw [e14', nI_clamp (by omega)] at z ⊢
        refine B_Ta_deepen_45 hTg.1 hTg.2.2.2.2.2.2.1.1 hTg.2.2.2.2.2.2.1.2 va ?_
        rw [nI_clamp (by omega)]
        by_cases q : inm m j
        · obtain ⟨p1, p2 | ⟨x, u, p2, p3, p4⟩⟩ := hp.2 q
          · rw [p1]
            have ev : lkV gs m r j s.1 = cpl (gs.getD j []) r := by
              unfold lkV
              rw [if_pos q, p2.1]
              rfl
            have := last (h_i g (b + 7) (14 * t + j))
            rw [ev] at this
            exact this
          · rw [p4] at z
            exact absurd z (nI_neg1 (by have := (List.getElem?_eq_some_iff.mp p3).1; omega))
        · rw [(hp.1 q).1]
          have ev : lkV gs m r j s.1 = 0 := if_neg q
          have := last (h_i g (b + 7) (14 * t + j))
          rw [ev] at this
          exact this
  have outer : ∀ (R P : List (List Nat)) (B : Nat) (s : (List Nat → Nat) × Bool) (g : PH) (v4 v5 v6 v7 : Value), P ++ R = L → (∀ x, s.1 x ≤ B) → B + 98 * R.length < 2 ^ 30 → Fr (fun c _ => c = b + 5) h g → CDp g b L s.1 → lkT gs m R s = lkT gs m L (f, false) → wpx d P_Ta_deepen 4 [.ref b, .int (nI gs.length), .int (if s.2 = true then 1 else 0), .int (nI P.length), v4, v5, v6, v7] [] g Q := by
    intro R
    induction R with
    | nil =>
      intro P B s g v4 v5 v6 v7 hPR hb hb2 hf hc he
      rw [List.append_nil] at hPR
      have he' : s = lkT gs m L (f, false) := he
      refine B_Ta_deepen_4 (hT.fr hf).1 (fun _ => B_Ta_deepen_105 (b01 _) ?_) (fun z => ?_)
      · rw [he']
        rw [he'] at hc
        exact k g hc hf
      · rw [hf.i _ _ (by omega), hl3, hPR, nI_leI (by omega) (by omega)] at z
        omega
    | cons r R ih =>
      intro P B s g v4 v5 v6 v7 hPR hb hb2 hf hc he
      have hl := congrArg List.length hPR
      rw [List.length_append, List.length_cons] at hl
      rw [List.length_cons] at hb2
      have gr : L[P.length]? = some r := by rw [← hPR]; exact mdlG
      refine B_Ta_deepen_4 (hT.fr hf).1 (fun z => ?_) (fun _ => B_Ta_deepen_12 (inner P.length r gr gs.length 0 B s g _ _ _ rfl (Nat.zero_le _) hb (by omega) hf hc (fun g' v5 v6 v7 x4 f' c' => B_Ta_deepen_99 ?_)))
      · rw [hf.i _ _ (by omega), hl3, nI_leI (by omega) (by omega)] at z
        omega
      · rw [nI_1]
        have b1 := lkK_b ho (m := m) (r := r) gs.length 0 B s (by omega) hb
        have := ih (P ++ [r]) (B + 98) (lkK gs m r gs.length 0 s) g' (.int x4) v5 v6 v7 (by rw [List.append_assoc]; exact hPR) (fun x => Nat.le_trans (b1 x) (by omega)) (by omega) f' c' he
        rw [List.length_append] at this
        exact this
  exact outer L [] B (f, false) h _ _ _ _ rfl hB (by omega) (Fr.rf _ _) hd rfl
