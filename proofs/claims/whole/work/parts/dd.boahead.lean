/-! borders on the class's side: one letter more before a row -/
def pasP (gs : List (List Nat)) (m : Nat) (r x : List Nat) : Prop := ∃ y, (y = [] ∨ isI gs m y) ∧ Brn gs m r x y
def insP (gs : List (List Nat)) (m : Nat) (r x : List Nat) : Prop := ∃ y, y ≠ [] ∧ isI gs m y ∧ Brn gs m r x y
theorem pasP_s {gs : List (List Nat)} {m s : Nat} {r x : List Nat} : pasP gs m (s :: r) x ↔ (isI gs m (x ++ [s]) ∧ pasP gs m r (x ++ [s])) ∨ (isG gs m (x ++ [s]) ∧ pasP gs m r []) := by
  constructor
  · rintro ⟨y, hy, (⟨a, b⟩ | ⟨a, b⟩)⟩
    · exact Or.inl ⟨a, y, hy, b⟩
    · exact Or.inr ⟨a, y, hy, b⟩
  · rintro (⟨a, y, hy, b⟩ | ⟨a, y, hy, b⟩)
    · exact ⟨y, hy, Or.inl ⟨a, b⟩⟩
    · exact ⟨y, hy, Or.inr ⟨a, b⟩⟩
theorem insP_s {gs : List (List Nat)} {m s : Nat} {r x : List Nat} : insP gs m (s :: r) x ↔ (isI gs m (x ++ [s]) ∧ insP gs m r (x ++ [s])) ∨ (isG gs m (x ++ [s]) ∧ insP gs m r []) := by
  constructor
  · rintro ⟨y, hy, hi, (⟨a, b⟩ | ⟨a, b⟩)⟩
    · exact Or.inl ⟨a, y, hy, hi, b⟩
    · exact Or.inr ⟨a, y, hy, hi, b⟩
  · rintro (⟨a, y, hy, hi, b⟩ | ⟨a, y, hy, hi, b⟩)
    · exact ⟨y, hy, hi, Or.inl ⟨a, b⟩⟩
    · exact ⟨y, hy, hi, Or.inr ⟨a, b⟩⟩
/-- a property of beginnings, of nodes -/
def ofN (N : List (List Nat)) (P : List Nat → Prop) (u : Nat) : Prop := ∃ x, N[u]? = some x ∧ P x
def SJ (N : List (List Nat)) (s j : Nat) (C : Nat → Prop) (u : Nat) : Prop := ∃ w, w ∈ (sgB N s N.length).take j ∧ N.getD w [] = N.getD u [] ++ [s] ∧ u < N.length ∧ C w
theorem SJ_succ {N : List (List Nat)} {s j w p : Nat} {y : List Nat} {C : Nat → Prop} (hN : okN N) (hj : (sgB N s N.length)[j]? = some w) (hw : N[w]? = some (y ++ [s])) (hp : N[p]? = some y) (u : Nat) : SJ N s (j + 1) C u ↔ SJ N s j C u ∨ (u = p ∧ C w) := by
  unfold SJ
  rw [List.take_add_one, hj]
  constructor
  · rintro ⟨w', hw', e, hu, hc⟩
    rcases List.mem_append.mp hw' with z | z
    · exact Or.inl ⟨w', z, e, hu, hc⟩
    · have ew : w' = w := List.mem_singleton.mp z
      rw [ew] at e hc
      rw [gD hw] at e
      have e2 := (List.append_inj' e rfl).1
      have gu : N[u]? = some y := by rw [e2]; exact gS hu
      exact Or.inr ⟨(nix_at hN.1 gu).symm.trans (nix_at hN.1 hp), hc⟩
  · rintro (⟨w', hw', e, hu, hc⟩ | ⟨e, hc⟩)
    · exact ⟨w', List.mem_append_left _ hw', e, hu, hc⟩
    · refine ⟨w, List.mem_append_right _ (List.mem_singleton.mpr rfl), ?_, ?_, hc⟩
      · rw [gD hw, e, gD hp]
      · rw [e]
        exact (List.getElem?_eq_some_iff.mp hp).1
theorem SJ_none {N : List (List Nat)} {s j w p : Nat} {y : List Nat} {C : Nat → Prop} (hN : okN N) (hj : (sgB N s N.length)[j]? = some w) (hw : N[w]? = some (y ++ [s])) (hp : N[p]? = some y) (hc : ¬ C w) (u : Nat) : SJ N s (j + 1) C u ↔ SJ N s j C u := by
  rw [SJ_succ hN hj hw hp]
  exact ⟨fun z => z.elim id (fun q => absurd q.2 hc), Or.inl⟩
/-- a node's last letter told by the rows behind it -/
def cAh (gs N : List (List Nat)) (m : Nat) (P : List Nat → Prop) (w : Nat) : Prop := (isI gs m (N.getD w []) ∧ ofN N P w) ∨ (isG gs m (N.getD w []) ∧ ofN N P 0)
theorem SJ_all {gs N : List (List Nat)} {m s u : Nat} {P P' : List Nat → Prop} (hN : okN N) (hm : ∀ x, x ∈ N ↔ x = [] ∨ isI gs m x ∨ isG gs m x) (hP : ∀ x, P' x ↔ (isI gs m (x ++ [s]) ∧ P (x ++ [s])) ∨ (isG gs m (x ++ [s]) ∧ P [])) : SJ N s (sgB N s N.length).length (cAh gs N m P) u ↔ ofN N P' u := by
  unfold SJ
  rw [List.take_length]
  constructor
  · rintro ⟨w, hw, e, hu, hc⟩
    have hw2 := (sgB_mem.mp hw).2.1
    have gw : N[w]? = some (N.getD w []) := gS hw2
    have gu : N[u]? = some (N.getD u []) := gS hu
    refine ⟨N.getD u [], gu, (hP _).mpr ?_⟩
    unfold cAh at hc
    rw [e] at hc gw
    rcases hc with ⟨a, x, hx, hp⟩ | ⟨a, x, hx, hp⟩
    · rw [gw] at hx
      rw [← Option.some.inj hx] at hp
      exact Or.inl ⟨a, hp⟩
    · rw [hN.2.1] at hx
      rw [← Option.some.inj hx] at hp
      exact Or.inr ⟨a, hp⟩
  · rintro ⟨x, hx, hp⟩
    have hin : x ++ [s] ∈ N := by
      rcases (hP x).mp hp with z | z
      · exact (hm _).mpr (Or.inr (Or.inl z.1))
      · exact (hm _).mpr (Or.inr (Or.inr z.1))
    have gw := nix_get hin
    have w0 : nix N (x ++ [s]) ≠ 0 := fun z => by
      rw [z, hN.2.1] at gw
      exact absurd (Option.some.inj gw).symm ne_snoc
    refine ⟨nix N (x ++ [s]), sgB_mem.mpr ⟨by omega, nix_lt hin, lsg_at gw⟩, by rw [gD gw, gD hx], (List.getElem?_eq_some_iff.mp hx).1, ?_⟩
    unfold cAh
    rw [gD gw]
    rcases (hP x).mp hp with ⟨a, b⟩ | ⟨a, b⟩
    · exact Or.inl ⟨a, _, gw, b⟩
    · exact Or.inr ⟨a, [], hN.2.1, b⟩
theorem sgF_pre {N : List (List Nat)} {s : Nat} : ∀ t, s ≤ t → ∃ z, sgF N t = sgF N s ++ z
  | 0, h => ⟨[], by rw [show s = 0 by omega, List.append_nil]⟩
  | t + 1, h => by
    by_cases y : s = t + 1
    · exact ⟨[], by rw [y, List.append_nil]⟩
    · obtain ⟨z, hz⟩ := sgF_pre (N := N) (s := s) t (by omega)
      exact ⟨z ++ sgB N t N.length, by rw [← List.append_assoc, ← hz]; rfl⟩
theorem bo_putAhead {d n s b tb la cap : Nat} {h : PH} {Q : PQ} {N gs : List (List Nat)} {m : Nat} {r : List Nat} (hB : BoS h b la cap) (hT : TrS h tb) (hC : CTr h tb N gs m) (hd : tb + 9 < b ∨ b + 4 < tb) (hn : n < 4) (s0 : 0 < s) (s1 : s < 28) (hP : BSt h (b + 1) n (ofN N (pasP gs m r))) (hE : BSt h (b + 2) n (ofN N (insP gs m r))) (k : ∀ h', BSt h' (b + 1) (n + 1) (ofN N (pasP gs m (s :: r))) → BSt h' (b + 2) (n + 1) (ofN N (insP gs m (s :: r))) → Fr (Wb2 b (n + 1)) h h' → Q none h') : wpm (d + 2) 7 [.ref b, .ref tb, .int (nI n), .int (nI s)] h Q := by
  refine wpm_in P_Bo_putAhead rfl (by decide) (by show ¬ 6 < 4; decide) ?_
  have hN : okN N := hC.1.1
  have n0 : 0 < N.length := (List.getElem?_eq_some_iff.mp hN.2.1).1
  have n99 := hN.2.2.2.1
  have en : nI n + (1 : Int32) = nI (n + 1) := by rw [show (1 : Int32) = nI 1 from rfl, nI_add]
  refine B_Bo_putAhead_0 hB.1 ?_
  rw [en]
  refine bo_clear hB (by omega) (fun g1 c1 c2 f1 => ?_)
  have fl : ∀ t, (sgF N t).length < N.length := fun t => by
    have h1 := sgFB_len (N := N) (s := t) (w := 0) n0 (Nat.zero_le _)
    rw [List.length_append] at h1
    omega
  have lF := fl s
  have lF1 := fl (s + 1)
  have lsum : (sgF N (s + 1)).length = (sgF N s).length + (sgB N s N.length).length := List.length_append
  have trT : ∀ {g : PH}, Fr (Wb2 b (n + 1)) h g → TrS g tb := fun hf => hT.fr hf
  have ctT : ∀ {g : PH}, Fr (Wb2 b (n + 1)) h g → CTr g tb N gs m := fun hf => hC.fr hf (fun x k z => by unfold Wb2 at z; omega)
  have hC9 := fun {g : PH} (hf : Fr (Wb2 b (n + 1)) h g) => (ctT hf).2.2.2.1
  have loop : ∀ (e j : Nat) (g : PH) (v5 : Value), (sgB N s N.length).length - j = e → j ≤ (sgB N s N.length).length → BSt g (b + 1) (n + 1) (SJ N s j (cAh gs N m (pasP gs m r))) → BSt g (b + 2) (n + 1) (SJ N s j (cAh gs N m (insP gs m r))) → Fr (Wb2 b (n + 1)) h g → wpx (d + 1) P_Bo_putAhead 15 [.ref b, .ref tb, .int (nI n), .int (nI s), .int (nI ((sgF N s).length + j)), v5] [] g Q := by
    intro e
    induction e with
    | zero =>
      intro j g v5 he hj hp hq hf
      have ej : j = (sgB N s N.length).length := by omega
      subst ej
      have hTg := trT hf
      have hT9 := hTg.2.2.2.2.2.2.2.2.2.1
      refine B_Bo_putAhead_15 hTg.1 hT9.1 hT9.2 (by rw [show (1 : Int32) = nI 1 from rfl, nI_add]; exact vp_in_nI (by omega) (by omega)) (fun _ => B_Bo_putAhead_167 (k g (hp.cg (fun u _ => SJ_all hN hC.2.1 (fun _ => pasP_s))) (hq.cg (fun u _ => SJ_all hN hC.2.1 (fun _ => insP_s))) hf)) (fun z => ?_)
      rw [show (1 : Int32) = nI 1 from rfl, nI_add, nI_clamp (by omega), hC9 hf (s + 1) (by omega), nI_leI (by omega) (by omega)] at z
      omega
    | succ e ih =>
      intro j g v5 he hj hp hq hf
      have hTg := trT hf
      obtain ⟨t0, t1, t2, t3, t4, t5, t6, t7, t8, t9, t10, t11⟩ := hTg
      have hCg := ctT hf
      have hBg := hB.fr hf
      have gj : (sgB N s N.length)[j]? = some ((sgB N s N.length)[j]'(by omega)) := List.getElem?_eq_getElem (by omega)
      generalize (sgB N s N.length)[j]'(by omega) = w at gj
      obtain ⟨w0, wl, ws⟩ := sgB_mem.mp (List.mem_of_getElem? gj)
      have gw : N[w]? = some (N.getD w []) := gS wl
      have wne : N.getD w [] ≠ [] := fun z => by
        rw [z] at gw
        have := (nix_at hN.1 gw).symm.trans (nix_at hN.1 hN.2.1)
        omega
      obtain ⟨y, ey⟩ : ∃ y, N.getD w [] = y ++ [s] := by
        rcases List.eq_nil_or_concat (N.getD w []) with z | ⟨y, c, z⟩
        · exact absurd z wne
        · rw [List.concat_eq_append] at z
          refine ⟨y, ?_⟩
          rw [z] at gw
          rw [lsg_at gw] at ws
          rw [z, ws]
      rw [ey] at gw
      obtain ⟨p, _, gp⟩ := hN.2.2.2.2 w y s gw
      have pl := (List.getElem?_eq_some_iff.mp gp).1
      obtain ⟨_, cW, cI, cpar, _⟩ := hCg.1.2.2.2.1 w _ gw
      have epar : h_i g (tb + 6) w = nI p := by rw [(cpar y s rfl).1, nd_at hN.1 gp]
      have esg : h_i g (tb + 8) ((sgF N s).length + j) = nI w := by
        refine hCg.2.2.2.2 _ _ ?_
        obtain ⟨z, hz⟩ := sgF_pre (N := N) (s := s + 1) 28 (by omega)
        have e1 : sgF N (s + 1) = sgF N s ++ sgB N s N.length := rfl
        rw [hz, e1, List.append_assoc, List.getElem?_append_right (by omega), Nat.add_sub_cancel_left, List.getElem?_append_left (by omega)]
        exact gj
      have vw : ∀ {q : Nat}, 99 ≤ q → q < 2 ^ 31 → vp_in (nI w) q := fun h1 h2 => vp_in_nI (by omega) h2
      have cw : (nI w).toNatClampNeg = w := nI_clamp (by omega)
      have cj : (nI ((sgF N s).length + j)).toNatClampNeg = (sgF N s).length + j := nI_clamp (by omega)
      -- the second half: ends inside
      have half2 : ∀ (g2 : PH), BSt g2 (b + 1) (n + 1) (SJ N s (j + 1) (cAh gs N m (pasP gs m r))) → BSt g2 (b + 2) (n + 1) (SJ N s j (cAh gs N m (insP gs m r))) → Fr (Wb2 b (n + 1)) h g2 → wpx (d + 1) P_Bo_putAhead 99 [.ref b, .ref tb, .int (nI n), .int (nI s), .int (nI ((sgF N s).length + j)), .int (nI w)] [] g2 Q := by
        intro g2 hp2 hq2 hf2
        obtain ⟨t0, t1, t2, t3, t4, t5, t6, t7, t8, t9, t10, t11⟩ := trT hf2
        have hB2 := hB.fr hf2
        obtain ⟨_, cW, cI, cpar, _⟩ := (ctT hf2).1.2.2.2.1 w _ gw
        have epar : h_i g2 (tb + 6) w = nI p := by rw [(cpar y s rfl).1, nd_at hN.1 gp]
        have hE2 : BSt g2 (b + 2) n (ofN N (insP gs m r)) := hE.same (fun i hi => hf2.l _ _ (fun z => by unfold Wb2 at z; omega))
        have nxt : ∀ (g3 : PH), BSt g3 (b + 1) (n + 1) (SJ N s (j + 1) (cAh gs N m (pasP gs m r))) → BSt g3 (b + 2) (n + 1) (SJ N s (j + 1) (cAh gs N m (insP gs m r))) → Fr (Wb2 b (n + 1)) h g3 → wpx (d + 1) P_Bo_putAhead 161 [.ref b, .ref tb, .int (nI n), .int (nI s), .int (nI ((sgF N s).length + j)), .int (nI w)] [] g3 Q := by
          intro g3 hp3 hq3 hf3
          refine B_Bo_putAhead_161 ?_
          rw [nI_1]
          exact ih (j + 1) g3 _ (by omega) (by omega) hp3 hq3 hf3
        have yes : cAh gs N m (insP gs m r) w → wpx (d + 1) P_Bo_putAhead 144 [.ref b, .ref tb, .int (nI n), .int (nI s), .int (nI ((sgF N s).length + j)), .int (nI w)] [] g2 Q := by
          intro hc
          refine B_Bo_putAhead_144 hB2.1 hB2.2.2.1.1 t0 t6.1 t6.2 (vw (by omega) (by omega)) ?_
          rw [en, cw, epar]
          refine bo_put hB2.2.2.1.2 hq2 (by omega) (by omega) (fun g3 hq3 f3 => nxt g3 (hp2.same (fun i hi => f3.l _ _ (by omega))) (hq3.cg (fun u _ => ?_)) (hf2.tr (f3.up (fun x k z => ⟨Or.inr z.1, z.2⟩))))
          rw [SJ_succ hN gj gw gp]
          exact ⟨fun z => z.imp id (fun q => ⟨q, hc⟩), fun z => z.imp id (fun q => q.1)⟩
        have no : ¬ cAh gs N m (insP gs m r) w → wpx (d + 1) P_Bo_putAhead 161 [.ref b, .ref tb, .int (nI n), .int (nI s), .int (nI ((sgF N s).length + j)), .int (nI w)] [] g2 Q := fun hc => nxt g2 hp2 (hq2.cg (fun u _ => (SJ_none hN gj gw gp hc u).symm)) hf2
        have at122 : ¬ (isI gs m (y ++ [s]) ∧ ofN N (insP gs m r) w) → wpx (d + 1) P_Bo_putAhead 122 [.ref b, .ref tb, .int (nI n), .int (nI s), .int (nI ((sgF N s).length + j)), .int (nI w)] [] g2 Q := by
          intro h1
          refine B_Bo_putAhead_122 t0 t4.1 t4.2 (vw (by omega) (by omega)) (fun z => no (fun hc => ?_)) (fun z => B_Bo_putAhead_132 hB2.1 hB2.2.2.1.1 ?_) <;> rw [cw] at z
          · unfold cAh at hc
            rw [ey] at hc
            rcases hc with q | q
            · exact h1 q
            · exact cW.t z q.1
          · refine bo_has (u := 0) hB2.2.2.1.2 hE2 (by omega) (by decide) (fun hs => B_Bo_putAhead_141 (fun q => absurd q (by decide)) (fun _ => yes ?_)) (fun hs => B_Bo_putAhead_141 (fun _ => no (fun hc => ?_)) (fun q => absurd rfl q))
            · unfold cAh
              rw [ey]
              exact Or.inr ⟨cW.f z, hs⟩
            · unfold cAh at hc
              rw [ey] at hc
              rcases hc with q | q
              · exact h1 q
              · exact hs q.2
        refine B_Bo_putAhead_99 t0 t5.1 t5.2 (vw (by omega) (by omega)) (fun z => at122 (fun q => ?_)) (fun z => B_Bo_putAhead_109 hB2.1 hB2.2.2.1.1 ?_) <;> rw [cw] at z
        · exact cI.t z q.1
        · refine bo_has (u := w) hB2.2.2.1.2 hE2 (by omega) (by omega) (fun hs => B_Bo_putAhead_119 (fun _ => yes ?_) (fun q => absurd q (by decide))) (fun hs => B_Bo_putAhead_119 (fun q => absurd rfl q) (fun _ => at122 (fun q => hs q.2)))
          unfold cAh
          rw [ey]
          exact Or.inl ⟨cI.f z, hs⟩
      have hP2 : BSt g (b + 1) n (ofN N (pasP gs m r)) := hP.same (fun i hi => hf.l _ _ (fun z => by unfold Wb2 at z; omega))
      have yes : cAh gs N m (pasP gs m r) w → wpx (d + 1) P_Bo_putAhead 82 [.ref b, .ref tb, .int (nI n), .int (nI s), .int (nI ((sgF N s).length + j)), .int (nI w)] [] g Q := by
        intro hc
        refine B_Bo_putAhead_82 hBg.1 hBg.2.1.1 t0 t6.1 t6.2 (vw (by omega) (by omega)) ?_
        rw [en, cw, epar]
        refine bo_put hBg.2.1.2 hp (by omega) (by omega) (fun g3 hp3 f3 => half2 g3 (hp3.cg (fun u _ => ?_)) (hq.same (fun i hi => f3.l _ _ (by omega))) (hf.tr (f3.up (fun x k z => ⟨Or.inl z.1, z.2⟩))))
        rw [SJ_succ hN gj gw gp]
        exact ⟨fun z => z.imp id (fun q => ⟨q, hc⟩), fun z => z.imp id (fun q => q.1)⟩
      have no : ¬ cAh gs N m (pasP gs m r) w → wpx (d + 1) P_Bo_putAhead 99 [.ref b, .ref tb, .int (nI n), .int (nI s), .int (nI ((sgF N s).length + j)), .int (nI w)] [] g Q := fun hc => half2 g (hp.cg (fun u _ => (SJ_none hN gj gw gp hc u).symm)) hq hf
      have at60 : ¬ (isI gs m (y ++ [s]) ∧ ofN N (pasP gs m r) w) → wpx (d + 1) P_Bo_putAhead 60 [.ref b, .ref tb, .int (nI n), .int (nI s), .int (nI ((sgF N s).length + j)), .int (nI w)] [] g Q := by
        intro h1
        refine B_Bo_putAhead_60 t0 t4.1 t4.2 (vw (by omega) (by omega)) (fun z => no (fun hc => ?_)) (fun z => B_Bo_putAhead_70 hBg.1 hBg.2.1.1 ?_) <;> rw [cw] at z
        · unfold cAh at hc
          rw [ey] at hc
          rcases hc with q | q
          · exact h1 q
          · exact cW.t z q.1
        · refine bo_has (u := 0) hBg.2.1.2 hP2 (by omega) (by decide) (fun hs => B_Bo_putAhead_79 (fun q => absurd q (by decide)) (fun _ => yes ?_)) (fun hs => B_Bo_putAhead_79 (fun _ => no (fun hc => ?_)) (fun q => absurd rfl q))
          · unfold cAh
            rw [ey]
            exact Or.inr ⟨cW.f z, hs⟩
          · unfold cAh at hc
            rw [ey] at hc
            rcases hc with q | q
            · exact h1 q
            · exact hs q.2
      refine B_Bo_putAhead_15 t0 t9.1 t9.2 (by rw [show (1 : Int32) = nI 1 from rfl, nI_add]; exact vp_in_nI (by omega) (by omega)) (fun z => ?_) (fun _ => B_Bo_putAhead_28 t0 t8.1 t8.2 (vp_in_nI (by omega) (by omega)) t5.1 t5.2 (by rw [cj, esg]; exact vw (by omega) (by omega)) (fun z => ?_) (fun z => ?_))
      · rw [show (1 : Int32) = nI 1 from rfl, nI_add, nI_clamp (by omega), hC9 hf (s + 1) (by omega), nI_leI (by omega) (by omega)] at z
        omega
      · rw [cj, esg, cw] at z
        rw [cj, esg]
        exact at60 (fun q => cI.t z q.1)
      · rw [cj, esg, cw] at z
        rw [cj, esg]
        refine B_Bo_putAhead_47 hBg.1 hBg.2.1.1 (bo_has (u := w) hBg.2.1.2 hP2 (by omega) (by omega) (fun hs => B_Bo_putAhead_57 (fun _ => yes ?_) (fun q => absurd q (by decide))) (fun hs => B_Bo_putAhead_57 (fun q => absurd rfl q) (fun _ => at60 (fun q => hs q.2))))
        unfold cAh
        rw [ey]
        exact Or.inl ⟨cI.f z, hs⟩
  have hT1 := trT f1
  have hT9 := hT1.2.2.2.2.2.2.2.2.2.1
  refine B_Bo_putAhead_7 hT1.1 hT9.1 hT9.2 (vp_in_nI (by omega) (by omega)) ?_
  rw [nI_clamp (show s < 2 ^ 31 by omega), hC9 f1 s (by omega)]
  have nil : ∀ (C : Nat → Prop) u, False ↔ SJ N s 0 C u := fun C u => ⟨fun z => z.elim, fun ⟨w, hw, _⟩ => by cases hw⟩
  exact loop _ 0 g1 _ rfl (Nat.zero_le _) (c1.cg (fun u _ => nil _ u)) (c2.cg (fun u _ => nil _ u)) f1
