/-! borders on the class's side: all of it made anew -/
def Wbd (b la x k : Nat) : Prop := (x = b ∧ (k = 3 ∨ k = 5)) ∨ x = b + 1 ∨ x = b + 2 ∨ x = b + 4 ∨ x = la
theorem pasP_nil {gs : List (List Nat)} {m : Nat} {x : List Nat} : pasP gs m [] x ↔ x = [] ∨ isI gs m x := by
  constructor
  · rintro ⟨y, hy, hb⟩
    have hb : x = y := hb
    rw [hb]
    exact hy
  · intro h
    exact ⟨x, h, rfl⟩
theorem insP_nil {gs : List (List Nat)} {m : Nat} {x : List Nat} : insP gs m [] x ↔ x ≠ [] ∧ isI gs m x := by
  constructor
  · rintro ⟨y, hy, hi, hb⟩
    have hb : x = y := hb
    rw [hb]
    exact ⟨hy, hi⟩
  · intro h
    exact ⟨x, h.1, h.2, rfl⟩
theorem bl_len {gs : List (List Nat)} {m : Nat} (ho : okg gs m) : (blR gs m 4 []).length ≤ 60000 := by
  rw [(bl_perm (gs := gs) (m := m)).length_eq]
  exact catB_len ho
theorem bo_build {d b tb la cap : Nat} {h : PH} {Q : PQ} {N gs : List (List Nat)} {m : Nat} {x2 : Int32} (ho : okg gs m) (hB : BoS h b la cap) (hc : capL cap) (hT : TrS h tb) (hC : CTr h tb N gs m) (hd : tb + 9 < b ∨ b + 4 < tb) (hla : la < tb ∨ tb + 9 < la) (k : ∀ h' la' cap', CBo h' b la' cap' gs m → capL cap' → (la' = la ∨ h_ct h ≤ la') → h_i h' b 5 = x2 → AcB h h' cap cap' → Ge b (Wbd b la) h h' → Q none h') : wpm (d + 8) 1 [.ref b, .ref tb, .int x2] h Q := by
  refine wpm_in P_Bo_build rfl (by decide) (by show ¬ 4 < 3; decide) ?_
  have hN : okN N := hC.1.1
  have n99 := hN.2.2.2.1
  have b63 := hB.2.2.2.2.2.1
  have bct := hB.2.2.2.2.2.2.1
  have lct := hB.2.2.2.2.2.2.2.1
  have lab := hB.2.2.2.2.2.2.2.2
  have tct := hT.2.2.2.2.2.2.2.2.2.2.2
  refine B_Bo_build_0 hB.1 ?_
  have f0 : Fr (Wbd b la) h (w_i (w_i h b 5 x2) b 3 0) := (Fr.wi _ _ (Or.inl ⟨rfl, Or.inr rfl⟩)).tr (Fr.wi _ _ (Or.inl ⟨rfl, Or.inl rfl⟩))
  have a5 : h_i (w_i (w_i h b 5 x2) b 3 0) b 5 = x2 := by rw [wi_ne _ _ (by omega), wi_eq]
  have a3 : h_i (w_i (w_i h b 5 x2) b 3 0) b 3 = 0 := wi_eq ..
  generalize w_i (w_i h b 5 x2) b 3 0 = g0 at f0 a5 a3 ⊢
  have B0 := hB.fr f0
  refine bo_clear (n := 0) B0 (by decide) (fun g1 c1 c2 f1 => B_Bo_build_15 ?_)
  have F1 : Fr (Wbd b la) h g1 := f0.tr (f1.up (fun x k z => by unfold Wb2 at z; unfold Wbd; omega))
  have a51 : h_i g1 b 5 = x2 := (f1.i _ _ (fun z => by unfold Wb2 at z; omega)).trans a5
  have a31 : h_i g1 b 3 = 0 := (f1.i _ _ (fun z => by unfold Wb2 at z; omega)).trans a3
  have wtr : ∀ x k : Nat, Wbd b la x k → ¬ (tb ≤ x ∧ x ≤ tb + 9) := fun x k z => by unfold Wbd at z; omega
  have wtr2 : ∀ x k : Nat, Wbd b la x k → x < tb ∨ tb + 9 < x := fun x k z => by unfold Wbd at z; omega
  have emp : ∀ (P : List Nat → Prop) u, False ↔ (u < 0 ∧ ofN N P u) := fun P u => ⟨fun z => z.elim, fun z => absurd z.1 (Nat.not_lt_zero _)⟩
  have fin : ∀ (g : PH) (v3 : Value), BSt g (b + 1) 0 (ofN N (pasP gs m [])) → BSt g (b + 2) 0 (ofN N (insP gs m [])) → h_i g b 5 = x2 → h_i g b 3 = 0 → Fr (Wbd b la) h g → ∀ x3, wpx (d + 7) P_Bo_build 75 [.ref b, .ref tb, .int x2, .int x3] [] g Q := by
    intro g v3 hp hq h5 h3 hf x3
    have Bg := hB.fr hf
    have Lg : BL g b la cap [] := ⟨h3, fun i v hv => (by cases hv), Nat.zero_le _⟩
    have hl : wpm (d + 7) 6 [.ref b, .ref tb, .int (nI 0), .int (nI (pkN []))] g (fun r h' => wpx (d + 7) P_Bo_build 82 [.ref b, .ref tb, .int x2, .int x3] (r.toList ++ []) h' Q) := by
      refine bo_lengthen hd 4 0 (d + 7) [] g _ la cap [] (by omega) rfl (by omega) (fun x hx => by cases hx) Bg Lg hc (hT.fr hf) (hC.fr hf wtr2) hla hp hq (by have := bl_len (m := m) ho; show 0 + _ < 65536; omega) (fun g2 la2 cap2 B2 L2 c2 hl2 A2 f2 => ?_)
      have L2 : BL g2 b la2 cap2 ((blR gs m 4 []).map cdB) := L2
      have c2l := c2.le
      refine B_Bo_build_82 B2.1 (bo_sort B2 L2 (by omega) (fun v hv => ?_) (fun g3 l3 L3 p3 s3 f3 => ?_))
      · obtain ⟨r, hr, e⟩ := List.mem_map.mp hv
        have hr' := (bl_perm (gs := gs) (m := m)).mem_iff.mp hr
        obtain ⟨r1, r2, r3⟩ := (catB_mem 4).mp hr'
        rw [← e]
        exact (cdB_len r3.1 r2).2.2
      · rw [bl_sorted p3 s3] at L3
        have B3 := B2.fr f3
        have lab2 := B2.2.2.2.2.2.2.2.2
        refine B_Bo_build_86 B3.1 (bo_findStarts ho B3 L3 (by omega) (fun g4 S4 f4 => B_Bo_build_90 ?_))
        have L4 : BL g4 b la2 cap2 ((catB gs m 4).map cdB) := ⟨(f4.i _ _ (by omega)).trans L3.1, fun i v hv => (f4.i _ _ (by omega)).trans (L3.2.1 i v hv), L3.2.2⟩
        have ctg : h_ct g = h_ct h := hf.2.2.1
        have ct2 := f2.2.1
        have ct3 : h_ct g3 = h_ct g2 := f3.2.2.1
        refine k g4 la2 cap2 ⟨B3.fr f4, L4, S4, by omega⟩ c2 (by omega) ?_ ((hf.acb cap).tr (A2.tr ((f3.acb cap2).tr (f4.acb cap2)))) ?_
        · rw [f4.i _ _ (by omega), f3.i _ _ (by omega), f2.i (by omega) (fun z => by unfold Wlen at z; omega)]
          exact h5
        · refine ((hf.ge.tr f2 (fun x k' hx z => ?_)).tr f3.ge (fun x k' hx z => ?_)).tr f4.ge (fun x k' hx z => ?_)
          · unfold Wlen at z
            unfold Wbd
            omega
          · unfold Wbd
            omega
          · unfold Wbd
            omega
    exact B_Bo_build_75 Bg.1 hl
  have loop : ∀ (e u : Nat) (g : PH), N.length - u = e → u ≤ N.length → BSt g (b + 1) 0 (fun w => w < u ∧ ofN N (pasP gs m []) w) → BSt g (b + 2) 0 (fun w => w < u ∧ ofN N (insP gs m []) w) → h_i g b 5 = x2 → h_i g b 3 = 0 → Fr (Wbd b la) h g → wpx (d + 7) P_Bo_build 17 [.ref b, .ref tb, .int x2, .int (nI u)] [] g Q := by
    intro e
    induction e with
    | zero =>
      intro u g he hu hp hq h5 h3 hf
      have eu : u = N.length := by omega
      subst eu
      have hTg := hT.fr hf
      have hCg := hC.fr hf wtr2
      have all : ∀ (P : List Nat → Prop) w, (w < N.length ∧ ofN N P w) ↔ ofN N P w := fun P w => ⟨fun z => z.2, fun z => ⟨by obtain ⟨x, hx, _⟩ := z; exact (List.getElem?_eq_some_iff.mp hx).1, z⟩⟩
      refine B_Bo_build_17 hTg.1 (fun _ => fin g (.int 0) (hp.cg (fun w _ => all _ w)) (hq.cg (fun w _ => all _ w)) h5 h3 hf _) (fun z => ?_)
      rw [hCg.1.2.1, nI_leI (by omega) (by omega)] at z
      omega
    | succ e ih =>
      intro u g he hu hp hq h5 h3 hf
      have hTg := hT.fr hf
      have hCg := hC.fr hf wtr2
      have Bg := hB.fr hf
      have gu : N[u]? = some (N.getD u []) := gS (by omega)
      have vu : vp_in (nI u) 99 := vp_in_nI (by omega) (by omega)
      have cu : (nI u).toNatClampNeg = u := nI_clamp (by omega)
      have z0 : u = 0 ↔ N.getD u [] = [] := by
        constructor
        · intro z
          rw [z]
          exact gD hN.2.1
        · intro z
          rw [z] at gu
          exact (nix_at hN.1 gu).symm.trans (nix_at hN.1 hN.2.1)
      have hin := (hCg.1.2.2.2.1 u _ gu).2.2.1
      have st : ∀ (P : List Nat → Prop) w, (w < u + 1 ∧ ofN N P w) ↔ (w < u ∧ ofN N P w) ∨ (w = u ∧ P (N.getD u [])) := fun P w => by
        constructor
        · rintro ⟨a, b⟩
          by_cases y : w = u
          · refine Or.inr ⟨y, ?_⟩
            obtain ⟨x, hx, hp⟩ := b
            rw [y, gu] at hx
            rw [Option.some.inj hx]
            exact hp
          · exact Or.inl ⟨by omega, b⟩
        · rintro (⟨a, b⟩ | ⟨a, b⟩)
          · exact ⟨by omega, b⟩
          · exact ⟨by omega, N.getD u [], by rw [a]; exact gu, b⟩
      have at69 : ∀ (g2 : PH), BSt g2 (b + 1) 0 (fun w => w < u + 1 ∧ ofN N (pasP gs m []) w) → BSt g2 (b + 2) 0 (fun w => w < u + 1 ∧ ofN N (insP gs m []) w) → h_i g2 b 5 = x2 → h_i g2 b 3 = 0 → Fr (Wbd b la) h g2 → wpx (d + 7) P_Bo_build 69 [.ref b, .ref tb, .int x2, .int (nI u)] [] g2 Q := by
        intro g2 hp2 hq2 h52 h32 hf2
        refine B_Bo_build_69 ?_
        rw [nI_1]
        exact ih (u + 1) g2 (by omega) (by omega) hp2 hq2 h52 h32 hf2
      have at47 : ∀ (g2 : PH), BSt g2 (b + 1) 0 (fun w => w < u + 1 ∧ ofN N (pasP gs m []) w) → BSt g2 (b + 2) 0 (fun w => w < u ∧ ofN N (insP gs m []) w) → h_i g2 b 5 = x2 → h_i g2 b 3 = 0 → Fr (Wbd b la) h g2 → wpx (d + 7) P_Bo_build 47 [.ref b, .ref tb, .int x2, .int (nI u)] [] g2 Q := by
        intro g2 hp2 hq2 h52 h32 hf2
        have hT2 := hT.fr hf2
        have hC2 := hC.fr hf2 wtr2
        have B2 := hB.fr hf2
        have hin2 := (hC2.1.2.2.2.1 u _ gu).2.2.1
        have no : ¬ insP gs m [] (N.getD u []) → wpx (d + 7) P_Bo_build 69 [.ref b, .ref tb, .int x2, .int (nI u)] [] g2 Q := fun hn => at69 g2 hp2 (hq2.cg (fun w _ => by rw [st]; exact ⟨Or.inl, fun z => z.elim id (fun q => absurd q.2 hn)⟩)) h52 h32 hf2
        refine B_Bo_build_47 (fun z => no (fun q => ?_)) (fun z => B_Bo_build_51 hT2.1 hT2.2.2.2.2.2.1.1 hT2.2.2.2.2.2.1.2 vu (fun w => no (fun q => ?_)) (fun w => B_Bo_build_60 B2.1 B2.2.2.1.1 ?_))
        · rw [show (0 : Int32) = nI 0 from rfl, nI_eq (by omega) (by omega)] at z
          exact (insP_nil.mp q).1 (z0.mp z)
        · rw [cu] at w
          exact hin2.t w (insP_nil.mp q).2
        · rw [cu] at w
          rw [show (0 : Int32) = nI 0 from rfl, nI_eq (by omega) (by omega)] at z
          have yes : insP gs m [] (N.getD u []) := insP_nil.mpr ⟨fun q => z (z0.mpr q), hin2.f w⟩
          have hpq : wpm (d + 7) 3 [.ref (b + 2), .int (nI 0), .int (nI u)] g2 (fun r h' => wpx (d + 7) P_Bo_build 69 [.ref b, .ref tb, .int x2, .int (nI u)] (r.toList ++ []) h' Q) := bo_put B2.2.2.1.2 hq2 (by decide) (by omega) (fun g3 hq3 f3 => at69 g3 (hp2.same (fun i hi => f3.l _ _ (by omega))) (hq3.cg (fun w _ => by rw [st]; exact ⟨fun z => z.imp id (fun q => ⟨q, yes⟩), fun z => z.imp id (fun q => q.1)⟩)) ((f3.i _ _ (by omega)).trans h52) ((f3.i _ _ (by omega)).trans h32) (hf2.tr (f3.up (fun x k z => by unfold Wbd; omega))))
          exact hpq
      have no : ¬ pasP gs m [] (N.getD u []) → wpx (d + 7) P_Bo_build 47 [.ref b, .ref tb, .int x2, .int (nI u)] [] g Q := fun hn => at47 g (hp.cg (fun w _ => by rw [st]; exact ⟨Or.inl, fun z => z.elim id (fun q => absurd q.2 hn)⟩)) hq h5 h3 hf
      have yes : pasP gs m [] (N.getD u []) → wpx (d + 7) P_Bo_build 38 [.ref b, .ref tb, .int x2, .int (nI u)] [] g Q := fun hy => by
        have hpq : wpm (d + 7) 3 [.ref (b + 1), .int (nI 0), .int (nI u)] g (fun r h' => wpx (d + 7) P_Bo_build 47 [.ref b, .ref tb, .int x2, .int (nI u)] (r.toList ++ []) h' Q) := bo_put Bg.2.1.2 hp (by decide) (by omega) (fun g3 hp3 f3 => at47 g3 (hp3.cg (fun w _ => by rw [st]; exact ⟨fun z => z.imp id (fun q => ⟨q, hy⟩), fun z => z.imp id (fun q => q.1)⟩)) (hq.same (fun i hi => f3.l _ _ (by omega))) ((f3.i _ _ (by omega)).trans h5) ((f3.i _ _ (by omega)).trans h3) (hf.tr (f3.up (fun x k z => by unfold Wbd; omega))))
        exact B_Bo_build_38 Bg.1 Bg.2.1.1 hpq
      refine B_Bo_build_17 hTg.1 (fun z => ?_) (fun _ => B_Bo_build_25 (fun z => yes (pasP_nil.mpr (Or.inl ?_))) (fun z => B_Bo_build_29 hTg.1 hTg.2.2.2.2.2.1.1 hTg.2.2.2.2.2.1.2 vu (fun w => no (fun q => ?_)) (fun w => yes (pasP_nil.mpr (Or.inr ?_)))))
      · rw [hCg.1.2.1, nI_leI (by omega) (by omega)] at z
        omega
      · rw [show (0 : Int32) = nI 0 from rfl, nI_eq (by omega) (by omega)] at z
        exact z0.mp z
      · rw [cu] at w
        rw [show (0 : Int32) = nI 0 from rfl, nI_eq (by omega) (by omega)] at z
        rcases pasP_nil.mp q with y | y
        · exact z (z0.mpr y)
        · exact hin.t w y
      · rw [cu] at w
        exact hin.f w
  exact loop _ 0 g1 rfl (Nat.zero_le _) (c1.cg (fun u _ => emp _ u)) (c2.cg (fun u _ => emp _ u)) a51 a31 F1
