/-! words on the reference's side: one state's steps by all letters -/
def Wcfm (x k : Nat) : Prop := (46 ≤ x ∧ x ≤ 52) ∨ (x = 17 ∧ (k = 61 ∨ k = 62))
def Wc1 (L x k : Nat) : Prop := x = 51 ∨ x = 52 ∨ Wly (1 - L) x k
theorem Wc1.up {L x k : Nat} (h : Wc1 L x k) : Wcfm x k := by
  unfold Wc1 Wly at h
  unfold Wcfm
  omega
theorem Wc1.no {L x k : Nat} (hL : L < 2) (h : Wc1 L x k) : ¬ Wly L x k := fun z => by
  unfold Wc1 Wly at h
  unfold Wly at z
  omega
theorem one_sub : ∀ L, L < 2 → (1 : Int32) - nI L = nI (1 - L) := by decide
theorem cf_copy {d sl : Nat} {h0 : PH} {Q : PQ} {D : Nat → Nat} {x1 x2 x3 x4 x6 : Int32} (hM : MdS h0) (hs : sl < 32768) (hK : KyA h0 sl D) (hD : ∀ i, D i ≤ 2) (k : ∀ g y7, DgA g 51 D → Fr (fun x _ => x = 51) h0 g → wpx d P_Md_countFrom 125 [.ref 17, .int x1, .int x2, .int x3, .int x4, .int (nI sl), .int x6, .int y7] [] g Q) : wpx d P_Md_countFrom 94 [.ref 17, .int x1, .int x2, .int x3, .int x4, .int (nI sl), .int x6, .int (nI 0)] [] h0 Q := by
  have loop : ∀ (e q : Nat) (g : PH), 4 - q = e → q ≤ 4 → (∀ k, k < q → h_l g 51 k = lN (pq D (32 * k) 32)) → Fr (fun x _ => x = 51) h0 g → wpx d P_Md_countFrom 94 [.ref 17, .int x1, .int x2, .int x3, .int x4, .int (nI sl), .int x6, .int (nI q)] [] g Q := by
    intro e
    induction e with
    | zero =>
      intro q g he hq hz hf
      have e4 : q = 4 := by omega
      subst e4
      exact B_Md_countFrom_94 (fun _ => k g _ ⟨hz, hD⟩ hf) (fun w => absurd (by decide) w)
    | succ e ih =>
      intro q g he hq hz hf
      have hMg := hf.md hM
      have eq4 : (4 : Int32) * nI sl + nI q = nI (4 * sl + q) := by rw [show (4 : Int32) = nI 4 from rfl, nI_mulN, nI_add]
      refine B_Md_countFrom_94 (fun w => ?_) (fun _ => B_Md_countFrom_100 hMg.1 (mr_from hMg) (mr_keys hMg) (ms_keys hMg) (by rw [eq4]; exact vp_in_nI (by omega) (by omega)) (ms_from hMg) (vp_in_nI (by omega) (by omega)) ?_)
      · rw [show (4 : Int32) = nI 4 from rfl, nI_leI (by omega) (by omega)] at w
        omega
      · rw [eq4, nI_clamp (show 4 * sl + q < 2 ^ 31 by omega), nI_clamp (show q < 2 ^ 31 by omega), nI_1]
        refine ih (q + 1) _ (by omega) (by omega) (fun k hk => ?_) (hf.tr (Fr.wl _ _ rfl))
        rw [h_l_wl]
        by_cases y : k = q
        · rw [if_pos ⟨rfl, y⟩, hf.l _ _ (by omega), y]
          exact hK q (by omega)
        · rw [if_neg (fun w => y w.2)]
          exact hz k (by omega)
  exact loop _ 0 h0 rfl (Nat.zero_le _) (fun k hk => absurd hk (by omega)) (Fr.rf _ _)
theorem cf_letters {d L i p r : Nat} {h0 : PH} {Q : PQ} {N gs V : List (List Nat)} {m : Nat} {P : List Nat} {cs : Nat → Nat} {v : List Nat} {x1 x3 x4 : Int32} {T : (Nat → Nat) → Nat} (hM : MdS h0) (ho : okg gs m) (hu : unlk gs) (hC : CNd h0 N gs m) (hL : L < 2) (hT : LT h0 L N gs m V P cs) (hVl : V.length ≤ 16384) (hp : P[i]? = some p) (hv : V[i]? = some v) (hl : v.length < 10) (k : ∀ g V' P' cs' y7, LT g (1 - L) N gs m V' P' cs' → LyW N gs m (v.length + 1) V' → (∀ f, f2 f → SW f gs m r V' cs' = T f + cs i * cnF f gs m (r + 1) v) → Fr (Wc1 L) h0 g → wpx (d + 4) P_Md_countFrom 154 [.ref 17, .int x1, .int (nI L), .int x3, .int x4, .int (nI (16384 * L + p)), .int (nI 27), y7] [] g Q) : ∀ (e c : Nat) (g : PH) (V' : List (List Nat)) (P' : List Nat) (cs' : Nat → Nat) (y7 : Value), 27 - c = e → c ≤ 27 → LT g (1 - L) N gs m V' P' cs' → LyW N gs m (v.length + 1) V' → (∀ f, f2 f → SW f gs m r V' cs' = T f + cs i * sm (fun s => cnF f gs m r (v ++ [s + 1])) c) → Fr (Wc1 L) h0 g → wpx (d + 4) P_Md_countFrom 84 [.ref 17, .int x1, .int (nI L), .int x3, .int x4, .int (nI (16384 * L + p)), .int (nI c), y7] [] g Q := by
  intro e
  induction e with
  | zero =>
    intro c g V' P' cs' y7 he hc hT' hW hs hf
    have ec : c = 27 := by omega
    subst ec
    exact B_Md_countFrom_84 (fun _ => k g V' P' cs' _ hT' hW hs hf) (fun q => absurd (by decide) q)
  | succ e ih =>
    intro c g V' P' cs' y7 he hc hT' hW hs hf
    have hMg := hf.md hM
    have hTg := LT.fr hf (fun x k w => Wc1.no hL w) hVl hT
    have pl := (hTg.1.2.2.1 i p hp).1
    obtain ⟨hK, h47, _⟩ := hTg.2.2 i p v hp hv
    have sl : 16384 * L + p < 32768 := by omega
    refine B_Md_countFrom_84 (fun q => ?_) (fun _ => B_Md_countFrom_91 (cf_copy (D := stD N gs m v) hMg sl hK (fun _ => stD_le _) (fun g1 z7 hD1 f1 => ?_)))
    · rw [show (27 : Int32) = nI 27 from rfl, nI_leI (by omega) (by omega)] at q
      omega
    · have F1 : Fr (Wc1 L) h0 g1 := hf.tr (f1.up (fun x k z => Or.inl z))
      have hM1 := F1.md hM
      have hC1 : CNd g1 N gs m := CNd.fr F1 (fun x k z => by unfold Wc1 Wly at z; omega) hC
      have n1 : ∀ x k : Nat, x = 51 → ¬ Wly (1 - L) x k := fun x k w z => by unfold Wly at z; omega
      have n2 : ∀ x k : Nat, x = 52 → ¬ Wly (1 - L) x k := fun x k w z => by unfold Wly at z; omega
      have fewV : V'.length ≤ 14192 := few ho hu hC1.1.1 hC1.2 hW.1 (show v.length + 1 ≤ 10 by omega) hW.2
      have hT1 := LT.fr f1 n1 (by omega) hT'
      have h1' : h_l g1 47 (16384 * L + p) = lN (cs i) := (f1.l _ _ (by omega)).trans h47
      refine B_Md_countFrom_125 hM1.1 (md_steps (s := c + 1) hM1 ho hu hC1 (by omega) (by omega) hD1 (fun g2 hD2 hne f2' => ?_) (fun g2 hD2 h0' f2' => ?_))
      · have F2 : Fr (Wc1 L) h0 g2 := F1.tr (f2'.up (fun x k z => Or.inr (Or.inl z)))
        have hM2 := F2.md hM
        have hT2 := LT.fr f2' n2 (by omega) hT1
        have h2' : h_l g2 47 (16384 * L + p) = lN (cs i) := (f2'.l _ _ (by omega)).trans h1'
        have hN := hC1.1.1
        obtain ⟨j, j0, hj⟩ := hne
        have dp := dp_pos hN j0 hj
        have fin : ∀ (g3 : PH) (V3 : List (List Nat)) (P3 : List Nat) (cs3 : Nat → Nat), LT g3 (1 - L) N gs m V3 P3 cs3 → LyW N gs m (v.length + 1) V3 → (∀ f, f2 f → SW f gs m r V3 cs3 = SW f gs m r V' cs' + cs i * cnF f gs m r (v ++ [c + 1])) → Fr (Wly (1 - L)) g2 g3 → wpx (d + 4) P_Md_countFrom 148 [.ref 17, .int x1, .int (nI L), .int x3, .int x4, .int (nI (16384 * L + p)), .int (nI c), .int z7] [] g3 Q := by
          intro g3 V3 P3 cs3 hT3 hW3 hs3 f3
          refine B_Md_countFrom_148 ?_
          rw [nI_1]
          refine ih (c + 1) g3 V3 P3 cs3 _ (by omega) (by omega) hT3 hW3 (fun f hf2 => ?_) (F2.tr (f3.up (fun x k z => Or.inr (Or.inr z))))
          rw [hs3 f hf2, hs f hf2, Nat.add_assoc, ← Nat.mul_add]
          rfl
        refine B_Md_countFrom_131 (fun z => absurd z (by decide)) (fun _ => B_Md_countFrom_134 hM2.1 (mr_counts hM2) (ms_counts hM2) (vp_in_nI (by omega) (by omega)) ?_)
        rw [nI_clamp (show 16384 * L + p < 2 ^ 31 by omega), h2', one_sub L hL]
        refine md_counts (w := v ++ [c + 1]) hM2 (by omega) hN hT2 hD2 (by omega) (fun g3 q v' hq e3 hT3 f3 => fin g3 V' P' _ hT3 hW (fun f hf2 => ?_) f3) (fun g3 q hne3 hT3 f3 => fin g3 _ _ _ hT3 (hW.add (by rw [List.length_append]; rfl) dp hne3) (fun f hf2 => ?_) f3)
        · rw [SW_old hq, cnF_st hf2 ho hu hN hC1.2 r _ _ e3]
        · exact SW_new hT2.2.1
      · have F2 : Fr (Wc1 L) h0 g2 := F1.tr (f2'.up (fun x k z => Or.inr (Or.inl z)))
        have hT2 := LT.fr f2' n2 (by omega) hT1
        refine B_Md_countFrom_131 (fun _ => B_Md_countFrom_148 ?_) (fun z => absurd rfl z)
        rw [nI_1]
        refine ih (c + 1) g2 V' P' cs' _ (by omega) (by omega) hT2 hW (fun f hf2 => ?_) F2
        have z0 := cnF_dead hf2 ho hu hC1.1.1 hC1.2 r _ h0'
        rw [hs f hf2]
        show T f + cs i * _ = T f + cs i * (sm (fun s => cnF f gs m r (v ++ [s + 1])) c + cnF f gs m r (v ++ [c + 1]))
        rw [z0, Nat.add_zero]
