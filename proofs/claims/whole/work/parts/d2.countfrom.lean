/-! words on the reference's side: how many words of so many letters more -/
theorem cf_sums {d L : Nat} {h0 : PH} {Q : PQ} {N gs V : List (List Nat)} {m : Nat} {P : List Nat} {cs : Nat → Nat} {x1 x3 : Int32} {w4 w5 w6 w7 : Value} (hM : MdS h0) (hN : okN N) (hL : L < 2) (hT : LT h0 L N gs m V P cs) (hVl : V.length ≤ 16384) (k : ∀ g, h_l g 17 61 = lN (SW oneN gs m 0 V cs) → h_l g 17 62 = lN (SW twN gs m 0 V cs) → Fr (fun x k => x = 17 ∧ (k = 61 ∨ k = 62)) h0 g → Q none g) : wpx (d + 1) P_Md_countFrom 170 [.ref 17, .int x1, .int (nI L), .int x3, w4, w5, w6, w7] [] h0 Q := by
  have loop : ∀ (e i : Nat) (g : PH) (v4 v5 v6 v7 : Value), V.length - i = e → i ≤ V.length → h_l g 17 61 = lN (sm (fun j => cs j * cnF oneN gs m 0 (V.getD j [])) i) → h_l g 17 62 = lN (sm (fun j => cs j * cnF twN gs m 0 (V.getD j [])) i) → Fr (fun x k => x = 17 ∧ (k = 61 ∨ k = 62)) h0 g → wpx (d + 1) P_Md_countFrom 182 [.ref 17, .int x1, .int (nI L), .int (nI i), v4, v5, v6, v7] [] g Q := by
    intro e
    induction e with
    | zero =>
      intro i g v4 v5 v6 v7 he hi g61 g62 hf
      have hMg := hf.md hM
      have ei : i = V.length := by omega
      subst ei
      have hTg := LT.fr hf (fun x k w z => by unfold Wly at z; omega) hVl hT
      refine B_Md_countFrom_182 hMg.1 (mr_takenMany hMg) (ms_takenMany hMg) (vp_in_nI (by omega) (by omega)) (fun _ => B_Md_countFrom_278 (k g g61 g62 hf)) (fun q => ?_)
      rw [nI_clamp (by omega), hTg.1.1, hTg.2.1, nI_leI (by omega) (by omega)] at q
      omega
    | succ e ih =>
      intro i g v4 v5 v6 v7 he hi g61 g62 hf
      have hMg := hf.md hM
      have hTg := LT.fr hf (fun x k w z => by unfold Wly at z; omega) hVl hT
      have hPV := hTg.2.1
      have gp : P[i]? = some P[i] := List.getElem?_eq_getElem (by omega)
      have gv : V[i]? = some V[i] := List.getElem?_eq_getElem (by omega)
      generalize P[i] = p at gp
      generalize V[i] = v at gv
      have h49 := (hTg.1.2.2.1 i p gp).2
      have pl := (hTg.1.2.2.1 i p gp).1
      obtain ⟨hK, h47, _⟩ := hTg.2.2 i p v gp gv
      have eix : (16384 : Int32) * nI L + nI i = nI (16384 * L + i) := by rw [show (16384 : Int32) = nI 16384 from rfl, nI_mulN, nI_add]
      have cix : (nI (16384 * L + i)).toNatClampNeg = 16384 * L + i := nI_clamp (by omega)
      have e4 : (4 : Int32) * nI (16384 * L + p) = nI (4 * (16384 * L + p)) := by rw [show (4 : Int32) = nI 4 from rfl, nI_mulN]
      have cp : (nI (16384 * L + p)).toNatClampNeg = 16384 * L + p := nI_clamp (by omega)
      have eg := gD gv
      refine B_Md_countFrom_182 hMg.1 (mr_takenMany hMg) (ms_takenMany hMg) (vp_in_nI (by omega) (by omega)) (fun q => ?_) (fun _ => B_Md_countFrom_192 hMg.1 (mr_taken hMg) (ms_taken hMg) (by rw [eix]; exact vp_in_nI (by omega) (by omega)) (mr_keys hMg) (ms_keys hMg) (by rw [eix, cix, h49, e4]; exact vp_in_nI (by omega) (by omega)) ?_)
      · rw [nI_clamp (by omega), hTg.1.1, hPV, nI_leI (by omega) (by omega)] at q
        omega
      rw [eix, cix, h49, e4, nI_clamp (show 4 * (16384 * L + p) < 2 ^ 31 by omega)]
      have k0 : h_l g 46 (4 * (16384 * L + p)) = lN (pq (stD N gs m v) (32 * 0) 32) := hK 0 (by decide)
      have plt : pq (stD N gs m v) (32 * 0) 32 < 2 ^ 64 := pq_lt (D := stD N gs m v) (o := 32 * 0) 32 (fun i _ => by have := stD_le (N := N) (gs := gs) (m := m) (v := v) (32 * 0 + i); omega)
      have dg0 : pq (stD N gs m v) (32 * 0) 32 / 4 ^ 0 % 4 = min 2 (rdc gs m v) := by
        rw [pq_dig (D := stD N gs m v) (o := 32 * 0) (j := 0) (n := 32) (by decide) (fun i _ => by have := stD_le (N := N) (gs := gs) (m := m) (v := v) (32 * 0 + i); omega)]
        exact stD_rd hN
      rw [k0]
      refine md_often (j := 0) plt (by decide) ?_
      rw [dg0]
      have X1 : ∀ f, cs i * f (rdc gs m v) = cs i * cnF f gs m 0 (V.getD i []) := fun f => by
        rw [eg]
        rfl
      generalize rdc gs m v = a at X1
      have st268 : ∀ (u1 u2 : Nat) (x5 : Int32), u1 = cs i * oneN a → u2 = cs i * twN a → wpx (d + 1) P_Md_countFrom 268 [.ref 17, .int x1, .int (nI L), .int (nI i), .int (nI (16384 * L + p)), .int x5, v6, v7] [.long (lN u2), .long (lN (sm (fun j => cs j * cnF twN gs m 0 (V.getD j [])) i)), .ref 17] (w_l g 17 61 (lN (sm (fun j => cs j * cnF oneN gs m 0 (V.getD j [])) i) + lN u1)) Q := by
        intro u1 u2 x5 h1 h2
        have F1 : Fr (fun x k => x = 17 ∧ (k = 61 ∨ k = 62)) h0 (w_l g 17 61 (lN (sm (fun j => cs j * cnF oneN gs m 0 (V.getD j [])) i) + lN u1)) := hf.tr (Fr.wl _ _ ⟨rfl, Or.inl rfl⟩)
        refine B_Md_countFrom_268 (F1.md hM).1 ?_
        rw [nI_1]
        refine ih (i + 1) _ _ _ _ _ (by omega) (by omega) ?_ ?_ (F1.tr (Fr.wl _ _ ⟨rfl, Or.inr rfl⟩))
        · rw [h_l_wl, if_neg (by omega), h_l_wl, if_pos ⟨rfl, rfl⟩, lN_addN, h1, X1]
          rfl
        · rw [h_l_wl, if_pos ⟨rfl, rfl⟩, lN_addN, h2, X1]
          rfl
      have st242 : ∀ (u1 : Nat), u1 = cs i * oneN a → wpx (d + 1) P_Md_countFrom 242 [.ref 17, .int x1, .int (nI L), .int (nI i), .int (nI (16384 * L + p)), .int (nI (min 2 a)), v6, v7] [.long (lN u1), .long (lN (sm (fun j => cs j * cnF oneN gs m 0 (V.getD j [])) i)), .ref 17] g Q := by
        intro u1 h1
        have e62 : h_l (w_l g 17 61 (lN (sm (fun j => cs j * cnF oneN gs m 0 (V.getD j [])) i) + lN u1)) 17 62 = lN (sm (fun j => cs j * cnF twN gs m 0 (V.getD j [])) i) := by
          rw [h_l_wl, if_neg (by omega)]
          exact g62
        have F1 : Fr (fun x k => x = 17 ∧ (k = 61 ∨ k = 62)) h0 (w_l g 17 61 (lN (sm (fun j => cs j * cnF oneN gs m 0 (V.getD j [])) i) + lN u1)) := hf.tr (Fr.wl _ _ ⟨rfl, Or.inl rfl⟩)
        have hM1 := F1.md hM
        refine B_Md_countFrom_242 hMg.1 hMg.1 (fun q => ?_) (fun q => ?_) <;> rw [show (1 : Int32) = nI 1 from rfl, nI_leI (by omega) (by omega)] at q <;> rw [e62]
        · refine B_Md_countFrom_267 (st268 u1 0 _ h1 ?_)
          unfold twN
          rw [if_neg (by omega), Nat.mul_zero]
        · refine B_Md_countFrom_257 hM1.1 (mr_counts hM1) (ms_counts hM1) (vp_in_nI (by omega) (by omega)) ?_
          have e47 : h_l (w_l g 17 61 (lN (sm (fun j => cs j * cnF oneN gs m 0 (V.getD j [])) i) + lN u1)) 47 (16384 * L + p) = lN (cs i) := by
            rw [h_l_wl, if_neg (by omega)]
            exact h47
          rw [cp, e47]
          refine st268 u1 (cs i) _ h1 ?_
          unfold twN
          rw [if_pos (by omega), Nat.mul_one]
      refine B_Md_countFrom_219 hMg.1 (fun q => ?_) (fun q => ?_) <;> rw [show (0 : Int32) = nI 0 from rfl, nI_leI (by omega) (by omega)] at q <;> rw [g61]
      · refine B_Md_countFrom_241 (st242 0 ?_)
        unfold oneN
        rw [if_pos (by omega), Nat.mul_zero]
      · refine B_Md_countFrom_231 hMg.1 (mr_counts hMg) (ms_counts hMg) (vp_in_nI (by omega) (by omega)) ?_
        rw [cp, h47]
        refine st242 (cs i) ?_
        unfold oneN
        rw [if_neg (by omega), Nat.mul_one]
  refine B_Md_countFrom_170 hM.1 ?_
  exact loop _ 0 _ _ _ _ _ rfl (Nat.zero_le _) rfl rfl ((Fr.wl _ _ ⟨rfl, Or.inl rfl⟩).tr (Fr.wl _ _ ⟨rfl, Or.inr rfl⟩))
theorem cf_start {d : Nat} {h0 : PH} {Q : PQ} {D : Nat → Nat} {x1 : Int32} {v3 v4 v5 v6 v7 : Value} (hM : MdS h0) (hD : DgA h0 51 D) (k : ∀ g x2, DgA g 52 D → Fr (fun x _ => x = 52) h0 g → wpx d P_Md_countFrom 30 [.ref 17, .int x1, .int x2, v3, v4, v5, v6, v7] [] g Q) : wpx d P_Md_countFrom 7 [.ref 17, .int x1, .int (nI 0), v3, v4, v5, v6, v7] [] h0 Q := by
  have loop : ∀ (e q : Nat) (g : PH), 4 - q = e → q ≤ 4 → (∀ k, k < q → h_l g 52 k = lN (pq D (32 * k) 32)) → Fr (fun x _ => x = 52) h0 g → wpx d P_Md_countFrom 7 [.ref 17, .int x1, .int (nI q), v3, v4, v5, v6, v7] [] g Q := by
    intro e
    induction e with
    | zero =>
      intro q g he hq hz hf
      have e4 : q = 4 := by omega
      subst e4
      exact B_Md_countFrom_7 (fun _ => k g _ ⟨hz, hD.2⟩ hf) (fun w => absurd (by decide) w)
    | succ e ih =>
      intro q g he hq hz hf
      have hMg := hf.md hM
      refine B_Md_countFrom_7 (fun w => ?_) (fun _ => B_Md_countFrom_12 hMg.1 (mr_to hMg) (mr_from hMg) (ms_from hMg) (vp_in_nI (by omega) (by omega)) (ms_to hMg) (vp_in_nI (by omega) (by omega)) ?_)
      · rw [show (4 : Int32) = nI 4 from rfl, nI_leI (by omega) (by omega)] at w
        omega
      · rw [nI_clamp (show q < 2 ^ 31 by omega), nI_1]
        refine ih (q + 1) _ (by omega) (by omega) (fun k hk => ?_) (hf.tr (Fr.wl _ _ rfl))
        rw [h_l_wl]
        by_cases y : k = q
        · rw [if_pos ⟨rfl, y⟩, hf.l _ _ (by omega), y]
          exact hD.1 q (by omega)
        · rw [if_neg (fun w => y w.2)]
          exact hz k (by omega)
  exact loop _ 0 h0 rfl (Nat.zero_le _) (fun k hk => absurd hk (by omega)) (Fr.rf _ _)
/-- both layers' taken places stand in order -/
def LyO (h : PH) : Prop := (∃ P, LTk h 0 P) ∧ ∃ P, LTk h 1 P
theorem md_countFrom {d n : Nat} {h : PH} {Q : PQ} {N gs : List (List Nat)} {m : Nat} {v0 : List Nat} (hM : MdS h) (ho : okg gs m) (hu : unlk gs) (hC : CNd h N gs m) (hD : DgA h 51 (stD N gs m v0)) (hn : v0.length + n ≤ 10) (hO : LyO h) (k : ∀ h', h_l h' 17 61 = lN (cnF oneN gs m n v0) → h_l h' 17 62 = lN (cnF twN gs m n v0) → LyO h' → Fr Wcfm h h' → Q none h') : wpm (d + 5) 255 [.ref 17, .int (nI n)] h Q := by
  obtain ⟨⟨P0, hP0⟩, P1, hP1⟩ := hO
  refine wpm_in P_Md_countFrom rfl (by decide) (by show ¬ 8 < 2; decide) ?_
  refine B_Md_countFrom_0 hM.1 (md_empties (L := 0) hM (by decide) hP0 (fun g1 hE f1 => B_Md_countFrom_5 ?_))
  have F1 : Fr Wcfm h g1 := f1.up (fun x k z => by unfold Wem at z; unfold Wcfm; omega)
  have hM1 := F1.md hM
  have hD1 : DgA g1 51 (stD N gs m v0) := hD.cg (fun k hk => f1.l _ _ (fun z => by unfold Wem at z; omega))
  have hQ1 := LTk.fr f1 (fun x k w z => by unfold Wem at w; unfold Wly at z; omega) hP1
  refine cf_start hM1 hD1 (fun g2 x2 hD2 f2' => ?_)
  have F2 : Fr Wcfm h g2 := F1.tr (f2'.up (fun x k z => by unfold Wcfm; omega))
  have hM2 := F2.md hM
  have hQ2 := LTk.fr f2' (fun x k w z => by unfold Wly at z; omega) hQ1
  have hE2 : LT g2 0 N gs m [] [] (fun _ => 0) := LT.nil (LTk.fr f2' (fun x k w z => by unfold Wly at z; omega) hE)
  have fin : ∀ (g3 : PH) (p : Nat), LT g3 0 N gs m ([] ++ [v0]) ([] ++ [p]) (updD (updD (fun _ => 0) ([] : List Nat).length 0) ([] : List Nat).length (0 + 1)) → Fr (Wly 0) g2 g3 → wpx (d + 4) P_Md_countFrom 36 [.ref 17, .int (nI n), .int x2, .retAddr 0, .retAddr 0, .retAddr 0, .retAddr 0, .retAddr 0] [] g3 Q := by
    intro g3 p hT3 f3
    have F3 : Fr Wcfm h g3 := F2.tr (f3.up (fun x k z => by unfold Wly at z; unfold Wcfm; omega))
    have hQ3 := LTk.fr f3 (fun x k w z => by unfold Wly at w z; omega) hQ2
    refine B_Md_countFrom_36 (cf_steps (n := n) hM ho hu hC hn (fun g4 L V P P1' cs v4 v5 v6 v7 hL hT4 hV4 hQ4 hs4 f4 => ?_) _ 0 g3 0 _ _ P1 _ _ _ _ _ rfl (Nat.zero_le _) (by decide) hT3 (by show 1 ≤ 16384; decide) (fun v hv => ?_) hQ3 (fun f hf2 => ?_) F3)
    · have hM4 := f4.md hM
      refine cf_sums hM4 hC.1.1 hL hT4 hV4 (fun g5 e1 e2 f5 => k g5 (by rw [e1, hs4 _ f2_one]) (by rw [e2, hs4 _ f2_tw]) ?_ (f4.tr (f5.up (fun x k z => Or.inr z))))
      have q1 := LTk.fr f5 (fun x k w z => by unfold Wly at z; omega) hT4.1
      have q2 := LTk.fr f5 (fun x k w z => by unfold Wly at z; omega) hQ4
      rcases (show L = 0 ∨ L = 1 by omega) with z | z
      · subst z
        exact ⟨⟨_, q1⟩, ⟨_, q2⟩⟩
      · subst z
        exact ⟨⟨_, q2⟩, ⟨_, q1⟩⟩
    · rw [List.mem_singleton.mp hv]
      rfl
    · rw [SW_new (V := []) (l := ([] : List Nat).length) (n := 1) (w := v0) rfl]
      show 0 + 1 * _ = _
      rw [Nat.zero_add, Nat.one_mul]
      rfl
  have hc : wpm (d + 4) 254 [.ref 17, .int (nI 0), .long (lN 1)] g2 (fun r h' => wpx (d + 4) P_Md_countFrom 36 [.ref 17, .int (nI n), .int x2, .retAddr 0, .retAddr 0, .retAddr 0, .retAddr 0, .retAddr 0] (r.toList ++ []) h' Q) := md_counts (w := v0) (V := []) hM2 (by decide) hC.1.1 hE2 hD2 (by decide) (fun h' i v hv => by cases hv) (fun h' p _ hT f => fin h' p hT f)
  exact B_Md_countFrom_30 hM2.1 hc
