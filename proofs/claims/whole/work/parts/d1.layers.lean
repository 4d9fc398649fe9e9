/-! words on the reference's side: from one layer to the next, letter by letter -/
theorem cf_slots {d L r l : Nat} {h0 : PH} {Q : PQ} {N gs V : List (List Nat)} {m : Nat} {P : List Nat} {cs : Nat → Nat} {x1 x3 : Int32} (hM : MdS h0) (ho : okg gs m) (hu : unlk gs) (hC : CNd h0 N gs m) (hL : L < 2) (hT : LT h0 L N gs m V P cs) (hVl : V.length ≤ 16384) (hl : l < 10) (hv : ∀ v ∈ V, v.length = l) (k : ∀ g V' P' cs' x4 v5 v6 v7, LT g (1 - L) N gs m V' P' cs' → LyW N gs m (l + 1) V' → (∀ f, f2 f → SW f gs m r V' cs' = SW f gs m (r + 1) V cs) → Fr (Wc1 L) h0 g → wpx (d + 4) P_Md_countFrom 160 [.ref 17, .int x1, .int (nI L), .int x3, .int x4, v5, v6, v7] [] g Q) : ∀ (e i : Nat) (g : PH) (V' : List (List Nat)) (P' : List Nat) (cs' : Nat → Nat) (v5 v6 v7 : Value), V.length - i = e → i ≤ V.length → LT g (1 - L) N gs m V' P' cs' → LyW N gs m (l + 1) V' → (∀ f, f2 f → SW f gs m r V' cs' = sm (fun j => cs j * cnF f gs m (r + 1) (V.getD j [])) i) → Fr (Wc1 L) h0 g → wpx (d + 4) P_Md_countFrom 55 [.ref 17, .int x1, .int (nI L), .int x3, .int (nI i), v5, v6, v7] [] g Q := by
  intro e
  induction e with
  | zero =>
    intro i g V' P' cs' v5 v6 v7 he hi hT' hW hs hf
    have hMg := hf.md hM
    have ei : i = V.length := by omega
    subst ei
    have hTg := LT.fr hf (fun x k w => Wc1.no hL w) hVl hT
    refine B_Md_countFrom_55 hMg.1 (mr_takenMany hMg) (ms_takenMany hMg) (vp_in_nI (by omega) (by omega)) (fun _ => k g V' P' cs' _ _ _ _ hT' hW hs hf) (fun q => ?_)
    rw [nI_clamp (by omega), hTg.1.1, hTg.2.1, nI_leI (by omega) (by omega)] at q
    omega
  | succ e ih =>
    intro i g V' P' cs' v5 v6 v7 he hi hT' hW hs hf
    have hMg := hf.md hM
    have hTg := LT.fr hf (fun x k w => Wc1.no hL w) hVl hT
    have hPV := hTg.2.1
    have gp : P[i]? = some P[i] := List.getElem?_eq_getElem (by omega)
    have gv : V[i]? = some V[i] := List.getElem?_eq_getElem (by omega)
    have hvl := hv _ (List.mem_of_getElem? gv)
    generalize P[i] = p at gp
    generalize V[i] = v at gv hvl
    have h49 := (hTg.1.2.2.1 i p gp).2
    have pl := (hTg.1.2.2.1 i p gp).1
    have eix : (16384 : Int32) * nI L + nI i = nI (16384 * L + i) := by rw [show (16384 : Int32) = nI 16384 from rfl, nI_mulN, nI_add]
    refine B_Md_countFrom_55 hMg.1 (mr_takenMany hMg) (ms_takenMany hMg) (vp_in_nI (by omega) (by omega)) (fun q => ?_) (fun _ => B_Md_countFrom_66 hMg.1 (mr_taken hMg) (ms_taken hMg) (by rw [eix]; exact vp_in_nI (by omega) (by omega)) ?_)
    · rw [nI_clamp (by omega), hTg.1.1, hPV, nI_leI (by omega) (by omega)] at q
      omega
    · rw [eix, nI_clamp (show 16384 * L + i < 2 ^ 31 by omega), h49]
      have hC1 : CNd g N gs m := CNd.fr hf (fun x k z => by unfold Wc1 Wly at z; omega) hC
      have hs0 : ∀ f, f2 f → SW f gs m r V' cs' = sm (fun j => cs j * cnF f gs m (r + 1) (V.getD j [])) i + cs i * sm (fun s => cnF f gs m r (v ++ [s + 1])) 0 := fun f hf2 => by
        rw [hs f hf2]
        exact (Nat.add_zero _).symm
      have hW0 : LyW N gs m (v.length + 1) V' := by
        rw [hvl]
        exact hW
      refine cf_letters (T := fun f => sm (fun j => cs j * cnF f gs m (r + 1) (V.getD j [])) i) hMg ho hu hC1 hL hTg hVl gp gv (by omega) (fun g2 V2 P2 cs2 y7 hT2 hW2 hs2 f2' => ?_) _ 0 g V' P' cs' v7 rfl (by omega) hT' hW0 hs0 (Fr.rf _ _)
      refine B_Md_countFrom_154 ?_
      rw [nI_1]
      rw [hvl] at hW2
      refine ih (i + 1) g2 V2 P2 cs2 _ _ _ (by omega) (by omega) hT2 hW2 (fun f hf2 => ?_) (hf.tr f2')
      rw [hs2 f hf2]
      show _ = sm (fun j => cs j * cnF f gs m (r + 1) (V.getD j [])) i + cs i * cnF f gs m (r + 1) (V.getD i [])
      rw [gD gv]
theorem cf_steps {d n : Nat} {h0 : PH} {Q : PQ} {N gs : List (List Nat)} {m : Nat} {v0 : List Nat} (hM : MdS h0) (ho : okg gs m) (hu : unlk gs) (hC : CNd h0 N gs m) (hn : v0.length + n ≤ 10) (k : ∀ g L V P P1 cs v4 v5 v6 v7, L < 2 → LT g L N gs m V P cs → V.length ≤ 16384 → LTk g (1 - L) P1 → (∀ f, f2 f → SW f gs m 0 V cs = cnF f gs m n v0) → Fr Wcfm h0 g → wpx (d + 4) P_Md_countFrom 170 [.ref 17, .int (nI n), .int (nI L), .int (nI n), v4, v5, v6, v7] [] g Q) : ∀ (e t : Nat) (g : PH) (L : Nat) (V : List (List Nat)) (P P1 : List Nat) (cs : Nat → Nat) (v4 v5 v6 v7 : Value), n - t = e → t ≤ n → L < 2 → LT g L N gs m V P cs → V.length ≤ 16384 → (∀ v ∈ V, v.length = v0.length + t) → LTk g (1 - L) P1 → (∀ f, f2 f → SW f gs m (n - t) V cs = cnF f gs m n v0) → Fr Wcfm h0 g → wpx (d + 4) P_Md_countFrom 40 [.ref 17, .int (nI n), .int (nI L), .int (nI t), v4, v5, v6, v7] [] g Q := by
  intro e
  induction e with
  | zero =>
    intro t g L V P P1 cs v4 v5 v6 v7 he ht hL hT hVl hv hT1 hs hf
    have et : t = n := by omega
    subst et
    rw [Nat.sub_self] at hs
    refine B_Md_countFrom_40 (fun _ => k g L V P P1 cs _ _ _ _ hL hT hVl hT1 hs hf) (fun q => ?_)
    exact absurd (by rw [nI_leI (by omega) (by omega)]; exact Nat.le_refl _) q
  | succ e ih =>
    intro t g L V P P1 cs v4 v5 v6 v7 he ht hL hT hVl hv hT1 hs hf
    have hMg := hf.md hM
    refine B_Md_countFrom_40 (fun q => ?_) (fun _ => B_Md_countFrom_45 hMg.1 ?_)
    · rw [nI_leI (by omega) (by omega)] at q
      omega
    · rw [one_sub L hL]
      refine md_empties hMg (by omega) hT1 (fun g1 hE f1 => B_Md_countFrom_52 ?_)
      have F1 : Fr Wcfm h0 g1 := hf.tr (f1.up (fun x k z => by unfold Wem at z; unfold Wcfm; omega))
      have hM1 := F1.md hM
      have hC1 : CNd g1 N gs m := CNd.fr F1 (fun x k z => by unfold Wcfm at z; omega) hC
      have hTa := LT.fr f1 (fun x k w z => by unfold Wem at w; unfold Wly at z; omega) hVl hT
      have hW0 : LyW N gs m (v0.length + t + 1) [] := ⟨List.nodup_nil, fun v hv => by cases hv⟩
      refine cf_slots (r := n - (t + 1)) (l := v0.length + t) hM1 ho hu hC1 hL hTa hVl (by omega) hv (fun g2 V' P' cs' x4 v5' v6' v7' hT2 hW2 hs2 f2' => ?_) _ 0 g1 [] [] (fun _ => 0) _ _ _ rfl (Nat.zero_le _) (LT.nil hE) hW0 (fun f hf2 => rfl) (Fr.rf _ _)
      refine B_Md_countFrom_160 ?_
      rw [one_sub L hL, nI_1]
      have hTb := LT.fr f2' (fun x k w => Wc1.no hL w) hVl hTa
      have eL : 1 - (1 - L) = L := by omega
      refine ih (t + 1) g2 (1 - L) V' P' P cs' _ _ _ _ (by omega) (by omega) (by omega) hT2 ?_ (fun v hv' => (hW2.2 v hv').1) (by rw [eL]; exact hTb.1) (fun f hf2 => ?_) (F1.tr (f2'.up (fun x k z => z.up)))
      · have := hT2.1.len
        rw [hT2.2.1] at this
        exact this
      · rw [hs2 f hf2, ← hs f hf2]
        congr 1
        omega
