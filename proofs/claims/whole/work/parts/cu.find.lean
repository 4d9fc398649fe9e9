/-! words on the reference's side: a state sought in a layer -/
def LT (h : PH) (L : Nat) (N gs : List (List Nat)) (m : Nat) (V : List (List Nat)) (P : List Nat) (cs : Nat → Nat) : Prop := LTk h L P ∧ P.length = V.length ∧ ∀ (i p : Nat) (v : List Nat), P[i]? = some p → V[i]? = some v → KyA h (16384 * L + p) (stD N gs m v) ∧ h_l h 47 (16384 * L + p) = lN (cs i) ∧ ∃ j, p = (hsD (stD N gs m v) + j) % 16384 ∧ ∀ t, t < j → (hsD (stD N gs m v) + t) % 16384 ∈ P
theorem nI_and14 (n : Nat) : nI n &&& (16383 : Int32) = nI (n % 16384) := by
  apply Int32.toBitVec_inj.mp
  apply BitVec.eq_of_toNat_eq
  rw [Int32.toBitVec_and, BitVec.toNat_and]
  unfold nI
  rw [Int32.toBitVec_ofNat', Int32.toBitVec_ofNat', BitVec.toNat_ofNat, BitVec.toNat_ofNat]
  have h2 : (16383 : Int32).toBitVec.toNat = 2 ^ 14 - 1 := rfl
  rw [h2, Nat.and_two_pow_sub_one_eq_mod]
  omega
theorem md_seek {d L m : Nat} {h : PH} {Q : PQ} {N gs V : List (List Nat)} {P : List Nat} {cs : Nat → Nat} {w : List Nat} {l2 y4 : Int64} {v7 : Value} (hM : MdS h) (hL : L < 2) (hN : okN N) (hT : LT h L N gs m V P cs) (hD : DgA h 52 (stD N gs m w)) (hV : V.length < 16384) (kold : ∀ (i : Nat) (v : List Nat) (p : Nat), V[i]? = some v → P[i]? = some p → stD N gs m v = stD N gs m w → wpx (d + 1) P_Md_counts 199 [.ref 17, .int (nI L), .long l2, .retAddr 2, .long y4, .retAddr 2, .int (nI (16384 * L + p)), v7] [] h Q) (knew : ∀ p j, p < 16384 → ¬ p ∈ P → p = (hsD (stD N gs m w) + j) % 16384 → (∀ t, t < j → (hsD (stD N gs m w) + t) % 16384 ∈ P) → (∀ v ∈ V, stD N gs m v ≠ stD N gs m w) → wpx (d + 1) P_Md_counts 120 [.ref 17, .int (nI L), .long l2, .retAddr 2, .long y4, .retAddr 2, .int (nI (16384 * L + p)), v7] [] h Q) : wpx (d + 1) P_Md_counts 72 [.ref 17, .int (nI L), .long l2, .retAddr 2, .long y4, .retAddr 2, .int (nI (16384 * L + hsD (stD N gs m w))), v7] [] h Q := by
  obtain ⟨⟨t1, t2, t3, t4⟩, t5, t6⟩ := hT
  generalize hH : hsD (stD N gs m w) = H at knew ⊢
  have hH1 : H < 16384 := by rw [← hH]; exact hsD_lt _
  have loop : ∀ (e j : Nat), 16384 - j = e → j ≤ 16384 → (∀ t, t < j → ∃ (i : Nat) (v : List Nat), P[i]? = some ((H + t) % 16384) ∧ V[i]? = some v ∧ stD N gs m v ≠ stD N gs m w) → wpx (d + 1) P_Md_counts 72 [.ref 17, .int (nI L), .long l2, .retAddr 2, .long y4, .retAddr 2, .int (nI (16384 * L + (H + j) % 16384)), v7] [] h Q := by
    intro e
    induction e with
    | zero =>
      intro j he hj hz
      have := HT.full (M := 16384) (a := H) (P := P) (by omega) hH1 (fun i hi => by
        obtain ⟨i', _, a, _⟩ := hz i (by omega)
        exact List.mem_of_getElem? a)
      omega
    | succ e ih =>
      intro j he hj hz
      have hp : (H + j) % 16384 < 16384 := Nat.mod_lt _ (by decide)
      have hin : ∀ t, t < j → (H + t) % 16384 ∈ P := fun t ht => by
        obtain ⟨i', _, a, _⟩ := hz t ht
        exact List.mem_of_getElem? a
      have next : (H + (j + 1)) % 16384 = ((H + j) % 16384 + 1) % 16384 := by omega
      generalize hpe : (H + j) % 16384 = p at hp next
      have tk := t4 p hp
      have vp : vp_in (nI (16384 * L + p)) 32768 := vp_in_nI (by omega) (by omega)
      by_cases y : p ∈ P
      · obtain ⟨i, hi⟩ := List.mem_iff_getElem?.mp y
        have il := (List.getElem?_eq_some_iff.mp hi).1
        have gv := gS (gs := V) (k := i) (by omega)
        generalize V.getD i [] = v at gv
        obtain ⟨s1, s2, s3⟩ := t6 i p v hi gv
        refine B_Md_counts_72 hM.1 (mr_isTaken hM) (ms_isTaken hM) vp (fun q => ?_) (fun _ => B_Md_counts_82 hM.1 (md_isThere hM hD s1 (fun i => stD_le i) (by omega) (fun q => B_Md_counts_88 (fun _ => B_Md_counts_110 hM.1 (mr_isTaken hM) (ms_isTaken hM) vp (fun _ => ?_) (fun z => ?_)) (fun z => absurd z (by decide))) (fun q => B_Md_counts_88 (fun z => absurd rfl z) (fun _ => B_Md_counts_91 ?_))))
        · rw [nI_clamp (by omega), tk.1 y] at q
          exact absurd q (by decide)
        · exact kold i v p gv hi (stD_eq hN q).symm
        · rw [nI_clamp (by omega), tk.1 y] at z
          exact absurd z (by decide)
        · rw [nI_1, nI_and14, show (16384 : Int32) = nI 16384 from rfl, nI_mulN, nI_add, show (16384 * L + p + 1) % 16384 = (H + (j + 1)) % 16384 by omega]
          refine ih (j + 1) (by omega) (by omega) (fun t ht => ?_)
          by_cases z : t = j
          · rw [z, hpe]
            exact ⟨i, v, hi, gv, fun z' => q (fun i' _ => by rw [z'])⟩
          · exact hz t (by omega)
      · refine B_Md_counts_72 hM.1 (mr_isTaken hM) (ms_isTaken hM) vp (fun _ => B_Md_counts_110 hM.1 (mr_isTaken hM) (ms_isTaken hM) vp (fun z => ?_) (fun _ => ?_)) (fun q => ?_)
        · rw [nI_clamp (by omega), tk.2 y] at z
          exact absurd rfl z
        · refine knew p j hp y hpe.symm hin (fun v hv e => ?_)
          obtain ⟨i, hi⟩ := List.mem_iff_getElem?.mp hv
          have il := (List.getElem?_eq_some_iff.mp hi).1
          have gp : P[i]? = some P[i] := List.getElem?_eq_getElem (by omega)
          generalize P[i] = p' at gp
          obtain ⟨_, _, j', e1, e2⟩ := t6 i p' v gp hi
          rw [e, hH] at e1 e2
          have lt : j' < j := by
            refine Nat.lt_of_not_le (fun q => y ?_)
            by_cases z : j' = j
            · rw [← hpe, ← z, ← e1]
              exact List.mem_of_getElem? gp
            · rw [← hpe]
              exact e2 j (by omega)
          obtain ⟨i2, v2, f1, f2, f3⟩ := hz j' lt
          rw [← e1] at f1
          have ei : i2 = i := by
            have l2 := (List.getElem?_eq_some_iff.mp f1).1
            exact (List.getElem?_inj l2 t2).mp (f1.trans gp.symm)
          rw [ei, hi] at f2
          exact f3 (by rw [← Option.some.inj f2]; exact e)
        · rw [nI_clamp (by omega), tk.2 y] at q
          exact absurd rfl q
  have := loop _ 0 rfl (Nat.zero_le _) (fun t ht => absurd ht (by omega))
  rw [show (H + 0) % 16384 = H by omega] at this
  exact this
