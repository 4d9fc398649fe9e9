/-! words on the reference's side: the row of a new state -/
theorem md_counts_new {d L m p j n : Nat} {h : PH} {Q : PQ} {N gs V : List (List Nat)} {P : List Nat} {cs : Nat → Nat} {w : List Nat} {y4 : Int64} {v7 : Value} (hM : MdS h) (hL : L < 2) (hT : LT h L N gs m V P cs) (hD : DgA h 52 (stD N gs m w)) (hV : V.length < 16384) (hp : p < 16384) (hn : ¬ p ∈ P) (hj : p = (hsD (stD N gs m w) + j) % 16384) (hc : ∀ t, t < j → (hsD (stD N gs m w) + t) % 16384 ∈ P) (k : ∀ h', LT h' L N gs m (V ++ [w]) (P ++ [p]) (updD (updD cs P.length 0) P.length (0 + n)) → Fr (Wly L) h h' → Q none h') : wpx d P_Md_counts 120 [.ref 17, .int (nI L), .long (lN n), .retAddr 2, .long y4, .retAddr 2, .int (nI (16384 * L + p)), v7] [] h Q := by
  have t1 := hT.1.1
  have t5 := hT.2.1
  have c1 : (nI (16384 * L + p)).toNatClampNeg = 16384 * L + p := nI_clamp (by omega)
  have c2 : (nI L).toNatClampNeg = L := nI_clamp (by omega)
  have r1 : h_i (w_i h 48 (nI (16384 * L + p)).toNatClampNeg ((1 : Int32) &&& 1)) 50 (nI L).toNatClampNeg = nI P.length := by
    rw [wi_ne _ _ (by omega), c2]
    exact t1
  have eix : (16384 : Int32) * nI L + nI P.length = nI (16384 * L + P.length) := by rw [show (16384 : Int32) = nI 16384 from rfl, nI_mulN, nI_add]
  have vp : vp_in (nI (16384 * L + p)) 32768 := vp_in_nI (by omega) (by omega)
  refine B_Md_counts_120 hM.1 (mr_isTaken hM) (ms_isTaken hM) vp (mr_taken hM) (mr_takenMany hM) (ms_takenMany hM) (vp_in_nI (by omega) (by omega)) (ms_taken hM) (by rw [r1, eix]; exact vp_in_nI (by omega) (by omega)) ?_
  rw [r1, eix, nI_clamp (show 16384 * L + P.length < 2 ^ 31 by omega), c1, c2]
  have r2 : h_i (w_i (w_i h 48 (16384 * L + p) ((1 : Int32) &&& 1)) 49 (16384 * L + P.length) (nI (16384 * L + p))) 50 L = nI P.length := by
    rw [wi_ne _ _ (by omega), wi_ne _ _ (by omega)]
    exact t1
  rw [r2, nI_1]
  have F1 : Fr (Wly L) h (w_i h 48 (16384 * L + p) ((1 : Int32) &&& 1)) := Fr.wi _ _ (Or.inr (Or.inl ⟨Or.inr (Or.inl rfl), by omega, by omega⟩))
  have F2 : Fr (Wly L) h (w_i (w_i h 48 (16384 * L + p) ((1 : Int32) &&& 1)) 49 (16384 * L + P.length) (nI (16384 * L + p))) := F1.tr (Fr.wi _ _ (Or.inr (Or.inl ⟨Or.inr (Or.inr rfl), by omega, by omega⟩)))
  have F3 : Fr (Wly L) h (w_i (w_i (w_i h 48 (16384 * L + p) ((1 : Int32) &&& 1)) 49 (16384 * L + P.length) (nI (16384 * L + p))) 50 L (nI (P.length + 1))) := F2.tr (Fr.wi _ _ (Or.inr (Or.inr ⟨rfl, rfl⟩)))
  have a50 : h_i (w_i (w_i (w_i h 48 (16384 * L + p) ((1 : Int32) &&& 1)) 49 (16384 * L + P.length) (nI (16384 * L + p))) 50 L (nI (P.length + 1))) 50 L = nI (P.length + 1) := wi_eq ..
  have a49 : ∀ q, h_i (w_i (w_i (w_i h 48 (16384 * L + p) ((1 : Int32) &&& 1)) 49 (16384 * L + P.length) (nI (16384 * L + p))) 50 L (nI (P.length + 1))) 49 q = if q = 16384 * L + P.length then nI (16384 * L + p) else h_i h 49 q := fun q => by
    rw [wi_ne _ _ (by omega)]
    by_cases y : q = 16384 * L + P.length
    · rw [y, wi_eq, if_pos rfl]
    · rw [wi_ne _ _ (fun z => y z.2), wi_ne _ _ (by omega), if_neg y]
  have a48 : ∀ q, h_i (w_i (w_i (w_i h 48 (16384 * L + p) ((1 : Int32) &&& 1)) 49 (16384 * L + P.length) (nI (16384 * L + p))) 50 L (nI (P.length + 1))) 48 q = if q = 16384 * L + p then 1 else h_i h 48 q := fun q => by
    rw [wi_ne _ _ (by omega), wi_ne _ _ (by omega)]
    by_cases y : q = 16384 * L + p
    · rw [y, wi_eq, if_pos rfl]
      decide
    · rw [wi_ne _ _ (fun z => y z.2), if_neg y]
  have al : ∀ x q, h_l (w_i (w_i (w_i h 48 (16384 * L + p) ((1 : Int32) &&& 1)) 49 (16384 * L + P.length) (nI (16384 * L + p))) 50 L (nI (P.length + 1))) x q = h_l h x q := fun _ _ => rfl
  generalize w_i (w_i (w_i h 48 (16384 * L + p) ((1 : Int32) &&& 1)) 49 (16384 * L + P.length) (nI (16384 * L + p))) 50 L (nI (P.length + 1)) = g at F3 a50 a49 a48 al ⊢
  have hMg := F3.md hM
  refine B_Md_counts_157 hMg.1 (mr_counts hMg) (ms_counts hMg) vp ?_
  rw [c1]
  have loop : ∀ (e q : Nat) (g' : PH), 4 - q = e → q ≤ 4 → Fr (Wly L) h g' → (∀ x i, h_i g' x i = h_i g x i) → (∀ i, h_l g' 47 i = if i = 16384 * L + p then 0 else h_l h 47 i) → (∀ t, t < q → h_l g' 46 (4 * (16384 * L + p) + t) = h_l h 52 t) → (∀ i, i / 4 ≠ 16384 * L + p → h_l g' 46 i = h_l h 46 i) → wpx d P_Md_counts 168 [.ref 17, .int (nI L), .long (lN n), .retAddr 2, .long y4, .retAddr 2, .int (nI (16384 * L + p)), .int (nI q)] [] g' Q := by
    intro e
    induction e with
    | zero =>
      intro q g' he hq hf gi g47 g46 g46'
      have e4 : q = 4 := by omega
      subst e4
      have hT' := hT.new (h' := g') hp hn hj hc (by rw [gi]; exact a50) (fun i => by rw [gi]; exact a49 i) (fun i => by rw [gi]; exact a48 i) g47 (fun t ht => by rw [g46 t ht]; exact hD.1 t ht) g46'
      refine B_Md_counts_168 (fun _ => md_counts_old (i := P.length) (p := p) (hf.md hM) hL hT' ?_ ?_ (fun h' hT2 f2 => ?_)) (fun z => absurd (by decide) z)
      · rw [List.getElem?_append_right (Nat.le_refl _), Nat.sub_self]
        rfl
      · rw [List.length_append, t5]
        exact Nat.lt_succ_self _
      · rw [updD_at] at hT2
        exact k h' hT2 (hf.tr f2)
    | succ e ih =>
      intro q g' he hq hf gi g47 g46 g46'
      have hMg' := hf.md hM
      have eq4 : (4 : Int32) * nI (16384 * L + p) + nI q = nI (4 * (16384 * L + p) + q) := by rw [show (4 : Int32) = nI 4 from rfl, nI_mulN, nI_add]
      refine B_Md_counts_168 (fun z => ?_) (fun _ => B_Md_counts_174 hMg'.1 (mr_keys hMg') (mr_to hMg') (ms_to hMg') (vp_in_nI (by omega) (by omega)) (ms_keys hMg') (by rw [eq4]; exact vp_in_nI (by omega) (by omega)) ?_)
      · rw [show (4 : Int32) = nI 4 from rfl, nI_leI (by omega) (by omega)] at z
        omega
      · rw [eq4, nI_clamp (show 4 * (16384 * L + p) + q < 2 ^ 31 by omega), nI_clamp (show q < 2 ^ 31 by omega), nI_1]
        have e52 : h_l g' 52 q = h_l h 52 q := hf.l _ _ (fun z => by unfold Wly at z; omega)
        refine ih (q + 1) _ (by omega) (by omega) (hf.tr (Fr.wl _ _ (Or.inl ⟨rfl, by omega, by omega⟩))) gi (fun i => by rw [h_l_wl, if_neg (by omega)]; exact g47 i) (fun t ht => ?_) (fun i hi => by rw [h_l_wl, if_neg (by omega)]; exact g46' i hi)
        rw [h_l_wl]
        by_cases y : t = q
        · rw [y, if_pos ⟨rfl, rfl⟩]
          exact e52
        · rw [if_neg (by omega)]
          exact g46 t (by omega)
  refine loop _ 0 _ rfl (Nat.zero_le _) (F3.tr (Fr.wl _ _ (Or.inr (Or.inl ⟨Or.inl rfl, by omega, by omega⟩)))) (fun _ _ => rfl) (fun i => ?_) (fun t ht => absurd ht (by omega)) (fun i hi => by rw [h_l_wl, if_neg (by omega)]; exact al 46 i)
  rw [h_l_wl]
  by_cases y : i = 16384 * L + p
  · rw [if_pos ⟨rfl, y⟩, if_pos y]
  · rw [if_neg (fun z => y z.2), if_neg y]
    exact al 47 i
