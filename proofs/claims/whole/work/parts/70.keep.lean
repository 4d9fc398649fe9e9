/-! THE MODEL: what it keeps of the groups at each act -/
/-- a snapshot at a place -/
def KSn (h : PH) (n : Nat) (s : List (List Nat) × Nat) : Prop := h_i h 62 (141 * n + 126) = nI s.2 ∧ ∀ k l, s.1[k]? = some l → h_i h 62 (141 * n + 112 + k) = nI l.length ∧ ∀ j x, l[j]? = some x → h_i h 62 (141 * n + (8 * k + j)) = nI (x + 96)
def MKp (h : PH) (as : List (List (List Nat) × Nat)) : Prop := h_i h 17 76 = nI as.length ∧ as.length ≤ 12 ∧ (∀ s ∈ as, okg s.1 s.2) ∧ ∀ n s, as[n]? = some s → KSn h n s
def Wkp (c k : Nat) : Prop := c = 62 ∨ (c = 17 ∧ (k = 76 ∨ k = 25 ∨ k = 26 ∨ k = 70))
/-- what is kept when one more comes -/
def kpd (as : List (List (List Nat) × Nat)) : List (List (List Nat) × Nat) := if as.length = 12 then as.drop 1 else as
theorem KSn.eq {h h' : PH} {n n' : Nat} {s : List (List Nat) × Nat} (ho : okg s.1 s.2) (he : ∀ i, i < 141 → h_i h' 62 (141 * n' + i) = h_i h 62 (141 * n + i)) (hs : KSn h n s) : KSn h' n' s := by
  refine ⟨by rw [he 126 (by omega)]; exact hs.1, fun k l hk => ⟨?_, fun j x hj => ?_⟩⟩
  · have h3 := (ho.at hk).2.2
    rw [Nat.add_assoc, he (112 + k) (by omega), ← Nat.add_assoc]
    exact (hs.2 k l hk).1
  · have h3 := (ho.at hk).2.2
    have h7 := (ho.at hk).1.2
    have hj' := (List.getElem?_eq_some_iff.mp hj).1
    rw [he (8 * k + j) (by omega)]
    exact (hs.2 k l hk).2 j x hj
theorem md_another {d : Nat} {h : PH} {Q : PQ} (hM : MdS h) (k : ∀ h', Fr (fun c k => c = 17 ∧ (k = 25 ∨ k = 26 ∨ k = 70)) h h' → h_i h' 17 25 = 0 → h_i h' 17 26 = 0 → h_i h' 17 70 = 0 → Q none h') : wpm (d + 1) 197 [.ref 17] h Q := by
  refine wpm_in P_Md_another rfl (by decide) (by show ¬ 1 < 1; decide) ?_
  refine B_Md_another_0 hM.1 (k _ (((Fr.wi h _ ⟨rfl, Or.inl rfl⟩).tr (Fr.wi _ _ ⟨rfl, Or.inr (Or.inl rfl)⟩)).tr (Fr.wi _ _ ⟨rfl, Or.inr (Or.inr rfl)⟩)) ?_ ?_ ?_)
  · rw [wi_ne _ _ (by omega), wi_ne _ _ (by omega), wi_eq]
  · rw [wi_ne _ _ (by omega), wi_eq]
  · rw [wi_eq]
/-- from where the place is fixed on -/
theorem md_keep_52 {d : Nat} {h : PH} {Q : PQ} {gs : List (List Nat)} {m : Nat} {as : List (List (List Nat) × Nat)} {v1 v2 : Value} (hM : MdS h) (hg : MGr h gs m) (hk : MKp h as) (hl : as.length < 12) (k : ∀ h', MKp h' (as ++ [(gs, m)]) → Fr Wkp h h' → h_i h' 17 25 = 0 → h_i h' 17 26 = 0 → h_i h' 17 70 = 0 → Q none h') : wpx (d + 1) P_Md_keep 52 [.ref 17, v1, v2] [] h Q := by
  refine B_Md_keep_52 hM.1 ?_
  rw [hk.1, show (141 : Int32) = nI 141 from rfl, nI_mulN]
  -- sizes
  have sizes : ∀ (c j : Nat) (g : PH), 14 - j = c → j ≤ 14 → Fr (fun c _ => c = 62) h g → (∀ i, i < 112 → h_i g 62 (141 * as.length + i) = h_i h 18 i) → (∀ i, i < j → h_i g 62 (141 * as.length + 112 + i) = h_i h 19 i) → (∀ i, i < 141 * as.length → h_i g 62 i = h_i h 62 i) → wpx (d + 1) P_Md_keep 91 [.ref 17, .int (nI (141 * as.length)), .int (nI j)] [] g Q := by
    intro c
    induction c with
    | zero =>
      intro j g hj hle hf h1 h2 h3
      have ej : j = 14 := by omega
      subst ej
      have hG := hf.md hM
      refine B_Md_keep_91 (fun _ => ?_) (fun q => absurd (by decide) q)
      refine B_Md_keep_120 hG.1 (mr_kept hG) (ms_kept hG) (by rw [show (126 : Int32) = nI 126 from rfl, nI_add]; exact vp_in_nI (by omega) (by omega)) ?_
      rw [show (126 : Int32) = nI 126 from rfl, nI_add, nI_clamp (by omega), hf.i 17 6 (by decide), hg.2.2.1]
      generalize hh : w_i g 62 (141 * as.length + 126) (nI m) = g1
      have f1 : Fr (fun c _ => c = 62) g g1 := by rw [← hh]; exact Fr.wi _ _ rfl
      have e76 : h_i g1 17 76 = nI as.length := by rw [f1.i 17 76 (by decide), hf.i 17 76 (by decide)]; exact hk.1
      rw [e76, nI_1]
      generalize hh2 : w_i g1 17 76 (nI (as.length + 1)) = g2
      have f2 : Fr (fun c k => c = 17 ∧ k = 76) g1 g2 := by rw [← hh2]; exact Fr.wi _ _ ⟨rfl, rfl⟩
      have hG2 := f2.md (f1.md hG)
      refine md_another hG2 (fun g3 f3 z1 z2 z3 => B_Md_keep_147 ?_)
      have FF : ∀ i, h_i g3 62 i = h_i g1 62 i := fun i => by
        rw [f3.i 62 i (fun q => absurd q.1 (by decide)), f2.i 62 i (fun q => absurd q.1 (by decide))]
      have G1 : ∀ i, i ≠ 141 * as.length + 126 → h_i g1 62 i = h_i g 62 i := fun i hi => by
        rw [← hh, wi_ne _ _ (fun q => hi q.2)]
      refine k g3 ⟨?_, ?_, fun s hs => ?_, fun n s hn => ?_⟩ ?_ z1 z2 z3
      · rw [f3.i 17 76 (by decide), ← hh2, wi_eq, List.length_append]; rfl
      · rw [List.length_append]; show as.length + 1 ≤ 12; omega
      · rcases List.mem_append.mp hs with q | q
        · exact hk.2.2.1 s q
        · rw [List.mem_singleton.mp q]; exact hg.1
      · by_cases e : n = as.length
        · subst e
          rw [List.getElem?_append_right (Nat.le_refl _), Nat.sub_self] at hn
          cases hn
          refine ⟨?_, fun t l ht => ?_⟩
          · rw [FF, ← hh, wi_eq]
          · have t3 := (hg.1.at ht).2.2
            have t7 := (hg.1.at ht).1.2
            refine ⟨?_, fun j x hj => ?_⟩
            · rw [FF, G1 _ (by omega), h2 t (by omega)]
              exact (hg.2.2.2 t l ht).1
            · have hj' := (List.getElem?_eq_some_iff.mp hj).1
              rw [FF, G1 _ (by omega), h1 (8 * t + j) (by omega)]
              exact (hg.2.2.2 t l ht).2 j x hj
        · have hlt := (List.getElem?_eq_some_iff.mp hn).1
          rw [List.length_append] at hlt
          have hlt' : n < as.length := by have : [(gs, m)].length = 1 := rfl; omega
          rw [List.getElem?_append_left hlt'] at hn
          refine KSn.eq (hk.2.2.1 s (List.mem_of_getElem? hn)) (fun i hi => ?_) (hk.2.2.2 n s hn)
          rw [FF, G1 _ (by omega), h3 _ (by omega)]
      · exact (((hf.up (fun c k q => Or.inl q)).tr (f1.up (fun c k q => Or.inl q))).tr (f2.up (fun c k q => Or.inr ⟨q.1, Or.inl q.2⟩))).tr (f3.up (fun c k q => Or.inr ⟨q.1, Or.inr q.2⟩))
    | succ c ih =>
      intro j g hj hle hf h1 h2 h3
      have hG := hf.md hM
      refine B_Md_keep_91 (fun q => ?_) (fun _ => ?_)
      · have := (nI_leI (a := 14) (by omega) (by omega)).mp q
        omega
      · refine B_Md_keep_97 hG.1 (mr_kept hG) (mr_size hG) (ms_size hG) (vp_in_nI (by omega) (by omega)) (ms_kept hG) (by rw [show (112 : Int32) = nI 112 from rfl, nI_add, nI_add]; exact vp_in_nI (by omega) (by omega)) ?_
        rw [show (112 : Int32) = nI 112 from rfl, nI_add, nI_add, nI_clamp (by omega), nI_clamp (by omega), nI_1, hf.i 19 j (by decide)]
        refine ih (j + 1) _ (by omega) (by omega) (hf.tr (Fr.wi _ _ rfl)) (fun i hi => ?_) (fun i hi => ?_) (fun i hi => ?_)
        · rw [wi_ne _ _ (by omega)]; exact h1 i hi
        · by_cases e : i = j
          · subst e; rw [wi_eq]
          · rw [wi_ne _ _ (by omega)]; exact h2 i (by omega)
        · rw [wi_ne _ _ (by omega)]; exact h3 i hi
  have letters : ∀ (c j : Nat) (g : PH), 112 - j = c → j ≤ 112 → Fr (fun c _ => c = 62) h g → (∀ i, i < j → h_i g 62 (141 * as.length + i) = h_i h 18 i) → (∀ i, i < 141 * as.length → h_i g 62 i = h_i h 62 i) → wpx (d + 1) P_Md_keep 63 [.ref 17, .int (nI (141 * as.length)), .int (nI j)] [] g Q := by
    intro c
    induction c with
    | zero =>
      intro j g hj hle hf h1 h3
      have ej : j = 112 := by omega
      subst ej
      refine B_Md_keep_63 (fun _ => B_Md_keep_89 ?_) (fun q => absurd (by decide) q)
      exact sizes _ 0 g rfl (by omega) hf h1 (fun i hi => absurd hi (by omega)) h3
    | succ c ih =>
      intro j g hj hle hf h1 h3
      have hG := hf.md hM
      refine B_Md_keep_63 (fun q => ?_) (fun _ => ?_)
      · have := (nI_leI (a := 112) (by omega) (by omega)).mp q
        omega
      · refine B_Md_keep_69 hG.1 (mr_kept hG) (mr_letters hG) (ms_letters hG) (vp_in_nI (by omega) (by omega)) (ms_kept hG) (by rw [nI_add]; exact vp_in_nI (by omega) (by omega)) ?_
        rw [nI_add, nI_clamp (by omega), nI_clamp (by omega), nI_1, hf.i 18 j (by decide)]
        refine ih (j + 1) _ (by omega) (by omega) (hf.tr (Fr.wi _ _ rfl)) (fun i hi => ?_) (fun i hi => ?_)
        · by_cases e : i = j
          · subst e; rw [wi_eq]
          · rw [wi_ne _ _ (by omega)]; exact h1 i (by omega)
        · rw [wi_ne _ _ (by omega)]; exact h3 i hi
  exact letters _ 0 h rfl (by omega) (Fr.rf _ h) (fun i hi => absurd hi (by omega)) (fun i _ => rfl)
