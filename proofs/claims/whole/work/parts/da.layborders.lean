/-! borders on the reference's side: all of them, layer by layer -/
def BO (h : PH) (a : Nat) (O : List (List Nat)) : Prop := h_i h 56 a = nI O.length ∧ ∀ k r, O[k]? = some r → h_i h 55 (20000 * a + k) = nI (rcM r)
def BB (h : PH) (B : List (List Nat)) : Prop := h_i h 17 71 = nI B.length ∧ ∀ k r, B[k]? = some r → h_i h 57 k = nI (rcM r)
def Wbm (x k : Nat) : Prop := (55 ≤ x ∧ x ≤ 59) ∨ (x = 17 ∧ k = 71)
theorem BO.fr {W : Nat → Nat → Prop} {h h' : PH} {a : Nat} {O : List (List Nat)} (hf : Fr W h h') (hw : ∀ x k, W x k → ¬ (x = 55 ∨ x = 56)) (hO : BO h a O) : BO h' a O := ⟨by rw [hf.i _ _ (fun z => hw _ _ z (Or.inr rfl))]; exact hO.1, fun k r hk => by rw [hf.i _ _ (fun z => hw _ _ z (Or.inl rfl))]; exact hO.2 k r hk⟩
theorem BB.fr {W : Nat → Nat → Prop} {h h' : PH} {B : List (List Nat)} (hf : Fr W h h') (hw : ∀ x k, W x k → ¬ (x = 57 ∨ (x = 17 ∧ k = 71))) (hB : BB h B) : BB h' B := ⟨by rw [hf.i _ _ (fun z => hw _ _ z (Or.inr ⟨rfl, rfl⟩))]; exact hB.1, fun k r hk => by rw [hf.i _ _ (fun z => hw _ _ z (Or.inl rfl))]; exact hB.2 k r hk⟩
theorem md_puts1 {d a v : Nat} {h : PH} {Q : PQ} {O L B : List (List Nat)} {r : List Nat} (hM : MdS h) (ha : a < 2) (hO : BO h a O) (hL : BO h (1 - a) L) (hB : BB h B) (hOl : O.length < 20000) (hLl : L.length ≤ 20000) (hv : v = rcM r) (k : ∀ h', BO h' a (O ++ [r]) → BO h' (1 - a) L → BB h' B → Fr Wbm h h' → Q none h') : wpm (d + 1) 267 [.ref 17, .int (nI v), .int (nI a), .int 1] h Q := by
  refine wpm_in P_Md_puts rfl (by decide) (by show ¬ 4 < 4; decide) ?_
  have ca : (nI a).toNatClampNeg = a := nI_clamp (by omega)
  have ea : (20000 : Int32) * nI a + nI O.length = nI (20000 * a + O.length) := by rw [show (20000 : Int32) = nI 20000 from rfl, nI_mulN, nI_add]
  refine B_Md_puts_0 (fun z => absurd z (by decide)) (fun _ => B_Md_puts_4 hM.1 (mr_open hM) (mr_openMany hM) (ms_openMany hM) (vp_in_nI (by omega) (by omega)) (ms_open hM) (by rw [ca, hO.1, ea]; exact vp_in_nI (by omega) (by omega)) (B_Md_puts_32 (B_Md_puts_55 ?_)))
  rw [ca, hO.1, ea, nI_clamp (show 20000 * a + O.length < 2 ^ 31 by omega), wi_ne _ _ (by omega), hO.1, nI_1]
  have F1 : Fr Wbm h (w_i h 55 (20000 * a + O.length) (nI v)) := Fr.wi _ _ (Or.inl (by omega))
  refine k _ ⟨?_, fun q x hq => ?_⟩ ⟨?_, fun q x hq => ?_⟩ ⟨?_, fun q x hq => ?_⟩ (F1.tr (Fr.wi _ _ (Or.inl (by omega))))
  · rw [wi_eq, List.length_append]
    rfl
  · rw [wi_ne _ _ (by omega)]
    by_cases y : q = O.length
    · rw [y] at hq ⊢
      rw [List.getElem?_append_right (Nat.le_refl _), Nat.sub_self] at hq
      have : r = x := Option.some.inj hq
      rw [wi_eq, hv, this]
    · have ql := (List.getElem?_eq_some_iff.mp hq).1
      rw [List.length_append] at ql
      have ql' : q < O.length + 1 := ql
      rw [wi_ne _ _ (fun z => y (by omega))]
      rw [List.getElem?_append_left (by omega)] at hq
      exact hO.2 q x hq
  · rw [wi_ne _ _ (by omega), wi_ne _ _ (by omega)]
    exact hL.1
  · have ql := (List.getElem?_eq_some_iff.mp hq).1
    rw [wi_ne _ _ (by omega), wi_ne _ _ (by omega)]
    exact hL.2 q x hq
  · rw [wi_ne _ _ (by omega), wi_ne _ _ (by omega)]
    exact hB.1
  · rw [wi_ne _ _ (by omega), wi_ne _ _ (by omega)]
    exact hB.2 q x hq
theorem md_puts0 {d v : Nat} {h : PH} {Q : PQ} {B : List (List Nat)} {r : List Nat} {x2 : Int32} (hM : MdS h) (hB : BB h B) (hBl : B.length < 20000) (hv : v = rcM r) (k : ∀ h', BB h' (B ++ [r]) → Fr (fun x k => x = 57 ∨ (x = 17 ∧ k = 71)) h h' → Q none h') : wpm (d + 1) 267 [.ref 17, .int (nI v), .int x2, .int 0] h Q := by
  refine wpm_in P_Md_puts rfl (by decide) (by show ¬ 4 < 4; decide) ?_
  refine B_Md_puts_0 (fun _ => B_Md_puts_35 hM.1 (mr_border hM) (ms_border hM) (by rw [hB.1]; exact vp_in_nI (by omega) (by omega)) (B_Md_puts_55 ?_)) (fun z => absurd rfl z)
  rw [hB.1, nI_clamp (show B.length < 2 ^ 31 by omega), wi_ne _ _ (by omega), hB.1, nI_1]
  have F1 : Fr (fun x k => x = 57 ∨ (x = 17 ∧ k = 71)) h (w_i h 57 B.length (nI v)) := Fr.wi _ _ (Or.inl rfl)
  refine k _ ⟨?_, fun q x hq => ?_⟩ (F1.tr (Fr.wi _ _ (Or.inr ⟨rfl, rfl⟩)))
  · rw [wi_eq, List.length_append]
    rfl
  · rw [wi_ne _ _ (by omega)]
    by_cases y : q = B.length
    · rw [y] at hq ⊢
      rw [List.getElem?_append_right (Nat.le_refl _), Nat.sub_self] at hq
      have : r = x := Option.some.inj hq
      rw [wi_eq, hv, this]
    · have ql := (List.getElem?_eq_some_iff.mp hq).1
      rw [List.length_append] at ql
      have ql' : q < B.length + 1 := ql
      rw [wi_ne _ _ (fun z => y z.2)]
      rw [List.getElem?_append_left (by omega)] at hq
      exact hB.2 q x hq
theorem shl_5 : ∀ c, c < 27 → ∀ s, s < 4 → nI c <<< (((5 : Int32) * nI s) &&& 31) = nI (2 ^ (5 * s) * c) := by decide +kernel
theorem rcM_cons (c : Nat) (r : List Nat) : rcM ((c + 1) :: r) = 2 ^ (5 * r.length) * c + rcM r := by
  unfold rcM
  rw [List.map_cons, pkN_cons, List.length_map, Nat.pow_mul]
  show c * 32 ^ r.length + _ = 32 ^ r.length * c + _
  rw [Nat.mul_comm]
theorem rcM_lt {r : List Nat} (h : ∀ x ∈ r, 0 < x ∧ x < 28) : rcM r < 2 ^ (5 * r.length) := by
  have l32 : ∀ x ∈ r.map (fun x => x - 1), x < 32 := fun x hx' => by
    obtain ⟨y, hy, e⟩ := List.mem_map.mp hx'
    have := h y hy
    omega
  have := pkN_lt l32
  rw [List.length_map] at this
  rw [Nat.pow_mul]
  exact this
theorem md_rowcode {c b : Nat} {r : List Nat} (hc : c < 27) (hr : r.length = b) (hb : b < 4) (hx : ∀ x ∈ r, 0 < x ∧ x < 28) : (nI c <<< (((5 : Int32) * (nI (b + 1) - (1 : Int32))) &&& 31)) ||| nI (rcM r) = nI (rcM ((c + 1) :: r)) := by
  have e1 : nI (b + 1) - (1 : Int32) = nI b := by rw [show (1 : Int32) = nI 1 from rfl, nI_subN (by omega)]; rfl
  have lt := rcM_lt hx
  rw [hr] at lt
  have p15 : 2 ^ (5 * b) ≤ 2 ^ 15 := Nat.pow_le_pow_right (by decide) (by omega)
  have p27 : 2 ^ (5 * b) * c ≤ 2 ^ 15 * 27 := Nat.mul_le_mul p15 (by omega)
  rw [e1, shl_5 c hc b hb, nI_orN (by omega) (by omega), rcM_cons, hr, ← Nat.two_pow_add_eq_or_of_lt lt]
theorem md_lbRow {d a b c : Nat} {h : PH} {Q : PQ} {gs : List (List Nat)} {m : Nat} {L O B R TO TB : List (List Nat)} {r : List Nat} {x1 x4 x5 : Int32} (hM : MdS h) (hg : MGr h gs m) (ha : a < 2) (hb : b < 4) (hrl : r.length = b + 1) (hx : ∀ x ∈ r, 0 < x ∧ x < 28) (hO : BO h a O) (hL : BO h (1 - a) L) (hB : BB h B) (hLl : L.length ≤ 20000) (eO : O ++ fltP (fun r => iE gs m r ∧ iW gs m r) (r :: R) = TO) (eB : B ++ fltP (fun r => iE gs m r ∧ ¬ iW gs m r) (r :: R) = TB) (hTO : TO.length ≤ 20000) (hTB : TB.length ≤ 20000) (k : ∀ h' O' B', BO h' a O' → BO h' (1 - a) L → BB h' B' → O' ++ fltP (fun r => iE gs m r ∧ iW gs m r) R = TO → B' ++ fltP (fun r => iE gs m r ∧ ¬ iW gs m r) R = TB → Fr Wbm h h' → wpx (d + 3) P_Md_layBorders 136 [.ref 17, .int x1, .int (nI (b + 1)), .int (nI a), .int x4, .int x5, .int (nI (rcM r))] [] h' Q) : wpm (d + 3) 262 [.ref 17, .int (nI (rcM r)), .int (nI (b + 1))] h (fun rr h' => wpx (d + 3) P_Md_layBorders 110 [.ref 17, .int x1, .int (nI (b + 1)), .int (nI a), .int x4, .int x5, .int (nI (rcM r))] (rr.toList ++ []) h' Q) := by
  refine md_unpack hM hrl (by omega) hx (fun g1 hI1 f1 => ?_)
  have hM1 := f1.md hM
  have hg1 := hg.fr f1 (fun x k z => by omega)
  have F1 : Fr Wbm h g1 := f1.up (fun x k z => Or.inl (by omega))
  have O1 := hO.fr f1 (fun x k z => by omega)
  have L1 := hL.fr f1 (fun x k z => by omega)
  have B1 := hB.fr f1 (fun x k z => by omega)
  refine B_Md_layBorders_110 hM1.1 (md_layEndsOf hM1 hg1 hI1 hrl (by omega) hx (fun g2 hE2 f2' => ?_))
  have hM2 := f2'.md hM1
  have hg2 := hg1.fr f2' (fun x k z => by omega)
  have hI2 : MIt g2 r := fun k x hk => by rw [f2'.i _ _ (by omega)]; exact hI1 k x hk
  have F2 : Fr Wbm h g2 := F1.tr (f2'.up (fun x k z => Or.inl (by omega)))
  have O2 := O1.fr f2' (fun x k z => by omega)
  have L2 := L1.fr f2' (fun x k z => by omega)
  have B2 := B1.fr f2' (fun x k z => by omega)
  have hb1 := hE2 (b + 1) (by omega)
  rw [List.take_of_length_le (by omega)] at hb1
  refine B_Md_layBorders_115 hM2.1 (mr_isEnd hM2) (ms_isEnd hM2) (vp_in_nI (by omega) (by omega)) (fun z => ?_) (fun z => ?_) <;> rw [nI_clamp (by omega)] at z
  · have ne := hb1.t z
    rw [fltP_f (fun w => ne w.1)] at eO eB
    exact k g2 O B O2 L2 B2 eO eB F2
  · have ye := hb1.f z
    refine B_Md_layBorders_124 hM2.1 (md_isWithin hM2 hg2 hI2 hE2 hrl (by omega) hx (fun hw => B_Md_layBorders_133 hM2.1 ?_) (fun hw => B_Md_layBorders_133 hM2.1 ?_))
    · rw [fltP_t ⟨ye, hw⟩] at eO
      rw [fltP_f (fun w => w.2 hw)] at eB
      have ol := congrArg List.length eO
      rw [List.length_append, List.length_cons] at ol
      exact md_puts1 hM2 ha O2 L2 B2 (by omega) hLl rfl (fun g3 O3 L3 B3 f3 => k g3 _ B O3 L3 B3 (by rw [List.append_assoc]; exact eO) eB (F2.tr f3))
    · rw [fltP_f (fun w => hw w.2)] at eO
      rw [fltP_t ⟨ye, hw⟩] at eB
      have ol := congrArg List.length eB
      rw [List.length_append, List.length_cons] at ol
      exact md_puts0 hM2 B2 (by omega) rfl (fun g3 B3 f3 => k g3 O _ (O2.fr f3 (fun x k z => by omega)) (L2.fr f3 (fun x k z => by omega)) B3 eO (by rw [List.append_assoc]; exact eB) (F2.tr (f3.up (fun x k z => by unfold Wbm; omega))))
