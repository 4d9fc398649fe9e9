/-! tails on the reference's side: an end into its place -/
theorem sub_le : ∀ a, a < 128 → ∀ b, b < 128 → ((nI a - nI b ≤ 0 ↔ a ≤ b) ∧ (nI a - nI b = 0 ↔ a = b)) := by decide +kernel
theorem swpG {α : Type} {C T : List α} {x y : α} {i : Nat} (h0 : ¬ i = C.length) (h1 : ¬ i = C.length + 1) : (C ++ x :: y :: T)[i]? = (C ++ y :: x :: T)[i]? := by
  by_cases z : i < C.length
  · rw [List.getElem?_append_left z, List.getElem?_append_left z]
  · rw [List.getElem?_append_right (by omega), List.getElem?_append_right (by omega)]
    have e : i - C.length = (i - C.length - 2) + 2 := by omega
    rw [e]
    rfl
theorem mdlG {α : Type} {C T : List α} {x : α} : (C ++ x :: T)[C.length]? = some x := by
  rw [List.getElem?_append_right (Nat.le_refl _), Nat.sub_self]
  rfl
theorem swpG1 {α : Type} {C T : List α} {x y : α} : (C ++ x :: y :: T)[C.length + 1]? = some y := by
  rw [List.getElem?_append_right (by omega), show C.length + 1 - C.length = 1 by omega]
  rfl
def insE (gs : List (List Nat)) : List (Nat × Nat) → Nat × Nat → List (Nat × Nat)
  | [], e => [e]
  | f :: E, e => if kyl (rwE gs f) < kyl (rwE gs e) then f :: insE gs E e else if rwE gs e = rwE gs f then f :: E else e :: f :: E
def Wle (c k : Nat) : Prop := (c = 17 ∧ k = 32) ∨ c = 27 ∨ c = 28 ∨ c = 30
theorem frs_lt {l : List Nat} (h : ∀ x ∈ l, x < 32) : frs l < 128 := by
  cases l with
  | nil => decide
  | cons x l =>
    have := h x (List.mem_cons_self ..)
    show x + 96 < 128
    omega
theorem le_step {d : Nat} {h : PH} {Q : PQ} {gs : List (List Nat)} {m g i : Nat} {E : List (Nat × Nat)} {l : List Nat} {v3 v4 : Value} (hM : MdS h) (hg : MGr h gs m) (hE : MEn h gs E) (hl : gs[g]? = some l) (hi : i < l.length) (h99 : E.length < 100) (k : ∀ h' x3 v4, MEn h' gs (insE gs E (g, i)) → Fr Wle h h' → wpx (d + 3) P_Md_layEnds 159 [.ref 17, .int (nI g), .int (nI i), .int x3, v4] [] h' Q) : wpx (d + 3) P_Md_layEnds 38 [.ref 17, .int (nI g), .int (nI i), v3, v4] [] h Q := by
  have er : rwE gs (g, i) = l.drop i := by
    unfold rwE
    rw [List.getD_eq_getElem?_getD, hl]
    rfl
  obtain ⟨l1, l2, l3⟩ := hg.1.at hl
  have l7 := l1.2
  have okd := l1.drop i
  have agn : ∀ {t : Nat} {f : Nat × Nat}, E[t]? = some f → ∀ {Q' : PQ}, (∀ v : Int32, (v ≤ 0 ↔ ¬ kyl (rwE gs f) < kyl (l.drop i)) → (v = 0 ↔ l.drop i = rwE gs f) → Q' (some (.int v)) h) → wpm (d + 3) 208 [.ref 17, .int (nI g), .int (nI i), .int (nI t)] h Q' := by
    intro t f ht Q' kk
    obtain ⟨l', f1, f2, f3, f4, _, _⟩ := hE.at ht
    obtain ⟨a1, a2, a3⟩ := hg.1.at f1
    have oka := a1.drop f.2
    rw [← f3] at oka
    refine md_against hM hg hE ht hl (by omega) (kk _ ?_ ?_)
    all_goals
      have x1 := frs_lt (l := (l.drop i).drop (cpl (l.drop i) (rwE gs f))) (fun x hx => (okd.in32 x (List.mem_of_mem_drop hx)).2)
      have x2 := frs_lt (l := (rwE gs f).drop (cpl (l.drop i) (rwE gs f))) (fun x hx => (oka.in32 x (List.mem_of_mem_drop hx)).2)
      obtain ⟨s1, s2⟩ := sub_le _ x1 _ x2
      obtain ⟨u1, u2⟩ := ag_lex 7 (l.drop i) (rwE gs f) okd.2 oka.2 okd.in32 oka.in32
    · rw [s1]
      rw [kyw_7, kyw_7] at u2
      rw [← u2]
      omega
    · rw [s2]
      exact u1
  have putIn : ∀ (P R : List (Nat × Nat)) (w4 : Value), P ++ R = E → insE gs E (g, i) = P ++ (g, i) :: R → wpx (d + 3) P_Md_layEnds 85 [.ref 17, .int (nI g), .int (nI i), .int (nI P.length), w4] [] h Q := by
    intro P R w4 eE eI
    have eln : P.length + R.length = E.length := by rw [← eE, List.length_append]
    have shift : ∀ (Rr R2 : List (Nat × Nat)) (h1 : PH), Rr.reverse ++ R2 = R → Fr (fun c _ => c = 27 ∨ c = 28) h h1 → (∀ j f, ¬ j = P.length + Rr.length → (P ++ Rr.reverse ++ (g, i) :: R2)[j]? = some f → h_i h1 27 j = nI f.1 ∧ h_i h1 28 j = nI f.2) → wpx (d + 3) P_Md_layEnds 91 [.ref 17, .int (nI g), .int (nI i), .int (nI P.length), .int (nI (P.length + Rr.length))] [] h1 Q := by
      intro Rr
      induction Rr with
      | nil =>
        intro R2 h1 eR hf hj
        have eR2 : R2 = R := eR
        subst eR2
        have hM1 := hf.md hM
        have vt : vp_in (nI P.length) 100 := vp_in_nI (by omega) (by omega)
        refine B_Md_layEnds_91 (fun _ => B_Md_layEnds_135 hM1.1 (mr_tailGroup hM1) (ms_tailGroup hM1) vt (mr_tailAt hM1) (ms_tailAt hM1) vt ?_) (fun z => absurd (by rw [nI_leI (by show P.length + 0 < _; omega) (by omega)]; exact Nat.le_refl _) z)
        rw [nI_clamp (by omega)]
        have e32 : h_i (w_i (w_i h1 27 P.length (nI g)) 28 P.length (nI i)) 17 32 = nI E.length := by
          rw [wi_ne _ _ (by omega), wi_ne _ _ (by omega), hf.i _ _ (by omega)]
          exact hE.2.1
        rw [e32, nI_1]
        refine k _ _ _ ⟨⟨?_, fun e he => ?_⟩, ?_, fun j f hjf => ?_⟩ ((hf.up (fun c k z => by unfold Wle; omega)).tr ((Fr.wi _ _ (by unfold Wle; omega)).tr ((Fr.wi _ _ (by unfold Wle; omega)).tr (Fr.wi _ _ (by unfold Wle; omega)))))
        · rw [eI, List.length_append, List.length_cons]
          omega
        · rw [eI] at he
          rcases List.mem_append.mp he with u | u
          · exact hE.1.2 e (by rw [← eE]; exact List.mem_append_left _ u)
          · rcases List.mem_cons.mp u with w | w
            · rw [w]
              exact ⟨l, hl, hi⟩
            · exact hE.1.2 e (by rw [← eE]; exact List.mem_append_right _ w)
        · rw [wi_eq, eI, List.length_append, List.length_cons]
          congr 1
          omega
        · rw [eI] at hjf
          by_cases z : j = P.length
          · subst z
            rw [mdlG] at hjf
            have : (g, i) = f := Option.some.inj hjf
            subst this
            refine ⟨?_, ?_⟩
            · rw [wi_ne _ _ (by omega), wi_ne _ _ (by omega), wi_eq]
            · rw [wi_ne _ _ (by omega), wi_eq]
          · rw [wi_ne _ _ (by omega), wi_ne _ _ (by omega), wi_ne _ _ (by omega), wi_ne _ _ (by omega), wi_ne _ _ (by omega), wi_ne _ _ (by omega)]
            exact hj j f (by show ¬ j = P.length + 0; omega) (by show (P ++ [] ++ (g, i) :: R2)[j]? = _; rw [List.append_nil]; exact hjf)
      | cons y Rr ih =>
        intro R2 h1 eR hf hj
        have hM1 := hf.md hM
        have hyl : (y :: Rr).length = Rr.length + 1 := rfl
        have elR : Rr.length + 1 + R2.length = R.length := by
          rw [← eR, List.length_append, List.length_reverse, hyl]
        have erv : P ++ (y :: Rr).reverse ++ (g, i) :: R2 = (P ++ Rr.reverse) ++ y :: (g, i) :: R2 := by
          rw [List.reverse_cons, ← List.append_assoc, List.append_assoc]
          rfl
        have eCl : (P ++ Rr.reverse).length = P.length + Rr.length := by rw [List.length_append, List.length_reverse]
        have ej : nI (P.length + (y :: Rr).length) - (1 : Int32) = nI (P.length + Rr.length) := by
          rw [hyl, ← Nat.add_assoc, show (1 : Int32) = nI 1 from rfl, nI_subN (by omega)]
          rfl
        obtain ⟨y1, y2⟩ := hj (P.length + Rr.length) y (by rw [hyl]; omega) (by rw [erv, ← eCl]; exact mdlG)
        have va : vp_in (nI (P.length + (y :: Rr).length) - (1 : Int32)) 100 := by
          rw [ej]
          exact vp_in_nI (by omega) (by omega)
        have vb : vp_in (nI (P.length + (y :: Rr).length)) 100 := vp_in_nI (by rw [hyl]; omega) (by omega)
        refine B_Md_layEnds_91 (fun z => ?_) (fun _ => B_Md_layEnds_97 hM1.1 (mr_tailGroup hM1) (ms_tailGroup hM1) va vb (mr_tailAt hM1) (ms_tailAt hM1) va vb ?_)
        · rw [nI_leI (by rw [hyl]; omega) (by omega), hyl] at z
          omega
        · rw [nI_dn, ej, nI_clamp (by rw [hyl]; omega), nI_clamp (by omega), y1, wi_ne _ _ (by omega), y2, hyl, ← Nat.add_assoc]
          refine ih (y :: R2) _ (by rw [← eR, List.reverse_cons, List.append_assoc]; rfl) (hf.tr ((Fr.wi _ _ (Or.inl rfl)).tr (Fr.wi _ _ (Or.inr rfl)))) (fun j f hj0 hjf => ?_)
          by_cases z1 : j = P.length + Rr.length + 1
          · subst z1
            have hm := swpG1 (C := P ++ Rr.reverse) (T := R2) (x := (g, i)) (y := y)
            rw [eCl, hjf] at hm
            have : f = y := Option.some.inj hm
            subst this
            refine ⟨?_, wi_eq _ _ _ _⟩
            rw [wi_ne _ _ (by omega), wi_eq]
          · rw [swpG (by rw [eCl]; exact hj0) (by rw [eCl]; exact z1), ← erv] at hjf
            rw [wi_ne _ _ (by omega), wi_ne _ _ (by omega), wi_ne _ _ (by omega), wi_ne _ _ (by omega)]
            exact hj j f (by rw [hyl]; omega) hjf
    refine B_Md_layEnds_85 hM.1 ?_
    rw [hE.2.1]
    have := shift R.reverse [] h (by rw [List.reverse_reverse, List.append_nil]) (Fr.rf _ _) (fun j f hj0 hjf => by
      rw [List.reverse_reverse, eE] at hjf
      rw [List.length_reverse, eln] at hj0
      by_cases z : j < E.length
      · rw [List.getElem?_append_left z] at hjf
        exact hE.2.2 j f hjf
      · rw [List.getElem?_append_right (by omega)] at hjf
        have : j - E.length < 1 := (List.getElem?_eq_some_iff.mp hjf).1
        omega)
    rw [List.length_reverse, eln] at this
    exact this
  have seek : ∀ (R P : List (Nat × Nat)) (w4 : Value), P ++ R = E → insE gs E (g, i) = P ++ insE gs R (g, i) → wpx (d + 3) P_Md_layEnds 40 [.ref 17, .int (nI g), .int (nI i), .int (nI P.length), w4] [] h Q := by
    intro R
    induction R with
    | nil =>
      intro P w4 eE eI
      have eP : P.length = E.length := by rw [← eE, List.append_nil]
      have st : h_i h 17 32 ≤ nI P.length := by
        rw [hE.2.1, nI_leI (by omega) (by omega)]
        omega
      exact B_Md_layEnds_40 hM.1 (fun _ => B_Md_layEnds_64 hM.1 (fun _ => putIn P [] w4 eE eI) (fun z => absurd st z)) (fun z => absurd st z)
    | cons f R ih =>
      intro P w4 eE eI
      have eln : P.length + (R.length + 1) = E.length := by
        rw [← eE, List.length_append]
        rfl
      have hf : E[P.length]? = some f := by rw [← eE]; exact mdlG
      have st : ¬ h_i h 17 32 ≤ nI P.length := by
        rw [hE.2.1, nI_leI (by omega) (by omega)]
        omega
      refine B_Md_layEnds_40 hM.1 (fun z => absurd z st) (fun _ => B_Md_layEnds_48 hM.1 (agn hf (fun v v1 v2 => B_Md_layEnds_55 (fun z => ?_) (fun z => B_Md_layEnds_58 ?_))))
      · have hk := v1.mp z
        refine B_Md_layEnds_64 hM.1 (fun z => absurd z st) (fun _ => B_Md_layEnds_72 hM.1 (agn hf (fun u u1 u2 => B_Md_layEnds_79 (fun y => putIn P (f :: R) w4 eE ?_) (fun y => B_Md_layEnds_82 (k h _ _ ?_ (Fr.rf _ _))))))
        · rw [eI]
          show P ++ (if _ then _ else _) = _
          rw [er, if_neg hk, if_neg (fun w => y (u2.mpr w))]
        · have : insE gs E (g, i) = E := by
            rw [eI]
            show P ++ (if _ then _ else _) = _
            rw [er, if_neg hk, if_pos (u2.mp y)]
            exact eE
          rw [this]
          exact hE
      · rw [nI_1]
        have hk : kyl (rwE gs f) < kyl (l.drop i) := Classical.byContradiction (fun y => z (v1.mpr y))
        have := ih (P ++ [f]) w4 (by rw [List.append_assoc]; exact eE) (by
          rw [eI, List.append_assoc]
          show P ++ (if _ then _ else _) = _
          rw [er, if_pos hk]
          rfl)
        rw [List.length_append] at this
        exact this
  exact B_Md_layEnds_38 (seek E [] v4 rfl rfl)
