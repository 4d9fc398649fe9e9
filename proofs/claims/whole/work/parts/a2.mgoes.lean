/-! tails on the reference's side: from one round to the next -/
def goS (tl : Nat → Nat → Int32) (r t g : Nat) (s : List Nat × Int32) : List Nat × Int32 := (if ¬ tl t g < 0 ∧ s.1.getD (tl t g).toNatClampNeg 0 = 0 then s.1.set (tl t g).toNatClampNeg (r + 1) else s.1, if tl t g = -2 ∧ s.2 < 0 then nI r else s.2)
def goG (tl : Nat → Nat → Int32) (r t : Nat) : Nat → Nat → List Nat × Int32 → List Nat × Int32
  | 0, _, s => s
  | e + 1, g, s => if s.1.getD t 0 = r then goG tl r t e (g + 1) (goS tl r t g s) else s
def goT (tl : Nat → Nat → Int32) (r n : Nat) : Nat → Nat → List Nat × Int32 → List Nat × Int32
  | 0, _, s => s
  | e + 1, t, s => goT tl r n e (t + 1) (goG tl r t n 0 s)
def CRo (h : PH) (s : List Nat × Int32) : Prop := (∀ (t x : Nat), s.1[t]? = some x → x < 2 ^ 30 ∧ h_i h 29 t = nI x) ∧ h_i h 17 34 = s.2
def okL (N : Nat) (v : Int32) : Prop := v = -2 ∨ v = -1 ∨ ∃ u, u < N ∧ v = nI u
def Wgo (c k : Nat) : Prop := c = 29 ∨ (c = 17 ∧ k = 34)
theorem goS_len {tl : Nat → Nat → Int32} {r t g : Nat} {s : List Nat × Int32} : (goS tl r t g s).1.length = s.1.length := by
  unfold goS
  by_cases z : ¬ tl t g < 0 ∧ s.1.getD (tl t g).toNatClampNeg 0 = 0
  · rw [if_pos z, List.length_set]
  · rw [if_neg z]
theorem goG_len {tl : Nat → Nat → Int32} {r t : Nat} : ∀ (e g : Nat) (s : List Nat × Int32), (goG tl r t e g s).1.length = s.1.length
  | 0, _, _ => rfl
  | e + 1, g, s => by
    unfold goG
    by_cases z : s.1.getD t 0 = r
    · rw [if_pos z, goG_len e (g + 1), goS_len]
    · rw [if_neg z]
theorem md_goesOn {d : Nat} {h : PH} {Q : PQ} {n N r : Nat} {tl : Nat → Nat → Int32} {s : List Nat × Int32} (hM : MdS h) (hn : h_i h 17 4 = nI n) (n14 : n ≤ 14) (hN : h_i h 17 32 = nI N) (N100 : N ≤ 100) (htl : ∀ t g, t < N → g < n → h_i h 31 (14 * t + g) = tl t g ∧ okL N (tl t g)) (hs : CRo h s) (hl : s.1.length = N) (hr : r < 1000) (k : ∀ h', CRo h' (goT tl r n N 0 s) → Fr Wgo h h' → Q none h') : wpm (d + 1) 212 [.ref 17, .int (nI r)] h Q := by
  refine wpm_in P_Md_goesOn rfl (by decide) (by show ¬ 5 < 2; decide) (B_Md_goesOn_0 ?_)
  have inner : ∀ (t : Nat), t < N → ∀ (e g : Nat) (h1 : PH) (s1 : List Nat × Int32) (v4 : Value), n - g = e → g ≤ n → Fr Wgo h h1 → CRo h1 s1 → s1.1.length = N → (∀ h2 x3 v4, Fr Wgo h h2 → CRo h2 (goG tl r t e g s1) → wpx d P_Md_goesOn 93 [.ref 17, .int (nI r), .int (nI t), .int x3, v4] [] h2 Q) → wpx d P_Md_goesOn 12 [.ref 17, .int (nI r), .int (nI t), .int (nI g), v4] [] h1 Q := by
    intro t ht e
    have vt : vp_in (nI t) 100 := vp_in_nI (by omega) (by omega)
    induction e with
    | zero =>
      intro g h1 s1 v4 he hg hf hc hl1 kk
      refine B_Md_goesOn_12 (hf.md hM).1 (fun _ => kk h1 _ _ hf hc) (fun z => ?_)
      rw [hf.i _ _ (by unfold Wgo; omega), hn, nI_leI (by omega) (by omega)] at z
      omega
    | succ e ih =>
      intro g h1 s1 v4 he hg hf hc hl1 kk
      have hM1 := hf.md hM
      obtain ⟨t1, t2⟩ := htl t g ht (by omega)
      have hto : h_i h1 31 (14 * t + g) = tl t g := (hf.i _ _ (by unfold Wgo; omega)).trans t1
      have gx : s1.1[t]? = some s1.1[t] := List.getElem?_eq_getElem (by omega)
      obtain ⟨x1, x2⟩ := hc.1 t _ gx
      have ex : s1.1.getD t 0 = s1.1[t] := by rw [List.getD_eq_getElem?_getD, gx]; rfl
      refine B_Md_goesOn_12 hM1.1 (fun z => ?_) (fun _ => B_Md_goesOn_20 hM1.1 (mr_roundOf hM1) (ms_roundOf hM1) vt (fun z => kk h1 _ _ hf ?_) (fun z => ?_))
      · rw [hf.i _ _ (by unfold Wgo; omega), hn, nI_leI (by omega) (by omega)] at z
        omega
      · rw [nI_clamp (by omega), x2, nI_eq (by omega) (by omega)] at z
        have : goG tl r t (e + 1) g s1 = s1 := if_neg (by rw [ex]; exact z)
        rw [this]
        exact hc
      · rw [nI_clamp (by omega), x2, nI_eq (by omega) (by omega)] at z
        have eG : goG tl r t (e + 1) g s1 = goG tl r t e (g + 1) (goS tl r t g s1) := if_pos (by rw [ex]; exact z)
        have e14 : ((14 : Int32) * nI t) + nI g = nI (14 * t + g) := by rw [show (14 : Int32) = nI 14 from rfl, nI_mulN, nI_add]
        have nx : ∀ h2, Fr Wgo h h2 → CRo h2 (goS tl r t g s1) → wpx d P_Md_goesOn 87 [.ref 17, .int (nI r), .int (nI t), .int (nI g), .int (tl t g)] [] h2 Q := fun h2 f2 c2 => by
          refine B_Md_goesOn_87 ?_
          rw [nI_1]
          refine ih (g + 1) h2 _ _ (by omega) (by omega) f2 c2 (goS_len.trans hl1) (fun h3 x3 w4 f3 c3 => kk h3 x3 w4 f3 ?_)
          rw [eG]
          exact c3
        -- behind the doubt
        have at62 : ∀ h2, Fr Wgo h h2 → (∀ (t x : Nat), s1.1[t]? = some x → x < 2 ^ 30 ∧ h_i h2 29 t = nI x) → h_i h2 17 34 = (goS tl r t g s1).2 → wpx d P_Md_goesOn 62 [.ref 17, .int (nI r), .int (nI t), .int (nI g), .int (tl t g)] [] h2 Q := fun h2 f2 c2 d2 => by
          have hM2 := f2.md hM
          refine B_Md_goesOn_62 (fun y => nx h2 f2 ⟨?_, d2⟩) (fun y => ?_)
          · have : (goS tl r t g s1).1 = s1.1 := if_neg (fun w => w.1 y)
            rw [this]
            exact c2
          · rcases t2 with w | w | ⟨u, u1, u2⟩
            · rw [w] at y
              exact absurd (by decide) y
            · rw [w] at y
              exact absurd (by decide) y
            · have gu : s1.1[u]? = some s1.1[u] := List.getElem?_eq_getElem (by omega)
              obtain ⟨y1, y2⟩ := c2 u _ gu
              have eu : s1.1.getD u 0 = s1.1[u] := by rw [List.getD_eq_getElem?_getD, gu]; rfl
              have vu : vp_in (tl t g) 100 := by
                rw [u2]
                exact vp_in_nI (by omega) (by omega)
              have cu : (tl t g).toNatClampNeg = u := by rw [u2, nI_clamp (by omega)]
              refine B_Md_goesOn_67 hM2.1 (mr_roundOf hM2) (ms_roundOf hM2) vu (fun q => nx h2 f2 ⟨?_, d2⟩) (fun q => B_Md_goesOn_77 hM2.1 (mr_roundOf hM2) (ms_roundOf hM2) vu ?_)
              · rw [cu, y2, show (0 : Int32) = nI 0 from rfl, nI_eq (by omega) (by omega)] at q
                have : (goS tl r t g s1).1 = s1.1 := if_neg (fun w => q (by have := w.2; rw [cu, eu] at this; exact this))
                rw [this]
                exact c2
              · rw [cu, y2, show (0 : Int32) = nI 0 from rfl, nI_eq (by omega) (by omega)] at q
                have e1 : (goS tl r t g s1).1 = s1.1.set u (r + 1) := by
                  have : (goS tl r t g s1).1 = s1.1.set (tl t g).toNatClampNeg (r + 1) := if_pos ⟨y, by rw [cu, eu]; exact q⟩
                  rw [this, cu]
                rw [cu, nI_1]
                refine nx _ (f2.tr (Fr.wi _ _ (Or.inl rfl))) ⟨fun i x hx => ?_, (wi_ne _ _ (by omega)).trans d2⟩
                rw [e1, List.getElem?_set] at hx
                by_cases w : u = i
                · subst w
                  rw [if_pos rfl, if_pos (by omega)] at hx
                  have : r + 1 = x := Option.some.inj hx
                  subst this
                  exact ⟨by omega, wi_eq _ _ _ _⟩
                · rw [if_neg w] at hx
                  exact ⟨(c2 i x hx).1, (wi_ne _ _ (by omega)).trans (c2 i x hx).2⟩
        refine B_Md_goesOn_30 hM1.1 (mr_toTail hM1) (ms_toTail hM1) (by rw [e14]; exact vp_in_nI (by omega) (by omega)) (fun y => ?_) (fun y => ?_)
        · rw [e14, nI_clamp (by omega), hto] at y ⊢
          refine at62 h1 hf hc.1 (hc.2.trans ?_)
          exact (if_neg (fun w => y w.1)).symm
        · rw [e14, nI_clamp (by omega), hto] at y ⊢
          refine B_Md_goesOn_50 hM1.1 (fun w => at62 h1 hf hc.1 (hc.2.trans ?_)) (fun w => B_Md_goesOn_57 hM1.1 (at62 _ (hf.tr (Fr.wi _ _ (Or.inr ⟨rfl, rfl⟩))) (fun i x hx => ⟨(hc.1 i x hx).1, (wi_ne _ _ (by omega)).trans (hc.1 i x hx).2⟩) ?_))
          · rw [hc.2] at w
            exact (if_neg (fun q => absurd q.2 (Int32.not_lt.mpr w))).symm
          · rw [hc.2] at w
            rw [wi_eq]
            exact (if_pos ⟨y, Int32.not_le.mp w⟩).symm
  have outer : ∀ (e t : Nat) (h1 : PH) (s1 : List Nat × Int32) (v3 v4 : Value), N - t = e → t ≤ N → Fr Wgo h h1 → CRo h1 s1 → s1.1.length = N → (∀ h', CRo h' (goT tl r n e t s1) → Fr Wgo h h' → Q none h') → wpx d P_Md_goesOn 2 [.ref 17, .int (nI r), .int (nI t), v3, v4] [] h1 Q := by
    intro e
    induction e with
    | zero =>
      intro t h1 s1 v3 v4 he ht hf hc hl1 kk
      refine B_Md_goesOn_2 (hf.md hM).1 (fun _ => B_Md_goesOn_99 (kk h1 hc hf)) (fun z => ?_)
      rw [hf.i _ _ (by unfold Wgo; omega), hN, nI_leI (by omega) (by omega)] at z
      omega
    | succ e ih =>
      intro t h1 s1 v3 v4 he ht hf hc hl1 kk
      refine B_Md_goesOn_2 (hf.md hM).1 (fun z => ?_) (fun _ => B_Md_goesOn_10 (inner t (by omega) n 0 h1 s1 v4 rfl (Nat.zero_le _) hf hc hl1 (fun h2 x3 w4 f2 c2 => B_Md_goesOn_93 ?_)))
      · rw [hf.i _ _ (by unfold Wgo; omega), hN, nI_leI (by omega) (by omega)] at z
        omega
      · rw [nI_1]
        exact ih (t + 1) h2 _ _ _ (by omega) (by omega) f2 c2 ((goG_len n 0 s1).trans hl1) kk
  exact outer N 0 h s _ _ rfl (Nat.zero_le _) (Fr.rf _ _) hs hl k
