/-! THE CLASS: acts that are kept, and groups left out -/
theorem h_i_wri (h : PH) (c : Nat) (g : Nat → Int32) (c' k : Nat) : h_i (w_ri h c g) c' k = if c' = c then g k else h_i h c' k := by
  show upr (h_i h) c g c' k = _
  unfold upr
  split <;> rfl
theorem wri_eq (h : PH) (c : Nat) (g : Nat → Int32) (k : Nat) : h_i (w_ri h c g) c k = g k := by rw [h_i_wri, if_pos rfl]
theorem wri_ne (h : PH) {c c' : Nat} (g : Nat → Int32) (hn : c' ≠ c) (k : Nat) : h_i (w_ri h c g) c' k = h_i h c' k := by rw [h_i_wri, if_neg hn]
theorem Fr.wri {W : Nat → Nat → Prop} (h : PH) {c : Nat} (g : Nat → Int32) (hw : ∀ k, W c k) : Fr W h (w_ri h c g) := ⟨rfl, rfl, rfl, rfl, rfl, fun c' k' hn => ⟨wri_ne h g (fun q => hn (by rw [q]; exact hw k')) k', rfl⟩⟩
theorem cpy1 (f : Nat → Int32) (k : Nat) (hk : k < 11) : va_cpy f f 1 0 11 k = f (1 + k) := by
  unfold va_cpy
  rw [if_pos (by omega)]
  congr 1
theorem Fr.gr {W : Nat → Nat → Prop} {h h' : PH} (a : Fr W h h') {o : Nat} (hs : GrS h o) : GrS h' o := by
  unfold GrS
  rw [a.1, a.2.1]
  exact hs
/-- acts of the class: ways and sets, the oldest first -/
def CAc (h : PH) (o : Nat) (ac : List (Int32 × Int32)) : Prop := h_i h o 9 = nI ac.length ∧ ac.length ≤ 12 ∧ ∀ n w, ac[n]? = some w → h_i h (o + 4) n = w.1 ∧ h_i h (o + 5) n = w.2
def acd (ac : List (Int32 × Int32)) : List (Int32 × Int32) := if ac.length = 12 then ac.drop 1 else ac
def Wac (o c k : Nat) : Prop := c = o + 4 ∨ c = o + 5 ∨ (c = o ∧ k = 9)
theorem gr_push {d : Nat} {h : PH} {Q : PQ} {o : Nat} {ac : List (Int32 × Int32)} {x y : Int32} (hs : GrS h o) (hc : CAc h o ac) (hl : ac.length < 12) (k : ∀ h', CAc h' o (ac ++ [(x, y)]) → Fr (Wac o) h h' → wpx d P_Gr_act 75 [.ref o, .int x, .int y] [] h' Q) : wpx d P_Gr_act 45 [.ref o, .int x, .int y] [] h Q := by
  have e9 : h_i (w_i h (o + 4) (h_i h o 9).toNatClampNeg x) o 9 = nI ac.length := by rw [wi_ne _ _ (by omega)]; exact hc.1
  refine B_Gr_act_45 hs.1 hs.2.2.2.2.1.1 hs.2.2.2.2.1.2 (by rw [hc.1]; exact vp_in_nI hl (by omega)) hs.2.2.2.2.2.1 hs.2.2.2.2.2.2 (by rw [e9]; exact vp_in_nI hl (by omega)) ?_
  rw [e9]
  rw [hc.1, nI_clamp (by omega), wi_ne _ _ (by omega), wi_ne _ _ (by omega), hc.1, nI_1]
  refine k _ ⟨?_, ?_, fun n w hn => ?_⟩ ?_
  · rw [wi_eq, List.length_append]; rfl
  · rw [List.length_append]; show ac.length + 1 ≤ 12; omega
  · rw [wi_ne _ _ (by omega), wi_ne _ _ (by omega)]
    by_cases e : n = ac.length
    · subst e
      rw [List.getElem?_append_right (Nat.le_refl _), Nat.sub_self] at hn
      cases hn
      exact ⟨by rw [wi_eq], by rw [wi_ne _ _ (by omega), wi_eq]⟩
    · have hlt := (List.getElem?_eq_some_iff.mp hn).1
      rw [List.length_append] at hlt
      have hlt' : n < ac.length := by have : [(x, y)].length = 1 := rfl; omega
      rw [List.getElem?_append_left hlt'] at hn
      obtain ⟨p1, p2⟩ := hc.2.2 n w hn
      exact ⟨by rw [wi_ne _ _ (by omega)]; exact p1, by rw [wi_ne _ _ (by omega), wi_ne _ _ (by omega), wi_ne _ _ (by omega)]; exact p2⟩
  · exact ((Fr.wi h _ (Or.inl rfl)).tr (Fr.wi _ _ (Or.inr (Or.inl rfl)))).tr (Fr.wi _ _ (Or.inr (Or.inr ⟨rfl, rfl⟩)))
/-- what an act keeps, before it changes the groups -/
theorem gr_act {d : Nat} {h : PH} {Q : PQ} {o : Nat} {ac : List (Int32 × Int32)} {x y : Int32} (hs : GrS h o) (hc : CAc h o ac) (k : ∀ h', CAc h' o (acd ac ++ [(x, y)]) → Fr (Wac o) h h' → wpm d 40 [.ref o, .int x, .int y] h' (fun r h2 => r = none ∧ Q none h2)) : wpm (d + 1) 38 [.ref o, .int x, .int y] h Q := by
  refine wpm_in P_Gr_act rfl (by decide) (by show ¬ 3 < 3; decide) ?_
  have h12 := hc.2.1
  have fin : ∀ (h1 : PH) (a' : List (Int32 × Int32)), a' = acd ac → GrS h1 o → CAc h1 o a' → a'.length < 12 → Fr (Wac o) h h1 → wpx d P_Gr_act 45 [.ref o, .int x, .int y] [] h1 Q := by
    intro h1 a' ea hs1 hc1 hl f1
    refine gr_push hs1 hc1 hl (fun h' hc' f' => B_Gr_act_75 (f'.gr hs1).1 ?_)
    rw [ea] at hc'
    refine (k h' hc' (f1.tr f')).mono (fun r h2 hq => ?_)
    obtain ⟨rfl, hq⟩ := hq
    exact B_Gr_act_81 hq
  refine B_Gr_act_0 hs.1 (fun q => ?_) (fun q => ?_)
  · rw [hc.1] at q
    have q' := (nI_ltI (b := 12) (by omega) (by omega)).mp q
    refine fin h ac ?_ hs hc q' (Fr.rf _ h)
    unfold acd
    rw [if_neg (by omega)]
  · rw [hc.1] at q
    have q' : ac.length = 12 := by
      by_cases e : ac.length = 12
      · exact e
      · exact absurd (nI_lt (b := 12) (by omega) (by omega)) q
    refine B_Gr_act_9 hs.1 hs.2.2.2.2.1.1 hs.2.2.2.2.1.2 (by decide) hs.2.2.2.2.2.1 hs.2.2.2.2.2.2 (by decide) ?_
    have ff : Fr (Wac o) h (w_i (w_ri (w_ri h (o + 4) (va_cpy (h_i h (o + 4)) (h_i h (o + 4)) 1 0 11)) (o + 5) (va_cpy (h_i (w_ri h (o + 4) (va_cpy (h_i h (o + 4)) (h_i h (o + 4)) 1 0 11)) (o + 5)) (h_i (w_ri h (o + 4) (va_cpy (h_i h (o + 4)) (h_i h (o + 4)) 1 0 11)) (o + 5)) 1 0 11)) o 9 11) := ((Fr.wri h _ (fun _ => Or.inl rfl)).tr (Fr.wri _ _ (fun _ => Or.inr (Or.inl rfl)))).tr (Fr.wi _ _ (Or.inr (Or.inr ⟨rfl, rfl⟩)))
    refine fin _ (acd ac) rfl (ff.gr hs) ?_ ?_ ff
    · unfold acd
      rw [if_pos q']
      refine ⟨?_, ?_, fun n w hn => ?_⟩
      · rw [wi_eq, List.length_drop, q']; rfl
      · rw [List.length_drop]; omega
      · rw [List.getElem?_drop] at hn
        have hlt := (List.getElem?_eq_some_iff.mp hn).1
        obtain ⟨p1, p2⟩ := hc.2.2 (1 + n) w hn
        refine ⟨?_, ?_⟩
        · rw [wi_ne _ _ (by omega), wri_ne _ _ (by omega), wri_eq, cpy1 _ n (by omega)]; exact p1
        · rw [wi_ne _ _ (by omega), wri_eq, cpy1 _ n (by omega), wri_ne _ _ (by omega)]; exact p2
    · unfold acd
      rw [if_pos q', List.length_drop]; omega
