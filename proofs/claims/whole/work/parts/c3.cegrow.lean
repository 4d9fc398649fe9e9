/-! words on the class's side: one edge more -/
theorem adI.ne {c ct f f' : Nat} {ad : Nat → Nat} (h : adI c ct ad) (hf : f < 9) (hf' : f' < 9) (h4 : f ≠ 4) (h4' : f' ≠ 4) (hn : f ≠ f') : ad f ≠ ad f' := fun e => hn (h.1 f f' hf hf' h4 h4' e)
def CeEd (h : PH) (c : Nat) (ad : Nat → Nat) (E : Nat) (ed : List (Nat × Nat)) : Prop := h_i h c 9 = nI ed.length ∧ (∀ (i : Nat) (q : Nat × Nat), ed[i]? = some q → h_i h (ad 7) i = nI q.1 ∧ h_i h (ad 8) i = nI q.2) ∧ (∀ i, i < E → ∃ x, x < 28 ∧ h_i h (ad 7) i = nI x) ∧ ed.length ≤ E
theorem w_r_ne {g : PH} {c k k' x : Nat} {v : Option Nat} (h : ¬ (x = c ∧ k' = k)) : h_r (w_r g c k v) x k' = h_r g x k' := by rw [h_r_wr, if_neg h]
theorem w_r_eq {g : PH} {c k : Nat} {v : Option Nat} : h_r (w_r g c k v) c k = v := by rw [h_r_wr, if_pos ⟨rfl, rfl⟩]
theorem ce_addEdge {d : Nat} {h : PH} {Q : PQ} {c K M E s t : Nat} {ad : Nat → Nat} {ed : List (Nat × Nat)} (hS : CeS h c ad K M E) (hE : CeEd h c ad E ed) (hs : s < 28) (hE2 : E ≤ 1048576) (h0 : 256 ≤ E) (k : ∀ h' ad' E', CeS h' c ad' K M E' → CeEd h' c ad' E' (ed ++ [(s, t)]) → (∀ f, f ≠ 7 → f ≠ 8 → ad' f = ad f) → (∀ f, ad' f = ad f ∨ h_ct h ≤ ad' f) → ((E' = E ∧ ed.length < E) ∨ (E' = 2 * E ∧ ed.length = E)) → Ge c (fun x k => (x = c ∧ k = 9) ∨ x = ad 7 ∨ x = ad 8) h h' → Acc h h' K M E K M E' → Q none h') : wpm (d + 2) 20 [.ref c, .int (nI s), .int (nI t)] h Q := by
  refine wpm_in P_Ce_addEdge rfl (by decide) (by show ¬ 3 < 3; decide) ?_
  have at48 : ∀ g ad' E', CeS g c ad' K M E' → CeEd g c ad' E' ed → ed.length < E' → E' ≤ 2097152 → (∀ f, f ≠ 7 → f ≠ 8 → ad' f = ad f) → (∀ f, ad' f = ad f ∨ h_ct h ≤ ad' f) → ((E' = E ∧ ed.length < E) ∨ (E' = 2 * E ∧ ed.length = E)) → Ge c (fun x k => (x = c ∧ k = 9) ∨ x = ad 7 ∨ x = ad 8) h g → Acc h g K M E K M E' → wpx (d + 1) P_Ce_addEdge 48 [.ref c, .int (nI s), .int (nI t)] [] g Q := by
    intro g ad' E' gS gE hl hE3 a1 a2 a3 gF gA
    obtain ⟨s0, s1, s2, s3, s4, s5, s6, s7, s8, s9, s10, s11⟩ := gS
    obtain ⟨e0, e1, e2, e3⟩ := gE
    have n78 : ad' 7 ≠ ad' 8 := s9.ne (by omega) (by omega) (by omega) (by omega) (by omega)
    have n7 := (s9.2 7 (by omega) (by omega)).1
    have n8 := (s9.2 8 (by omega) (by omega)).1
    have u1 : h_i (w_i g (ad' 7) ed.length (nI s)) c 9 = nI ed.length := by rw [wi_ne _ _ (fun z => n7 z.1.symm), e0]
    have u2 : h_i (w_i (w_i g (ad' 7) ed.length (nI s)) (ad' 8) ed.length (nI t)) c 9 = nI ed.length := by rw [wi_ne _ _ (fun z => n8 z.1.symm), u1]
    refine B_Ce_addEdge_48 s0 s7.1 s7.2 (by rw [e0]; exact vp_in_nI (by omega) (by omega)) s8.1 s8.2 (by rw [e0, nI_clamp (by omega), t_3 s hs, u1]; exact vp_in_nI (by omega) (by omega)) (B_Ce_addEdge_79 ?_)
    rw [e0, nI_clamp (by omega), t_3 s hs, u1, nI_clamp (by omega), u2, nI_1]
    have F : Fr (fun x k => (x = c ∧ k = 9) ∨ x = ad' 7 ∨ x = ad' 8) g (w_i (w_i (w_i g (ad' 7) ed.length (nI s)) (ad' 8) ed.length (nI t)) c 9 (nI (ed.length + 1))) := ((Fr.wi _ _ (Or.inr (Or.inl rfl))).tr (Fr.wi _ _ (Or.inr (Or.inr rfl)))).tr (Fr.wi _ _ (Or.inl ⟨rfl, rfl⟩))
    refine k _ ad' E' (CeS.fr F ⟨s0, s1, s2, s3, s4, s5, s6, s7, s8, s9, s10, s11⟩) ⟨by rw [wi_eq, List.length_append]; rfl, fun i q hq => ?_, fun i hi => ?_, by rw [List.length_append]; exact hl⟩ a1 a2 a3 (gF.tr F.ge (fun x k hx z => ?_)) (gA.tr (F.acc K M E'))
    · rw [wi_ne _ _ (fun z => n7 z.1), wi_ne _ _ (fun z => n78 z.1), wi_ne _ _ (fun z => n8 z.1)]
      rcases get_snoc hq with ⟨il, hq⟩ | ⟨il, hq⟩
      · rw [wi_ne _ _ (by omega), wi_ne _ _ (by omega), wi_ne _ _ (by omega)]
        exact e1 i q hq
      · subst hq
        rw [il, wi_eq, wi_eq]
        exact ⟨rfl, rfl⟩
    · rw [wi_ne _ _ (fun z => n7 z.1), wi_ne _ _ (fun z => n78 z.1)]
      by_cases y : i = ed.length
      · rw [y, wi_eq]
        exact ⟨s, hs, rfl⟩
      · rw [wi_ne _ _ (fun z => y z.2)]
        exact e2 i hi
    · rcases z with z | z | z
      · exact Or.inl z
      · rcases a2 7 with y | y
        · exact Or.inr (Or.inl (by rw [z, y]))
        · omega
      · rcases a2 8 with y | y
        · exact Or.inr (Or.inr (by rw [z, y]))
        · omega
  obtain ⟨s0, s1, s2, s3, s4, s5, s6, s7, s8, s9, s10, s11⟩ := hS
  have hS : CeS h c ad K M E := ⟨s0, s1, s2, s3, s4, s5, s6, s7, s8, s9, s10, s11⟩
  obtain ⟨e0, e1, e2, e3⟩ := hE
  have en : (Int32.ofNat E) = nI E := rfl
  refine B_Ce_addEdge_0 s0 s8.1 s8.2 (fun z => ?_) (fun z => B_Ce_addEdge_12 s0 s8.1 s8.2 ?_)
  · rw [e0, en, nI_ltI (by omega) (by omega)] at z
    exact at48 h ad E hS ⟨e0, e1, e2, e3⟩ z (by omega) (fun _ _ _ => rfl) (fun _ => Or.inl rfl) (Or.inl ⟨rfl, z⟩) (Ge.rf _ _ _) (Acc.rf _ _ _ _)
  · rw [e0, en, nI_ltI (by omega) (by omega)] at z
    have el : ed.length = E := by omega
    have l7 := s9.2 7 (by omega) (by omega)
    have l8 := s9.2 8 (by omega) (by omega)
    rw [en, show (2 : Int32) = nI 2 from rfl, nI_mulN]
    refine ja_copyI s8.2 l8.2.2 (by omega) (by omega) (fun g1 g1n g1s g1c g1t g1l => ?_)
    have f1 : Ge c (fun x k => (x = c ∧ k = 9) ∨ x = ad 7 ∨ x = ad 8) h (w_r g1 c 8 (some (h_ct h))) := (g1n.ge (c := c)).tr (Ge.wr (W := fun _ _ => False)) (fun _ _ _ z => z.elim)
    have sh1 : ∀ x, x < h_ct h → h_sh (w_r g1 c 8 (some (h_ct h))) x = h_sh h x := f1.2.2.1
    have r1 : ∀ f, f ≠ 8 → h_r (w_r g1 c 8 (some (h_ct h))) c f = h_r h c f := fun f hf => by rw [w_r_ne (fun z => hf z.2), g1n.r s11]
    refine B_Ce_addEdge_27 ((sh1 c s11).symm ▸ s0 : h_sh g1 c = some (0, 1)) ((g1n.2.2 c s11).1.trans s0) ((r1 7 (by omega)).trans s7.1) ((sh1 _ l7.2.2).trans s7.2) ?_
    rw [en, show (2 : Int32) = nI 2 from rfl, nI_mulN]
    have ct1 : h_ct (w_r g1 c 8 (some (h_ct h))) = h_ct h + 1 := g1t
    have sl1 : h_sl (w_r g1 c 8 (some (h_ct h))) = h_sl h + 2 * E := g1l
    have i1 : ∀ x k, x < h_ct h → h_i (w_r g1 c 8 (some (h_ct h))) x k = h_i h x k := fun x k hx => (i_wr ..).trans (g1n.i hx)
    have n1s : h_sh (w_r g1 c 8 (some (h_ct h))) (h_ct h) = some (1, 2 * E) := g1s
    have n1c : ∀ i, i < E → h_i (w_r g1 c 8 (some (h_ct h))) (h_ct h) i = h_i h (ad 8) i := fun i hi => (i_wr ..).trans (g1c i hi)
    have n1r : h_r (w_r g1 c 8 (some (h_ct h))) c 8 = some (h_ct h) := w_r_eq
    generalize w_r g1 c 8 (some (h_ct h)) = g2 at f1 sh1 r1 ct1 sl1 i1 n1s n1c n1r ⊢
    refine ja_copyB (n := E) ((sh1 _ l7.2.2).trans s7.2) (by omega) (by omega) (by omega) (fun i hi => by rw [i1 _ _ l7.2.2]; exact e2 i hi) (fun g3 g3n g3s g3c g3z g3t g3l => ?_)
    refine B_Ce_addEdge_45 ((g3n.2.2 c (by omega)).1.trans ((sh1 c s11).trans s0)) ?_
    have f2 : Ge c (fun x k => (x = c ∧ k = 9) ∨ x = ad 7 ∨ x = ad 8) h (w_r g3 c 7 (some (h_ct g2))) := (f1.tr (g3n.ge (c := c) (W := fun _ _ => False)) (fun _ _ _ z => z.elim)).tr (Ge.wr (W := fun _ _ => False)) (fun _ _ _ z => z.elim)
    have sh2 : ∀ x, x < h_ct h → h_sh (w_r g3 c 7 (some (h_ct g2))) x = h_sh h x := f2.2.2.1
    have r2 : ∀ f, f ≠ 8 → f ≠ 7 → h_r (w_r g3 c 7 (some (h_ct g2))) c f = h_r h c f := fun f hf hf' => by rw [w_r_ne (fun z => hf' z.2), g3n.r (by omega), r1 f hf]
    have r28 : h_r (w_r g3 c 7 (some (h_ct g2))) c 8 = some (h_ct h) := by rw [w_r_ne (by omega), g3n.r (by omega), n1r]
    have r27 : h_r (w_r g3 c 7 (some (h_ct g2))) c 7 = some (h_ct g2) := w_r_eq
    have ct2 : h_ct (w_r g3 c 7 (some (h_ct g2))) = h_ct h + 2 := by show h_ct g3 = _; omega
    have sl2 : h_sl (w_r g3 c 7 (some (h_ct g2))) = h_sl h + 4 * E := by show h_sl g3 = _; omega
    have i2 : ∀ x k, x < h_ct h → h_i (w_r g3 c 7 (some (h_ct g2))) x k = h_i h x k := fun x k hx => (i_wr ..).trans ((g3n.i (by omega)).trans (i1 x k hx))
    have n28 : h_sh (w_r g3 c 7 (some (h_ct g2))) (h_ct h) = some (1, 2 * E) := (g3n.2.2 _ (by omega)).1.trans n1s
    have c28 : ∀ i, i < E → h_i (w_r g3 c 7 (some (h_ct g2))) (h_ct h) i = h_i h (ad 8) i := fun i hi => (i_wr ..).trans ((g3n.i (by omega)).trans (n1c i hi))
    have n27 : h_sh (w_r g3 c 7 (some (h_ct g2))) (h_ct g2) = some (2, 2 * E) := g3s
    have c27 : ∀ i, i < E → h_i (w_r g3 c 7 (some (h_ct g2))) (h_ct g2) i = h_i h (ad 7) i := fun i hi => (i_wr ..).trans ((g3c i hi).trans (i1 _ _ l7.2.2))
    have z27 : ∀ i, E ≤ i → h_i (w_r g3 c 7 (some (h_ct g2))) (h_ct g2) i = 0 := fun i hi => (i_wr ..).trans (g3z i hi)
    rw [ct1] at n27 c27 z27 r27
    rw [ct1]
    rw [ct1] at f2 sh2 r2 r28 ct2 sl2 i2 n28 c28
    generalize w_r g3 c 7 (some (h_ct h + 1)) = g4 at f2 sh2 r2 r27 r28 ct2 sl2 i2 n28 c28 n27 c27 z27 ⊢
    refine at48 g4 (fun f => if f = 8 then h_ct h else if f = 7 then h_ct h + 1 else ad f) (2 * E) ?_ ⟨(i2 c 9 s11).trans e0, fun i q hq => ?_, fun i hi => ?_, by omega⟩ (by omega) (by omega) (fun f h7 h8 => ?_) (fun f => ?_) (Or.inr ⟨rfl, el⟩) f2 ⟨?_, ?_⟩
    · refine ⟨(sh2 c s11).trans s0, ⟨(r2 0 (by omega) (by omega)).trans s1.1, (sh2 _ (s9.2 0 (by omega) (by omega)).2.2).trans s1.2⟩, ⟨(r2 1 (by omega) (by omega)).trans s2.1, (sh2 _ (s9.2 1 (by omega) (by omega)).2.2).trans s2.2⟩, ⟨(r2 2 (by omega) (by omega)).trans s3.1, (sh2 _ (s9.2 2 (by omega) (by omega)).2.2).trans s3.2⟩, ⟨(r2 3 (by omega) (by omega)).trans s4.1, (sh2 _ (s9.2 3 (by omega) (by omega)).2.2).trans s4.2⟩, ⟨(r2 5 (by omega) (by omega)).trans s5.1, (sh2 _ (s9.2 5 (by omega) (by omega)).2.2).trans s5.2⟩, ⟨(r2 6 (by omega) (by omega)).trans s6.1, (sh2 _ (s9.2 6 (by omega) (by omega)).2.2).trans s6.2⟩, ⟨r27, n27⟩, ⟨r28, n28⟩, ⟨fun f f' hf hf' h4 h4' e => ?_, fun f hf h4 => ?_⟩, s10, by omega⟩
      · have b1 := s9.2 f hf h4
        have b2 := s9.2 f' hf' h4'
        have b3 := s9.1 f f' hf hf' h4 h4'
        have e : (if f = 8 then h_ct h else if f = 7 then h_ct h + 1 else ad f) = (if f' = 8 then h_ct h else if f' = 7 then h_ct h + 1 else ad f') := e
        by_cases y1 : f = 8
        · by_cases y2 : f' = 8
          · omega
          · rw [if_pos y1, if_neg y2] at e
            by_cases y3 : f' = 7
            · rw [if_pos y3] at e
              omega
            · rw [if_neg y3] at e
              omega
        · rw [if_neg y1] at e
          by_cases y2 : f' = 8
          · rw [if_pos y2] at e
            by_cases y3 : f = 7
            · rw [if_pos y3] at e
              omega
            · rw [if_neg y3] at e
              omega
          · rw [if_neg y2] at e
            by_cases y3 : f = 7
            · rw [if_pos y3] at e
              by_cases y4 : f' = 7
              · omega
              · rw [if_neg y4] at e
                omega
            · rw [if_neg y3] at e
              by_cases y4 : f' = 7
              · rw [if_pos y4] at e
                omega
              · rw [if_neg y4] at e
                exact b3 e
      · have b1 := s9.2 f hf h4
        show (if f = 8 then h_ct h else if f = 7 then h_ct h + 1 else ad f) ≠ c ∧ 63 ≤ (if f = 8 then h_ct h else if f = 7 then h_ct h + 1 else ad f) ∧ (if f = 8 then h_ct h else if f = 7 then h_ct h + 1 else ad f) < _
        split
        · omega
        · split <;> omega
    · have il := (List.getElem?_eq_some_iff.mp hq).1
      exact ⟨(c27 i (by omega)).trans (e1 i q hq).1, (c28 i (by omega)).trans (e1 i q hq).2⟩
    · by_cases y : i < E
      · obtain ⟨x, x1, x2⟩ := e2 i y
        exact ⟨x, x1, (c27 i y).trans x2⟩
      · exact ⟨0, by omega, z27 i (by omega)⟩
    · show (if f = 8 then h_ct h else if f = 7 then h_ct h + 1 else ad f) = ad f
      rw [if_neg h8, if_neg h7]
    · show (if f = 8 then h_ct h else if f = 7 then h_ct h + 1 else ad f) = ad f ∨ h_ct h ≤ (if f = 8 then h_ct h else if f = 7 then h_ct h + 1 else ad f)
      split
      · exact Or.inr (Nat.le_refl _)
      · split
        · exact Or.inr (by omega)
        · exact Or.inl rfl
    · omega
    · omega
