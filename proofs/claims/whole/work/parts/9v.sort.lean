/-! tails on the class's side: a round in the order of the dictionary; doubt -/
def kyl (l : List Nat) : Nat := pkN l * 32 ^ (7 - l.length)
theorem kyl_lt {l : List Nat} (hl : okr l) : kyl l < 2 ^ 35 := by
  have h1 := pkN_lt hl.lt
  have h7 := hl.2
  unfold kyl
  have h2 : pkN l * 32 ^ (7 - l.length) < 32 ^ l.length * 32 ^ (7 - l.length) := Nat.mul_lt_mul_of_pos_right h1 (Nat.pow_pos (by decide))
  rw [← Nat.pow_add, show l.length + (7 - l.length) = 7 by omega] at h2
  exact h2
theorem lgc_le {a b : Nat} (ha : a < 2 ^ 63) (hb : b < 2 ^ 63) : lg_cmp (lN a) (lN b) ≤ 0 ↔ a ≤ b := by
  unfold lg_cmp
  by_cases h1 : lN b < lN a
  · rw [if_pos (show lN a > lN b from h1)]
    have := (lN_ltI hb ha).mp h1
    exact ⟨fun z => absurd z (by decide), fun z => by omega⟩
  · rw [if_neg (show ¬ lN a > lN b from h1)]
    have h2 : ¬ b < a := fun z => h1 ((lN_ltI hb ha).mpr z)
    by_cases h3 : lN a = lN b
    · rw [if_pos h3]
      exact ⟨fun _ => by omega, fun _ => by decide⟩
    · rw [if_neg h3]
      exact ⟨fun _ => by omega, fun _ => by decide⟩
/-- a tail into its place: those ahead of it (the last one first), those behind it -/
def insV (x : List Nat × Nat) : TL → TL → TL
  | [], S => x :: S
  | y :: P, S => if kyl y.1 ≤ kyl x.1 then (y :: P).reverse ++ x :: S else insV x P (y :: S)
def srtF : TL → TL → TL
  | L, [] => L
  | L, x :: R => srtF (insV x L.reverse []) R
theorem insV_perm {x : List Nat × Nat} : ∀ (P S : TL), (insV x P S).Perm (x :: (P.reverse ++ S))
  | [], S => List.Perm.refl _
  | y :: P, S => by
    unfold insV
    by_cases z : kyl y.1 ≤ kyl x.1
    · rw [if_pos z]
      exact List.perm_middle
    · rw [if_neg z]
      refine (insV_perm P (y :: S)).trans (List.Perm.cons _ ?_)
      rw [List.reverse_cons, List.append_assoc]
      exact List.Perm.refl _
theorem srtF_perm : ∀ (R L : TL), (srtF L R).Perm (L ++ R)
  | [], L => by
    rw [List.append_nil]
    exact List.Perm.refl _
  | x :: R, L => by
    refine (srtF_perm R _).trans ?_
    have h1 := insV_perm (x := x) L.reverse []
    rw [List.reverse_reverse, List.append_nil] at h1
    exact (List.Perm.append_right R h1).trans List.perm_middle.symm
def AtT (h : PH) (b i : Nat) (t : List Nat × Nat) : Prop := h_l h (b + 1) i = pk t.1 ∧ h_i h (b + 2) i = nI t.1.length ∧ h_i h (b + 3) i = nI t.2
theorem swpL {C T : TL} {x y : List Nat × Nat} {i : Nat} (h0 : ¬ i = C.length) (h1 : ¬ i = C.length + 1) : (C ++ x :: y :: T)[i]? = (C ++ y :: x :: T)[i]? := by
  by_cases z : i < C.length
  · rw [List.getElem?_append_left z, List.getElem?_append_left z]
  · rw [List.getElem?_append_right (by omega), List.getElem?_append_right (by omega)]
    have e : i - C.length = (i - C.length - 2) + 2 := by omega
    rw [e]
    rfl
theorem swp1 {C T : TL} {x y : List Nat × Nat} : (C ++ x :: y :: T)[C.length + 1]? = some y := by
  rw [List.getElem?_append_right (by omega), show C.length + 1 - C.length = 1 by omega]
  rfl
theorem mdlL {C T : TL} {x : List Nat × Nat} : (C ++ x :: T)[C.length]? = some x := by
  rw [List.getElem?_append_right (Nat.le_refl _), Nat.sub_self]
  rfl
theorem ta_sort {d : Nat} {h : PH} {Q : PQ} {b : Nat} {A B : TL} (hT : TaS h b) (hc : CTa h b (A ++ B)) (hB : B ≠ []) (k : ∀ h', CTa h' b (A ++ srtF [] B) → Fr (WtailR b) h h' → Q none h') : wpm (d + 2) 74 [.ref b, .int (nI A.length), .int (nI (A.length + B.length))] h Q := by
  refine wpm_in P_Ta_sortAsInDictionary rfl (by decide) (by show ¬ 9 < 3; decide) (B_Ta_sortAsInDictionary_0 ?_)
  have h98 := hc.1.1
  rw [List.length_append] at h98
  have stepE : ∀ (g g1 : PH) (j : Nat) (v1 : Int64) (v2 v3 : Int32), g1 = w_i (w_i (w_l g (b + 1) j v1) (b + 2) j v2) (b + 3) j v3 → (∀ i, ¬ i = j → h_l g1 (b + 1) i = h_l g (b + 1) i ∧ h_i g1 (b + 2) i = h_i g (b + 2) i ∧ h_i g1 (b + 3) i = h_i g (b + 3) i) ∧ (h_l g1 (b + 1) j = v1 ∧ h_i g1 (b + 2) j = v2 ∧ h_i g1 (b + 3) j = v3) ∧ Fr (fun c _ => b < c ∧ c ≤ b + 3) g g1 := fun g g1 j v1 v2 v3 e => by
    subst e
    refine ⟨fun i hi => ⟨wl_ne _ _ (by omega), ?_, ?_⟩, ⟨wl_eq _ _ _ _, ?_, wi_eq _ _ _ _⟩, (Fr.wl g _ (by omega)).tr ((Fr.wi _ _ (by omega)).tr (Fr.wi _ _ (by omega)))⟩
    · rw [wi_ne _ _ (by omega), wi_ne _ _ (by omega)]
      rfl
    · rw [wi_ne _ _ (by omega), wi_ne _ _ (by omega)]
      rfl
    · rw [wi_ne _ _ (by omega), wi_eq]
  have inner : ∀ (A' : Nat) (x : List Nat × Nat) (R : TL), okr x.1 → ∀ (P S : TL) (g : PH), A.length + P.length + 1 + S.length + R.length ≤ 98 → (∀ t ∈ A ++ P.reverse ++ x :: (S ++ R), okr t.1) → Fr (fun c _ => b < c ∧ c ≤ b + 3) h g → (∀ i t, ¬ i = A.length + P.length → (A ++ P.reverse ++ x :: (S ++ R))[i]? = some t → AtT g b i t) → (∀ g' v8, Fr (fun c _ => b < c ∧ c ≤ b + 3) h g' → (∀ i t, (A ++ insV x P S ++ R)[i]? = some t → AtT g' b i t) → wpx (d + 1) P_Ta_sortAsInDictionary 4 [.ref b, .int (nI A.length), .int (nI (A.length + B.length)), .int (nI (A' + 1)), .long (pk x.1), .retAddr 2, .int (nI x.1.length), .int (nI x.2), v8] [] g' Q) → wpx (d + 1) P_Ta_sortAsInDictionary 38 [.ref b, .int (nI A.length), .int (nI (A.length + B.length)), .int (nI A'), .long (pk x.1), .retAddr 2, .int (nI x.1.length), .int (nI x.2), .int (nI (A.length + P.length) - (1 : Int32))] [] g Q := by
    intro A' x R hx P
    have put : ∀ (P S : TL) (g : PH), A.length + P.length + 1 + S.length + R.length ≤ 98 → Fr (fun c _ => b < c ∧ c ≤ b + 3) h g → (∀ i t, ¬ i = A.length + P.length → (A ++ P.reverse ++ x :: (S ++ R))[i]? = some t → AtT g b i t) → insV x P S = P.reverse ++ x :: S → (∀ g' v8, Fr (fun c _ => b < c ∧ c ≤ b + 3) h g' → (∀ i t, (A ++ insV x P S ++ R)[i]? = some t → AtT g' b i t) → wpx (d + 1) P_Ta_sortAsInDictionary 4 [.ref b, .int (nI A.length), .int (nI (A.length + B.length)), .int (nI (A' + 1)), .long (pk x.1), .retAddr 2, .int (nI x.1.length), .int (nI x.2), v8] [] g' Q) → wpx (d + 1) P_Ta_sortAsInDictionary 126 [.ref b, .int (nI A.length), .int (nI (A.length + B.length)), .int (nI A'), .long (pk x.1), .retAddr 2, .int (nI x.1.length), .int (nI x.2), .int (nI (A.length + P.length) - (1 : Int32))] [] g Q := by
      intro P S g hl hf hi hin kk
      have hT' := hT.fr hf
      have vj : vp_in (nI (A.length + P.length) - (1 : Int32) + (1 : Int32)) 98 := by
        rw [Int32.sub_add_cancel]
        exact vp_in_nI (by omega) (by omega)
      refine B_Ta_sortAsInDictionary_126 hT'.1 hT'.2.1.1 hT'.2.1.2 vj hT'.2.2.1.1 hT'.2.2.1.2 vj hT'.2.2.2.1.1 hT'.2.2.2.1.2 vj ?_
      rw [Int32.sub_add_cancel, nI_clamp (by omega), nI_1]
      obtain ⟨e1, e2, e3⟩ := stepE g _ (A.length + P.length) (pk x.1) (nI x.1.length) (nI x.2) rfl
      refine kk _ _ (hf.tr e3) (fun i t ht => ?_)
      rw [hin, ← List.append_assoc, List.append_assoc, List.cons_append] at ht
      by_cases z : i = A.length + P.length
      · subst z
        have hm := mdlL (C := A ++ P.reverse) (T := S ++ R) (x := x)
        rw [List.length_append, List.length_reverse, ht] at hm
        have : t = x := Option.some.inj hm
        subst this
        exact e2
      · obtain ⟨u1, u2, u3⟩ := hi i t z ht
        obtain ⟨w1, w2, w3⟩ := e1 i z
        exact ⟨w1.trans u1, w2.trans u2, w3.trans u3⟩
    induction P with
    | nil =>
      intro S g hl hok hf hi kk
      refine B_Ta_sortAsInDictionary_38 (fun _ => put [] S g hl hf hi rfl kk) (fun z => absurd ?_ z)
      show nI (A.length + 0) - 1 < nI A.length
      rw [Nat.add_zero]
      exact (show ∀ n, n < 99 → nI n - (1 : Int32) < nI n by decide) A.length (by omega)
    | cons y P ih =>
      intro S g hl hok hf hi kk
      have hT' := hT.fr hf
      have hpl : (y :: P).length = P.length + 1 := rfl
      have erv : A ++ (y :: P).reverse ++ x :: (S ++ R) = (A ++ P.reverse) ++ y :: x :: (S ++ R) := by
        rw [List.reverse_cons, ← List.append_assoc, List.append_assoc]
        rfl
      have eCl : (A ++ P.reverse).length = A.length + P.length := by rw [List.length_append, List.length_reverse]
      have ej : nI (A.length + (y :: P).length) - (1 : Int32) = nI (A.length + P.length) := by
        rw [hpl, ← Nat.add_assoc, show (1 : Int32) = nI 1 from rfl, nI_subN (by omega)]
        rfl
      have hy : okr y.1 := hok y (by rw [erv]; exact List.mem_append_right _ (List.mem_cons_self ..))
      rw [hpl] at hl
      have hyt : AtT g b (A.length + P.length) y := by
        refine hi _ y (by rw [hpl]; omega) ?_
        rw [erv, ← eCl]
        exact mdlL
      obtain ⟨y1, y2, y3⟩ := hyt
      have va : vp_in (nI (A.length + P.length)) 98 := vp_in_nI (by omega) (by omega)
      have vb : vp_in (nI (A.length + P.length) + (1 : Int32)) 98 := by
        rw [nI_1]
        exact vp_in_nI (by omega) (by omega)
      refine B_Ta_sortAsInDictionary_38 (fun z => ?_) (fun _ => ?_)
      · rw [ej, nI_ltI (by omega) (by omega)] at z
        omega
      · rw [ej]
        refine B_Ta_sortAsInDictionary_44 hT'.1 hT'.2.1.1 hT'.2.1.2 va hT'.2.2.1.1 hT'.2.2.1.2 va ?_
        rw [nI_clamp (by omega), y1, y2]
        refine ow_flushLeft hy (B_Ta_sortAsInDictionary_61 (ow_flushLeft hx (B_Ta_sortAsInDictionary_68 (fun z => ?_) (fun z => ?_))))
        · have z' := (lgc_le (by have := kyl_lt hy; unfold kyl at this; omega) (by have := kyl_lt hx; unfold kyl at this; omega)).mp z
          have hz : kyl y.1 ≤ kyl x.1 := z'
          rw [← ej]
          exact put (y :: P) S g (by rw [hpl]; omega) hf hi (if_pos hz) kk
        · have hz : ¬ kyl y.1 ≤ kyl x.1 := fun w => z ((lgc_le (by have := kyl_lt hy; unfold kyl at this; omega) (by have := kyl_lt hx; unfold kyl at this; omega)).mpr w)
          have ein : insV x (y :: P) S = insV x P (y :: S) := if_neg hz
          refine B_Ta_sortAsInDictionary_72 hT'.1 hT'.2.1.1 hT'.2.1.2 va vb hT'.2.2.1.1 hT'.2.2.1.2 va vb hT'.2.2.2.1.1 hT'.2.2.2.1.2 va vb ?_
          rw [nI_1, nI_clamp (by omega), nI_clamp (by omega), y1]
          have r2 : h_i (w_l g (b + 1) (A.length + P.length + 1) (pk y.1)) (b + 2) (A.length + P.length) = nI y.1.length := y2
          rw [r2]
          have r3 : h_i (w_i (w_l g (b + 1) (A.length + P.length + 1) (pk y.1)) (b + 2) (A.length + P.length + 1) (nI y.1.length)) (b + 3) (A.length + P.length) = nI y.2 := (wi_ne _ _ (by omega)).trans y3
          rw [r3]
          obtain ⟨e1, e2, e3⟩ := stepE g _ (A.length + P.length + 1) (pk y.1) (nI y.1.length) (nI y.2) rfl
          refine B_Ta_sortAsInDictionary_120 ?_
          rw [nI_dn]
          refine ih (y :: S) _ (by rw [List.length_cons]; omega) (fun t ht => hok t ?_) (hf.tr e3) (fun i t hi0 ht => ?_) (fun g' v8 f' a' => kk g' v8 f' ?_)
          · rw [erv]
            rcases List.mem_append.mp ht with u | u
            · exact List.mem_append_left _ u
            · refine List.mem_append_right _ ?_
              rcases List.mem_cons.mp u with w | w
              · rw [w]
                exact List.mem_cons_of_mem _ (List.mem_cons_self ..)
              · rcases List.mem_cons.mp w with v | v
                · rw [v]
                  exact List.mem_cons_self ..
                · exact List.mem_cons_of_mem _ (List.mem_cons_of_mem _ v)
          · rw [List.cons_append] at ht
            by_cases z1 : i = A.length + P.length + 1
            · subst z1
              have hm := swp1 (C := A ++ P.reverse) (T := S ++ R) (x := x) (y := y)
              rw [eCl, ht] at hm
              have : t = y := Option.some.inj hm
              subst this
              exact e2
            · rw [swpL (by rw [eCl]; exact hi0) (by rw [eCl]; exact z1), ← erv] at ht
              obtain ⟨u1, u2, u3⟩ := hi i t (by rw [hpl]; omega) ht
              obtain ⟨w1, w2, w3⟩ := e1 i z1
              exact ⟨w1.trans u1, w2.trans u2, w3.trans u3⟩
          · rw [ein]
            exact a'
  have outer : ∀ (R L : TL) (g : PH) (v4 v5 v6 v7 v8 : Value), L.length + R.length = B.length → (∀ t ∈ L ++ R, okr t.1) → Fr (fun c _ => b < c ∧ c ≤ b + 3) h g → (∀ i t, (A ++ L ++ R)[i]? = some t → AtT g b i t) → (∀ t ∈ A, okr t.1) → (∀ g', Fr (fun c _ => b < c ∧ c ≤ b + 3) h g' → (∀ i t, (A ++ srtF L R)[i]? = some t → AtT g' b i t) → Q none g') → wpx (d + 1) P_Ta_sortAsInDictionary 4 [.ref b, .int (nI A.length), .int (nI (A.length + B.length)), .int (nI (A.length + L.length)), v4, v5, v6, v7, v8] [] g Q := by
    intro R
    induction R with
    | nil =>
      intro L g v4 v5 v6 v7 v8 hl hok hf hi hA kk
      have e0 : L.length = B.length := hl
      rw [e0]
      refine B_Ta_sortAsInDictionary_4 (fun _ => B_Ta_sortAsInDictionary_165 (kk g hf (fun i t ht => hi i t (by rw [List.append_nil]; exact ht)))) (fun z => ?_)
      rw [nI_leI (by omega) (by omega)] at z
      omega
    | cons x R ih =>
      intro L g v4 v5 v6 v7 v8 hl hok hf hi hA kk
      have hl' : L.length + (R.length + 1) = B.length := hl
      have hT' := hT.fr hf
      have va : vp_in (nI (A.length + L.length)) 98 := vp_in_nI (by omega) (by omega)
      have hx : okr x.1 := hok x (List.mem_append_right _ (List.mem_cons_self ..))
      have hxt : AtT g b (A.length + L.length) x := by
        refine hi _ x ?_
        have := mdlL (C := A ++ L) (T := R) (x := x)
        rw [List.length_append] at this
        exact this
      obtain ⟨x1, x2, x3⟩ := hxt
      refine B_Ta_sortAsInDictionary_4 (fun z => ?_) (fun _ => B_Ta_sortAsInDictionary_9 hT'.1 hT'.2.1.1 hT'.2.1.2 va hT'.2.2.1.1 hT'.2.2.1.2 va hT'.2.2.2.1.1 hT'.2.2.2.1.2 va ?_)
      · rw [nI_leI (by omega) (by omega)] at z
        omega
      · rw [nI_clamp (by omega), x1, x2, x3]
        have hLr : L.reverse.reverse = L := List.reverse_reverse L
        have hll : L.reverse.length = L.length := List.length_reverse
        have key := inner (A.length + L.length) x R hx L.reverse [] g (by rw [hll]; show _ + 0 + _ ≤ _; omega) (fun t ht => ?_) hf (fun i t _ ht => hi i t ?_) (fun g' v8 f' a' => ?_)
        · rw [hll] at key
          exact key
        · rw [hLr] at ht
          rcases List.mem_append.mp ht with u | u
          · rcases List.mem_append.mp u with w | w
            · exact hA t w
            · exact hok t (List.mem_append_left _ w)
          · exact hok t (List.mem_append_right _ u)
        · rw [hLr] at ht
          exact ht
        · have hp := insV_perm (x := x) L.reverse []
          rw [hLr, List.append_nil] at hp
          have hln : (insV x L.reverse []).length = L.length + 1 := hp.length_eq
          have := ih (insV x L.reverse []) g' (.long (pk x.1)) (.retAddr 2) (.int (nI x.1.length)) (.int (nI x.2)) v8 (by omega) (fun t ht => ?_) f' a' hA kk
          · rw [hln] at this
            exact this
          · rcases List.mem_append.mp ht with u | u
            · rcases List.mem_cons.mp (hp.mem_iff.mp u) with w | w
              · rw [w]
                exact hx
              · exact hok t (List.mem_append_left _ w)
            · exact hok t (List.mem_append_right _ (List.mem_cons_of_mem _ u))
  cases B with
  | nil => exact absurd rfl hB
  | cons x R =>
    rw [nI_1]
    have hok := hc.1.2
    have hRl : (x :: R).length = R.length + 1 := rfl
    refine outer R [x] h _ _ _ _ _ (by rw [hRl]; show 1 + _ = _; omega) (fun t ht => (hok t (List.mem_append_right _ ht)).1) (Fr.rf _ _) (fun i t ht => hc.2.2 i t (by rw [List.append_assoc] at ht; exact ht)) (fun t ht => (hok t (List.mem_append_left _ ht)).1) (fun g' f' a' => k g' ?_ (f'.up (fun c k z => Or.inr z)))
    have hp := srtF_perm (x :: R) []
    rw [List.nil_append] at hp
    refine ⟨⟨?_, fun t ht => ?_⟩, ?_, a'⟩
    · rw [List.length_append, hp.length_eq]
      exact h98
    · rcases List.mem_append.mp ht with u | u
      · exact hok t (List.mem_append_left _ u)
      · exact hok t (List.mem_append_right _ (hp.mem_iff.mp u))
    · rw [f'.i _ _ (by omega), hc.2.1, List.length_append, List.length_append, hp.length_eq]
