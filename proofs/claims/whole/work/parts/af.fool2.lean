/-! fool on the class's side: what covers the rest of a group; all pairs -/
def tpS (gs : List (List Nat)) (m : Nat) (b : List Nat) (p : Nat) (w : List Nat) : Prop := ∃ w', cv gs m (b.drop p) w' ∧ w = b.take p ++ w'
def cpP (gs : List (List Nat)) (m : Nat) (b : List Nat) (p k : Nat) (w : List Nat) : Prop := inm m k ∧ ((∃ x, gs.getD k [] = b.drop p ++ x ∧ w = b ++ x) ∨ (p + (gs.getD k []).length < b.length ∧ gs.getD k [] = (b.drop p).take (gs.getD k []).length ∧ tpS gs m b (p + (gs.getD k []).length) w))
theorem tp_un {gs : List (List Nat)} {m p : Nat} {b w : List Nat} : tpS gs m b p w ↔ ∃ k, k < gs.length ∧ cpP gs m b p k w := by
  constructor
  · rintro ⟨w', h, e⟩
    obtain ⟨l, ⟨k, k1, k2⟩, h1⟩ := cv_un.mp h
    refine ⟨k, gL k1, k2, ?_⟩
    rw [gD k1]
    rcases h1 with ⟨x, x1, x2⟩ | ⟨s, w'', s0, s1, s2, s3⟩
    · refine Or.inl ⟨x, x1, ?_⟩
      rw [e, x2, x1, ← List.append_assoc, List.take_append_drop]
    · have q := congrArg List.length s1
      rw [List.length_append, List.length_drop] at q
      have := List.length_pos_iff.mpr s0
      have e1 : l = (b.drop p).take l.length := by rw [s1, List.take_left]
      refine Or.inr ⟨by omega, e1, w'', ?_, ?_⟩
      · rw [← List.drop_drop, s1, List.drop_left]
        exact s2
      · rw [e, s3, List.take_add, ← e1, List.append_assoc]
  · rintro ⟨k, k1, k2, h⟩
    rcases h with ⟨x, x1, x2⟩ | ⟨h1, h2, w'', h3, h4⟩
    · refine ⟨gs.getD k [], cv_un.mpr ⟨_, ⟨k, gS k1, k2⟩, Or.inl ⟨x, x1, rfl⟩⟩, ?_⟩
      rw [x2, x1, ← List.append_assoc, List.take_append_drop]
    · have e2 := tak_app h2
      rw [List.drop_drop] at e2
      refine ⟨gs.getD k [] ++ w'', cv_un.mpr ⟨_, ⟨k, gS k1, k2⟩, Or.inr ⟨b.drop (p + (gs.getD k []).length), w'', ?_, e2, h3, rfl⟩⟩, ?_⟩
      · intro z
        have := congrArg List.length z
        rw [List.length_drop] at this
        have h0 : ([] : List Nat).length = 0 := rfl
        omega
      · rw [h4, List.take_add, ← h2, List.append_assoc]
def CCv (h : PH) (c : Nat) (cf : Nat → Bool) : Prop := ∀ q, q < 8 → h_i h (c + 3) q = (if cf q = true then 1 else 0)
def Wfo (c a k : Nat) : Prop := (a = c ∧ (k = 1 ∨ k = 3)) ∨ (c < a ∧ a ≤ c + 3)
theorem re_coverWith {d : Nat} {h : PH} {Q : PQ} {gs : List (List Nat)} {m c b j p : Nat} {o : Option (List Nat)} (hR : ReS h c) (hG : GrS h 2) (hg : CGr h 2 gs m) (hb : b < gs.length) (hj : j < gs.length) (hp : p < (gs.getD b []).length) (hB : CBst h c o) (k0 : ¬ (∃ x, gs.getD j [] = (gs.getD b []).drop p ++ x) → ¬ (p + (gs.getD j []).length < (gs.getD b []).length ∧ gs.getD j [] = ((gs.getD b []).drop p).take (gs.getD j []).length) → Q none h) (k1 : p + (gs.getD j []).length < (gs.getD b []).length → gs.getD j [] = ((gs.getD b []).drop p).take (gs.getD j []).length → Q none (w_i h (c + 3) (p + (gs.getD j []).length) 1)) (k2 : ∀ x h', gs.getD j [] = (gs.getD b []).drop p ++ x → CBst h' c (bet o (gs.getD b [] ++ x)) → Fr (fun a k => (a = c ∧ (k = 1 ∨ k = 3)) ∨ (c < a ∧ a ≤ c + 2)) h h' → Q none h') : wpm (d + 3) 57 [.ref c, .ref 2, .int (nI b), .int (nI j), .int (nI p)] h Q := by
  refine wpm_in P_Re_coverWith rfl (by decide) (by show ¬ 11 < 5; decide) ?_
  have gb := gS hb
  have gj := gS hj
  obtain ⟨b1, b2, b3⟩ := hg.1.at gb
  obtain ⟨l1, l2, l3⟩ := hg.1.at gj
  have b7 := b1.2
  have l7 := l1.2
  have c63 := hR.2.2.2.2.1
  have vb : vp_in (nI b) 14 := vp_in_nI b3 (by omega)
  have vj : vp_in (nI j) 14 := vp_in_nI l3 (by omega)
  obtain ⟨x1, x2⟩ := hg.2.2.2 _ _ gb
  obtain ⟨y1, y2⟩ := hg.2.2.2 _ _ gj
  generalize gs.getD b [] = lb at *
  generalize gs.getD j [] = l at *
  refine B_Re_coverWith_0 hG.1 hG.2.2.1.1 hG.2.2.1.2 vb vj hG.2.1.1 hG.2.1.2 vb ?_
  have mn : (if nI lb.length - nI p < nI l.length then nI lb.length - nI p else nI l.length) = nI (min l.length (lb.length - p)) := by
    rw [nI_subN (by omega)]
    by_cases z : lb.length - p < l.length
    · rw [if_pos ((nI_ltI (by omega) (by omega)).mpr z), Nat.min_eq_right (by omega)]
    · rw [if_neg (fun y => z ((nI_ltI (by omega) (by omega)).mp y)), Nat.min_eq_left (by omega)]
  rw [nI_clamp (by omega), nI_clamp (by omega), x1, x2, y2, mn, nI_subN (by omega)]
  refine ow_lastOf b1 (by omega) ?_
  rw [show lb.length - (lb.length - p) = p by omega]
  have dl : (lb.drop p).length = lb.length - p := List.length_drop
  refine B_Re_coverWith_42 hG.1 hG.2.1.1 hG.2.1.2 vj ?_
  rw [nI_clamp (by omega), y1, nI_subN (by omega), ← dl]
  refine ow_commonLetters (b1.drop p) l1 (B_Re_coverWith_62 (fun z => ?_) (fun z => B_Re_coverWith_67 (k0 ?_ ?_)))
  · have c1 := cpl_le (lb.drop p) l
    have c2 := cpl_le l (lb.drop p)
    rw [cpl_comm l (lb.drop p)] at c2
    rw [nI_leI (by omega) (by omega)] at z
    refine B_Re_coverWith_68 (fun y => ?_) (fun y => ?_)
    · rw [nI_add, nI_leI (by omega) (by omega)] at y
      have mi : min l.length (lb.drop p).length = (lb.drop p).length := Nat.min_eq_right (by omega)
      rw [mi] at z ⊢
      have e1 := (cpl_len (lb.drop p) l).mp (by omega)
      have e2 := tak_app e1
      refine B_Re_coverWith_90 hR.1 ?_
      have hb' := hb
      refine re_startTrial hR hG hg hb (fun h1 t1 f1 => B_Re_coverWith_96 ?_)
      have gbl : gs.getD b [] = lb := gD gb
      rw [gbl] at t1
      have loop : ∀ (e i : Nat) (g : PH), l.length - i = e → (lb.drop p).length ≤ i → i ≤ l.length → Fr (fun a k => (a = c ∧ k = 3) ∨ a = c + 2) h g → CTri g c (lb ++ (l.take i).drop (lb.drop p).length) → wpx (d + 2) P_Re_coverWith 100 [.ref c, .ref 2, .int (nI b), .int (nI j), .int (nI p), .int (nI lb.length), .int (nI l.length), .int (nI (lb.drop p).length), .long (pk (lb.drop p)), .retAddr 2, .int (nI i)] [] g Q := by
        intro e
        induction e with
        | zero =>
          intro i g he hi0 hi hf ht
          have ei : i = l.length := by omega
          rw [ei, List.take_length] at ht
          have hR' := hR.fr hf
          refine B_Re_coverWith_100 (fun _ => B_Re_coverWith_155 hR'.1 (re_keepBetter hR' ht (by rw [List.length_append]; omega) (CBst.fr hf (fun a k z => by omega) hB) (fun h2 q2 f2 => B_Re_coverWith_159 (k2 _ h2 e2 q2 ((hf.up (fun a k z => by omega)).tr (f2.up (fun a k z => by omega))))))) (fun q => ?_)
          rw [nI_leI (by omega) (by omega)] at q
          omega
        | succ e ih =>
          intro i g he hi0 hi hf ht
          have hR' := hR.fr hf
          have hG' := hf.gr hG
          have gx : l[i]? = some l[i] := List.getElem?_eq_getElem (by omega)
          have xb := l1.1 _ (List.mem_of_getElem? gx)
          generalize l[i] = x at gx xb
          have tl : (lb ++ (l.take i).drop (lb.drop p).length).length = lb.length + (i - (lb.drop p).length) := by
            rw [List.length_append, List.length_drop, List.length_take]
            omega
          have t3 := ht.2.2.1
          rw [tl] at t3
          have q1 : h_l g 3 (nI j).toNatClampNeg = pk l := by rw [nI_clamp (by omega), hf.l _ _ (by omega)]; exact y1
          refine B_Re_coverWith_100 (fun q => ?_) (fun _ => B_Re_coverWith_107 hR'.1 (fun q => ?_) (fun _ => B_Re_coverWith_116 hR'.1 hR'.2.2.1.1 hG'.1 hG'.2.1.1 hG'.2.1.2 vj ?_))
          · rw [nI_leI (by omega) (by omega)] at q
            omega
          · rw [t3, show (14 : Int32) = nI 14 from rfl, nI_leI (by omega) (by omega)] at q
            omega
          rw [q1, t3]
          refine ow_signOf l1 (B_Re_coverWith_137 hR'.2.2.1.2 (vp_in_nI (by omega) (by omega)) hR'.1 ?_)
          rw [sgn_le l1 gx, t_3 _ xb.2, nI_clamp (by omega), wi_ne _ _ (by omega), t3, nI_1, nI_1]
          have en : (l.take (i + 1)).drop (lb.drop p).length = (l.take i).drop (lb.drop p).length ++ [x] := by
            rw [List.take_add_one, gx, List.drop_append_of_le_length (by rw [List.length_take]; omega)]
            rfl
          refine ih (i + 1) _ (by omega) (by omega) (by omega) (hf.tr ((Fr.wi g _ (Or.inr rfl)).tr (Fr.wi _ _ (Or.inl ⟨rfl, rfl⟩)))) ?_
          rw [en, ← List.append_assoc]
          refine ⟨lets.app ht.1 (fun y hy => by rw [List.mem_singleton.mp hy]; exact xb), ?_, ?_, fun u v hu => ?_⟩
          · rw [List.length_append, tl]
            show _ + 1 ≤ 14
            omega
          · rw [wi_eq, List.length_append, tl]
            rfl
          · rw [wi_ne _ _ (by omega)]
            by_cases uw : u = lb.length + (i - (lb.drop p).length)
            · rw [uw, ← tl, List.getElem?_append_right (Nat.le_refl _), Nat.sub_self] at hu
              have : x = v := Option.some.inj hu
              rw [uw, wi_eq, this]
            · have ul := (List.getElem?_eq_some_iff.mp hu).1
              rw [List.length_append, tl] at ul
              have ul' : u < lb.length + (i - (lb.drop p).length) := by
                have h1 : [x].length = 1 := rfl
                omega
              rw [List.getElem?_append_left (by rw [tl]; exact ul')] at hu
              rw [wi_ne _ _ (by omega)]
              exact ht.2.2.2 u v hu
      refine loop (l.length - (lb.drop p).length) (lb.drop p).length h1 rfl (Nat.le_refl _) (by omega) f1 ?_
      rw [List.drop_eq_nil_of_le (by rw [List.length_take]; omega), List.append_nil]
      exact t1
    · rw [nI_add, nI_leI (by omega) (by omega)] at y
      have mi : min l.length (lb.drop p).length = l.length := Nat.min_eq_left (by omega)
      rw [mi] at z
      have e0 : cpl l (lb.drop p) = l.length := by rw [cpl_comm]; omega
      have e1 := (cpl_len l (lb.drop p)).mp e0
      refine B_Re_coverWith_78 hR.1 hR.2.2.2.1.1 hR.2.2.2.1.2 (by rw [nI_add]; exact vp_in_nI (by omega) (by omega)) ?_
      rw [nI_add, nI_clamp (by omega)]
      exact k1 (by omega) e1
  · rintro ⟨x, ex⟩
    have c1 := cpl_le (lb.drop p) l
    have e0 := (cpl_len (lb.drop p) l).mpr (by rw [ex, List.take_left])
    rw [nI_leI (by omega) (by omega)] at z
    omega
  · rintro ⟨z1, z2⟩
    have c1 := cpl_le (lb.drop p) l
    have e0 := (cpl_len l (lb.drop p)).mpr z2
    rw [cpl_comm] at e0
    rw [nI_leI (by omega) (by omega)] at z
    omega
