/-! fool on the class's side: all pairs, the answer -/
theorem ow_theReader2 {d : Nat} {h : PH} {Q : PQ} (hO : OwS h) (hc : 63 ≤ h_ct h) (hz : ∀ c, h_r h 0 8 = some c → ReS h c) (k : ∀ c h', Gw (fun _ _ => False) h h' → h_r h' 0 8 = some c → ReS h' c → (h_r h 0 8 = none → h_ct h ≤ c) → Q (some (.ref c)) h') : wpm (d + 2) 156 [.ref 0] h Q := by
  refine wpm_in P_Ow_theReader rfl (by decide) (by show ¬ 1 < 1; decide) ?_
  refine B_Ow_theReader_0 hO.1 (fun a ha => B_Ow_theReader_18 hO.1 ha (k a h (Fr.rf _ _).gw ha (hz a ha) (fun e => by rw [e] at ha; cases ha))) (fun hn => B_Ow_theReader_7 (i_Re_init (Nat.lt_succ_self _) (sh_new_eq _ _ _) ?_))
  have hG := gw_list (f := 8) (ci := 4) (L := L_Re_init) (by decide) (by decide) hn (by omega) rfl
  have a0 := mkO_arr [] 0 (2, 14) [(2, .inl (2, 14)), (4, .inl (3, 8))] (h_new h (0, 4) (fN 4)) (o := h_ct h) (Nat.lt_succ_self _) (by decide)
  have a1 := mkO_arr [(0, .inl (2, 14))] 2 (2, 14) [(4, .inl (3, 8))] (h_new h (0, 4) (fN 4)) (o := h_ct h) (Nat.lt_succ_self _) (by decide)
  have a2 := mkO_arr [(0, .inl (2, 14)), (2, .inl (2, 14))] 4 (3, 8) [] (h_new h (0, 4) (fN 4)) (o := h_ct h) (Nat.lt_succ_self _) (by decide)
  have hs : h_sh (mkO (h_new h (0, 4) (fN 4)) (h_ct h) L_Re_init) (h_ct h) = some (0, 4) := (sh_mkO (Nat.lt_succ_self _)).trans (sh_new_eq _ _ _)
  have hct : h_ct (mkO (h_new h (0, 4) (fN 4)) (h_ct h) L_Re_init) = h_ct h + 1 + 3 := mkO_ct _ _ _
  have wr : ∀ x k, x ≠ 0 → h_r (w_r (mkO (h_new h (0, 4) (fN 4)) (h_ct h) L_Re_init) 0 8 (some (h_ct h))) x k = h_r (mkO (h_new h (0, 4) (fN 4)) (h_ct h) L_Re_init) x k := fun x k hx => by rw [h_r_wr, if_neg (fun z => hx z.1)]
  have hs0 : h_sh (mkO (h_new h (0, 4) (fN 4)) (h_ct h) L_Re_init) 0 = some (0, 11) := (lz_sh (by omega)).trans hO.1
  refine B_Ow_theReader_15 hs0 (B_Ow_theReader_18 (show h_sh (w_r _ _ _ _) 0 = _ from hs0) (by rw [h_r_wr, if_pos ⟨rfl, rfl⟩]) (k _ _ hG (by rw [h_r_wr, if_pos ⟨rfl, rfl⟩]) ⟨hs, ⟨(wr _ _ (by omega)).trans a0.1, a0.2.1⟩, ⟨(wr _ _ (by omega)).trans a1.1, a1.2.1⟩, ⟨(wr _ _ (by omega)).trans a2.1, a2.2.1⟩, hc, ?_⟩ (fun _ => Nat.le_refl _)))
  show _ < h_ct (mkO (h_new h (0, 4) (fN 4)) (h_ct h) L_Re_init)
  omega
theorem Gw.lz2 {h g h1 : PH} {f n c : Nat} {W W0 : Nat → Nat → Prop} (hc : 63 ≤ h_ct h) (a : Gw W0 h g) (b : Gw (fun x k => (c ≤ x ∧ x ≤ c + n) ∨ W x k) g h1) (h0 : ∀ x k, W0 x k → Wlz f n h x k ∨ W x k) (hr : h_r g 0 f = some c) (hn : h_r h 0 f = none → h_ct h ≤ c) : Gw (fun x k => Wlz f n h x k ∨ W x k) h h1 := by
  obtain ⟨a1, a2, a3, a4, a5, a6, a7⟩ := a
  obtain ⟨b1, b2, b3, b4, b5, b6, b7⟩ := b
  refine ⟨b1.trans a1, by omega, by omega, by omega, fun x hx => (b5 x (by omega)).trans (a5 x hx), fun x k hx => ?_, fun x k hx hw => ?_⟩
  · rcases a6 x k hx with p | p
    · rcases b6 x k (by omega) with q | q
      · exact Or.inl (q.trans p)
      · exact Or.inr ⟨q.1, p ▸ q.2⟩
    · exact Or.inr p
  · have q1 := a7 x k hx (fun z => hw (h0 x k z))
    have q2 := b7 x k (by omega) (fun z => hw (by
      rcases z with z | z
      · cases e : h_r h 0 f with
        | none =>
          have := hn e
          omega
        | some c0 =>
          have e1 : h_r g 0 f = some c0 := by
            rcases a6 0 f (by omega) with q | q
            · rw [q, e]
            · rw [e] at q
              cases q.2
          rw [hr] at e1
          have : c = c0 := Option.some.inj e1
          exact Or.inl ⟨c0, e, by omega, by omega⟩
      · exact Or.inr z))
    exact ⟨q2.1.trans q1.1, q2.2.trans q1.2⟩
theorem re_findFool {d : Nat} {h : PH} {Q : PQ} {gs : List (List Nat)} {m c kd : Nat} (hk : kd < 3) (hR : ReS h c) (hG : GrS h 2) (hg : CGr h 2 gs m) (k : ∀ h' o, lst (FW gs m kd) o → CBst h' c o → Fr (Wfo c) h h' → Q (some (.int (if o = none then 0 else 1))) h') : wpm (d + 5) 54 [.ref c, .ref 2, .int (nI kd)] h Q := by
  refine wpm_in P_Re_findFool rfl (by decide) (by show ¬ 5 < 3; decide) (B_Re_findFool_0 hR.1 ?_)
  have h14 := hg.1.1
  have ho := hg.1
  have c63 := hR.2.2.2.2.1
  have cg : ∀ {g : PH}, Fr (Wfo c) h g → CGr g 2 gs m := fun hf => CGr.fr hf (fun x k z y => by unfold Wfo at z; omega) hg
  have inner : ∀ (a : Nat), a < gs.length → ∀ (e b : Nat) (g : PH) (o : Option (List Nat)) (S : List Nat → Prop), gs.length - b = e → b ≤ gs.length → Fr (Wfo c) h g → CBst g c o → lst S o → (∀ g o x4 S', Fr (Wfo c) h g → CBst g c o → lst S' o → (∀ w, S' w ↔ (S w ∨ ∃ b', b ≤ b' ∧ b' < gs.length ∧ fwP gs m kd a b' w)) → wpx (d + 4) P_Re_findFool 108 [.ref c, .ref 2, .int (nI kd), .int (nI a), .int x4] [] g Q) → wpx (d + 4) P_Re_findFool 18 [.ref c, .ref 2, .int (nI kd), .int (nI a), .int (nI b)] [] g Q := by
    intro a ha e
    obtain ⟨a1, a2, a3⟩ := ho.at (gS ha)
    induction e with
    | zero =>
      intro b g o S he hb hf hB hS kk
      refine B_Re_findFool_18 (hf.gr hG).1 (fun _ => kk g o _ S hf hB hS (fun w => ⟨Or.inl, fun z => z.elim id (fun ⟨b', z1, z2, _⟩ => by omega)⟩)) (fun q => ?_)
      rw [(cg hf).2.1, nI_leI (by omega) (by omega)] at q
      omega
    | succ e ih =>
      intro b g o S he hb hf hB hS kk
      have hR' := hR.fr hf
      have hG' := hf.gr hG
      have hg' := cg hf
      have hb' : b < gs.length := by omega
      obtain ⟨b1, b2, b3⟩ := ho.at (gS hb')
      have next : ∀ (g : PH) (o : Option (List Nat)) (S' : List Nat → Prop), Fr (Wfo c) h g → CBst g c o → lst S' o → (∀ w, S' w ↔ (S w ∨ fwP gs m kd a b w)) → wpx (d + 4) P_Re_findFool 102 [.ref c, .ref 2, .int (nI kd), .int (nI a), .int (nI b)] [] g Q := fun g o S' f' b' s' w' => by
        refine B_Re_findFool_102 ?_
        rw [nI_1]
        refine ih (b + 1) g o S' (by omega) (by omega) f' b' s' (fun g o x4 S'' f'' b'' s'' w'' => kk g o x4 S'' f'' b'' s'' (fun w => (w'' w).trans ?_))
        rw [w' w]
        constructor
        · rintro ((z | z) | ⟨q, z1, z2, z3⟩)
          · exact Or.inl z
          · exact Or.inr ⟨b, Nat.le_refl _, hb', z⟩
          · exact Or.inr ⟨q, by omega, z2, z3⟩
        · rintro (z | ⟨q, z1, z2, z3⟩)
          · exact Or.inl (Or.inl z)
          · by_cases v : q = b
            · rw [v] at z3
              exact Or.inl (Or.inr z3)
            · exact Or.inr ⟨q, by omega, z2, z3⟩
      have no : (∀ w, ¬ fwP gs m kd a b w) → wpx (d + 4) P_Re_findFool 102 [.ref c, .ref 2, .int (nI kd), .int (nI a), .int (nI b)] [] g Q := fun hn => next g o S hf hB hS (fun w => ⟨Or.inl, fun z => z.elim id (fun y => absurd y (hn w))⟩)
      refine B_Re_findFool_18 hG'.1 (fun q => ?_) (fun _ => B_Re_findFool_27 (fun q => no (fun w z => z.1.1 ((nI_eq (by omega) (by omega)).mp q))) (fun q0 => B_Re_findFool_33 hG'.1 (gr_isIn hG' hg' ha (fun qa => B_Re_findFool_38 (fun q => absurd q (by decide)) (fun _ => B_Re_findFool_41 hG'.1 (gr_isIn hG' hg' hb' (fun qb => B_Re_findFool_47 (fun q => absurd q (by decide)) (fun _ => B_Re_findFool_50 (re_prefers2 hk hG' hg' ha hb' (fun qp => B_Re_findFool_58 (fun q => absurd q (by decide)) (fun _ => B_Re_findFool_61 hG'.1 (gr_groupBegins hG' hg' (gS hb') (gS ha) ?_))) (fun qp => B_Re_findFool_58 (fun _ => no (fun w z => qp z.2.1)) (fun q => absurd rfl q))))) (fun qb => B_Re_findFool_47 (fun _ => no (fun w z => qb z.1.2.2)) (fun q => absurd rfl q))))) (fun qa => B_Re_findFool_38 (fun _ => no (fun w z => qa z.1.2.1)) (fun q => absurd rfl q)))))
      · rw [hg'.2.1, nI_leI (by omega) (by omega)] at q
        omega
      have hab : abC m a b := ⟨fun y => q0 (by rw [y]), qa, qb⟩
      by_cases y : gs.getD b [] = (gs.getD a []).take (gs.getD b []).length
      · rw [if_pos y]
        refine B_Re_findFool_68 (fun q => absurd q (by decide)) (fun _ => B_Re_findFool_71 hR'.1 (re_startTrial hR' hG' hg' ha (fun g1 t1 f1 => ?_)))
        have hR1 := hR'.fr f1
        refine B_Re_findFool_77 hR1.1 (re_keepBetter hR1 t1 a2 (CBst.fr f1 (fun x k z => by omega) hB) (fun g2 b2' f2 => B_Re_findFool_81 (next g2 _ (fun w => S w ∨ w = gs.getD a []) (hf.tr ((f1.up (fun x k z => by unfold Wfo; omega)).tr (f2.up (fun x k z => by unfold Wfo; omega)))) b2' (lst_add hS) (fun w => ⟨fun z => z.imp id (fun v => ⟨hab, qp, Or.inl ⟨y, v⟩⟩), fun z => z.imp id (fun v => ?_)⟩))))
        rcases v.2.2 with v | ⟨t, w', t0, t1', _⟩
        · exact v.2
        · have u1 := congrArg List.length y
          have u2 := congrArg List.length t1'
          rw [List.length_take] at u1
          rw [List.length_append] at u2
          have := List.length_pos_iff.mpr t0
          omega
      · rw [if_neg y]
        refine B_Re_findFool_68 (fun _ => B_Re_findFool_84 hG'.1 (gr_groupBegins hG' hg' (gS ha) (gS hb') ?_)) (fun q => absurd rfl q)
        by_cases v : gs.getD a [] = (gs.getD b []).take (gs.getD a []).length
        · rw [if_pos v]
          have e1 := tak_app v
          have d0 : (gs.getD b []).drop (gs.getD a []).length ≠ [] := fun z => by
            rw [z, List.append_nil] at e1
            exact y (by rw [e1, List.take_length])
          have ll : (gs.getD a []).length < (gs.getD b []).length := by
            have u2 := congrArg List.length e1
            rw [List.length_append] at u2
            have := List.length_pos_iff.mpr d0
            omega
          refine B_Re_findFool_91 (fun q => absurd q (by decide)) (fun _ => B_Re_findFool_94 hR'.1 (re_coverRest hR' hG' hg' ha hb' ll hS hB (fun g1 o1 s1 b1' f1 => next g1 o1 _ (hf.tr f1) b1' s1 (fun w => ⟨fun z => z.imp id (fun ⟨w', u1, u2⟩ => ⟨hab, qp, Or.inr ⟨_, w', d0, e1, u1, by rw [u2, ← v]⟩⟩), fun z => z.imp id (fun u => ?_)⟩))))
          rcases u.2.2 with u | ⟨t, w', t0, t1', t2, t3⟩
          · exact absurd u.1 y
          · refine ⟨w', ?_, by rw [← v]; exact t3⟩
            rw [t1', List.drop_left]
            exact t2
        · rw [if_neg v]
          refine B_Re_findFool_91 (fun _ => no (fun w z => ?_)) (fun q => absurd rfl q)
          rcases z.2.2 with u | ⟨t, w', t0, t1', t2, t3⟩
          · exact y u.1
          · exact v (by rw [t1', List.take_left])
  have outer : ∀ (e a : Nat) (g : PH) (o : Option (List Nat)) (S : List Nat → Prop) (v4 : Value), gs.length - a = e → a ≤ gs.length → Fr (Wfo c) h g → CBst g c o → lst S o → (∀ w, S w ↔ ∃ a' b', a' < a ∧ b' < gs.length ∧ fwP gs m kd a' b' w) → wpx (d + 4) P_Re_findFool 7 [.ref c, .ref 2, .int (nI kd), .int (nI a), v4] [] g Q := by
    intro e
    induction e with
    | zero =>
      intro a g o S v4 he ha hf hB hS hw
      have ea : a = gs.length := by omega
      subst ea
      have kg := k g o (lst_up hS (fun w => (hw w).trans ⟨fun ⟨a', b', z1, z2, z3⟩ => ⟨a', b', z1, z2, z3⟩, fun ⟨a', b', z1, z2, z3⟩ => ⟨a', b', z1, z2, z3⟩⟩)) hB hf
      have hR' := hR.fr hf
      refine B_Re_findFool_7 (hf.gr hG).1 (fun _ => B_Re_findFool_114 hR'.1 (fun z => B_Re_findFool_125 (B_Re_findFool_126 (by decide) ?_)) (fun z => B_Re_findFool_121 (B_Re_findFool_126 (by decide) ?_))) (fun q => ?_)
      · cases o with
        | none => exact kg
        | some w =>
          obtain ⟨_, w1, w2, w3, _⟩ := hB
          rw [w3, show (0 : Int32) = nI 0 from rfl, nI_leI (by omega) (by omega)] at z
          omega
      · cases o with
        | none =>
          have b0 : h_i g c 1 = 0 := hB
          rw [b0] at z
          exact absurd (Int32.le_refl _) z
        | some w => exact kg
      · rw [(cg hf).2.1, nI_leI (by omega) (by omega)] at q
        omega
    | succ e ih =>
      intro a g o S v4 he ha hf hB hS hw
      refine B_Re_findFool_7 (hf.gr hG).1 (fun q => ?_) (fun _ => B_Re_findFool_15 (inner a (by omega) gs.length 0 g o S rfl (Nat.zero_le _) hf hB hS (fun g' o' x4 S' f' b' s' w' => B_Re_findFool_108 ?_)))
      · rw [(cg hf).2.1, nI_leI (by omega) (by omega)] at q
        omega
      · rw [nI_1]
        refine ih (a + 1) g' o' S' _ (by omega) (by omega) f' b' s' (fun w => (w' w).trans ?_)
        rw [hw w]
        constructor
        · rintro (⟨a', b', z1, z2, z3⟩ | ⟨b', z1, z2, z3⟩)
          · exact ⟨a', b', by omega, z2, z3⟩
          · exact ⟨a, b', by omega, z2, z3⟩
        · rintro ⟨a', b', z1, z2, z3⟩
          by_cases v : a' = a
          · rw [v] at z3
            exact Or.inr ⟨b', Nat.zero_le _, z2, z3⟩
          · exact Or.inl ⟨a', b', by omega, z2, z3⟩
  have f0 : Fr (fun x k => x = c ∧ k = 1) h (w_i h c 1 0) := Fr.wi h _ ⟨rfl, rfl⟩
  exact outer gs.length 0 _ none (fun _ => False) _ rfl (Nat.zero_le _) (f0.up (fun x k z => by unfold Wfo; omega)) (wi_eq _ _ _ _) (fun w z => z) (fun w => ⟨fun z => absurd z id, fun ⟨a', b', z1, _⟩ => by omega⟩)
theorem re_copyTo {d : Nat} {h : PH} {Q : PQ} {c : Nat} {w : List Nat} (hO : OwS h) (hR : ReS h c) (hB : CBst h c (some w)) (k : ∀ h', CWd h' w → Fr Wcd h h' → Q none h') : wpm (d + 2) 60 [.ref c, .ref 13] h Q := by
  refine wpm_in P_Re_copyTo rfl (by decide) (by show ¬ 3 < 2; decide) (B_Re_copyTo_0 (os_theWord hO) (wo_clear hO (fun h1 c1 f1 => B_Re_copyTo_4 ?_)))
  obtain ⟨w1, w2, w3, w4, w5⟩ := hB
  have c63 := hR.2.2.2.2.1
  have loop : ∀ (e i : Nat) (g : PH), w.length - i = e → i ≤ w.length → Fr Wcd h g → CWd g (w.take i) → wpx (d + 1) P_Re_copyTo 6 [.ref c, .ref 13, .int (nI i)] [] g Q := by
    intro e
    induction e with
    | zero =>
      intro i g he hi hf hc
      have ei : i = w.length := by omega
      rw [ei, List.take_length] at hc
      refine B_Re_copyTo_6 (hR.fr hf).1 (fun _ => B_Re_copyTo_30 (k g hc hf)) (fun q => ?_)
      rw [hf.i _ _ (by unfold Wcd; omega), w4, nI_leI (by omega) (by omega)] at q
      omega
    | succ e ih =>
      intro i g he hi hf hc
      have hR' := hR.fr hf
      have hO' := hf.ow hO
      have gw : w[i]? = some w[i] := List.getElem?_eq_getElem (by omega)
      have xb := w1 _ (List.mem_of_getElem? gw)
      generalize w[i] = x at gw xb
      refine B_Re_copyTo_6 hR'.1 (fun q => ?_) (fun _ => B_Re_copyTo_14 hR'.1 hR'.2.1.1 hR'.2.1.2 (vp_in_nI (by omega) (by omega)) (os_theWord hO') ?_)
      · rw [hf.i _ _ (by unfold Wcd; omega), w4, nI_leI (by omega) (by omega)] at q
        omega
      rw [nI_clamp (by omega), hf.i _ _ (by unfold Wcd; omega), w5 _ _ gw]
      refine wo_add hO' hc xb.1 xb.2 (by rw [List.length_take]; omega) (fun g' c' f' => B_Re_copyTo_24 ?_)
      rw [nI_1]
      refine ih (i + 1) g' (by omega) (by omega) (hf.tr f') ?_
      rw [List.take_add_one, gw]
      exact c'
  exact loop w.length 0 h1 rfl (Nat.zero_le _) f1 c1
def foI : Option (List Nat) → Int32
  | none => -1
  | some w => nI w.length
theorem ow_fool {d : Nat} {h : PH} {Q : PQ} {gs : List (List Nat)} {m : Nat} {w : List Nat} {x : Int32} (hO : OwS h) (hc : 63 ≤ h_ct h) (hz : ∀ c, h_r h 0 8 = some c → ReS h c) (hw : CWd h w) (hg : CGr h 2 gs m) (k1 : (x < 0 ∨ (2 : Int32) < x) → Q (some (.int (-2))) h) (k2 : ∀ kd o h', kd < 3 → x = nI kd → lst (FW gs m kd) o → CWd h' (o.getD w) → (∀ c, h_r h' 0 8 = some c → ReS h' c) → Gw (fun a k => Wlz 8 3 h a k ∨ Wcd a k) h h' → Q (some (.int (foI o))) h') : wpm (d + 6) 139 [.ref 0, .int x] h Q := by
  refine wpm_in P_Ow_fool rfl (by decide) (by show ¬ 3 < 2; decide) (B_Ow_fool_0 (re_isKind (fun q => B_Ow_fool_4 (fun _ => B_Ow_fool_10 hO.1 (ow_theReader2 hO hc hz (fun c h1 hG hr hR hn => ?_))) (fun z => absurd z (by decide))) (fun q => B_Ow_fool_4 (fun z => absurd rfl z) (fun _ => B_Ow_fool_7 (k1 q)))))
  obtain ⟨kd, hk, rfl⟩ := kd_of q
  have hO1 := hG.ow hc hO
  have c63 := hR.2.2.2.2.1
  have hg1 := hg.gw hG (by omega) (fun _ _ z => z.elim)
  have hw1 := hw.gw hG hc (fun _ _ z => z.elim)
  refine B_Ow_fool_14 hO1.1 (or_groups hO1) hR.1 (re_findFool hk hR (GrS_2 hO1) hg1 (fun h2 o s2 b2 f2 => ?_))
  have hO2 := f2.ow hO1
  have hR2 := hR.fr f2
  have hr2 : h_r h2 0 8 = some c := by rw [f2.2.1]; exact hr
  cases o with
  | none =>
    refine B_Ow_fool_24 (fun z => absurd rfl z) (fun _ => B_Ow_fool_27 (k2 kd none h2 hk rfl s2 (CWd.gw f2.gw (by have := hG.2.1; omega) (fun a k z => by unfold Wfo at z; omega) hw1) (fun c' e => ?_) (Gw.lz2 (W := Wcd) hc hG (f2.gw.up (fun a k z => Or.inl (by unfold Wfo at z; omega))) (fun _ _ z => z.elim) hr hn)))
    rw [hr2] at e
    exact Option.some.inj e ▸ hR2
  | some w' =>
    refine B_Ow_fool_24 (fun _ => B_Ow_fool_29 hO2.1 (or_theWord hO2) hR2.1 (re_copyTo hO2 hR2 b2 (fun h3 c3 f3 => B_Ow_fool_37 (f3.ow hO2).1 (or_theWord (f3.ow hO2)) (os_theWord (f3.ow hO2)) ?_))) (fun z => by
      rw [if_neg (fun y => by cases y)] at z
      exact absurd z (by decide))
    rw [c3.2.1]
    refine k2 kd (some w') h3 hk rfl s2 c3 (fun c' e => ?_) (Gw.lz2 (W := Wcd) hc hG ((f2.gw.up (fun a k z => Or.inl (by unfold Wfo at z; omega))).tr (f3.gw.up (fun a k z => Or.inr z))) (fun _ _ z => z.elim) hr hn)
    rw [f3.2.1, hr2] at e
    exact Option.some.inj e ▸ hR2.fr f3
