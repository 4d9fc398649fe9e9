/-! fool on the reference's side: all tails covered; all pairs; the answer -/
def MCv (h : PH) (gs : List (List Nat)) (m : Nat) : Prop := ∀ u f, (ENs gs m)[u]? = some f → ∃ o, lst (cv gs m (rwE gs f)) o ∧ CvO h u o
def Wlc (c k : Nat) : Prop := Wtr c k ∨ c = 38 ∨ c = 39
theorem wlc_g : ∀ c k, Wlc c k → ¬ ((c = 17 ∧ (k = 4 ∨ k = 6)) ∨ c = 18 ∨ c = 19) := fun c k q => by unfold Wlc Wtr at q; omega
theorem wlc_t : ∀ c k, Wlc c k → ¬ Wlt c k := fun c k q y => by unfold Wlc Wtr at q; unfold Wlt at y; omega
theorem md_layCover {d : Nat} {h : PH} {Q : PQ} {gs : List (List Nat)} {m : Nat} (hM : MdS h) (hg : MGr h gs m) (hT : MTl h gs m) (k : ∀ h', MCv h' gs m → Fr Wlc h h' → Q none h') : wpm (d + 4) 237 [.ref 17] h Q := by
  refine wpm_in P_Md_layCover rfl (by decide) (by show ¬ 4 < 1; decide) (B_Md_layCover_0 ?_)
  have ho := hg.1
  have h14 := ho.1
  have N84 := ENs_len (gs := gs) (m := m) ho
  have mg : ∀ {g : PH}, Fr Wlc h g → MGr g gs m := fun hf => MGr.fr hf wlc_g hg
  have mt : ∀ {g : PH}, Fr Wlc h g → MTl g gs m := fun hf => hT.fr hf wlc_t ho
  have upc : ∀ {t : Nat} {g g' : PH}, Fr (Wcb t) g g' → Fr Wlc g g' := fun hf => hf.up (fun c k z => by unfold Wcb Wtr at z; unfold Wlc Wtr; omega)
  -- all groups over one tail
  have groups : ∀ (n t : Nat) (e : Nat × Nat), (ENs gs m)[t]? = some e → ∀ (c j : Nat) (g : PH) (S : List Nat → Prop) (o : Option (List Nat)), gs.length - j = c → j ≤ gs.length → Fr Wlc h g → (∀ u f, (ENs gs m)[u]? = some f → (rwE gs f).length < (rwE gs e).length → ∃ o, lst (cv gs m (rwE gs f)) o ∧ CvO g u o) → lst S o → CvO g t o → (∀ w, S w ↔ ∃ k, k < j ∧ cvG gs m (rwE gs e) k w) → (∀ g' x3, Fr Wlc h g' → Fr (Wcb t) g g' → (∃ o, lst (cv gs m (rwE gs e)) o ∧ CvO g' t o) → wpx (d + 3) P_Md_layCover 59 [.ref 17, .int (nI n), .int (nI t), .int x3] [] g' Q) → wpx (d + 3) P_Md_layCover 39 [.ref 17, .int (nI n), .int (nI t), .int (nI j)] [] g Q := by
    intro n t e ht c
    induction c with
    | zero =>
      intro j g S o hc hj hf hC hS hO hw kk
      refine B_Md_layCover_39 (hf.md hM).1 (fun _ => kk g _ hf (Fr.rf _ _) ⟨o, lst_up hS (fun w => (hw w).trans ⟨fun ⟨k, a, b⟩ => cv_G.mpr ⟨k, by omega, b⟩, fun y => ?_⟩), hO⟩) (fun q => ?_)
      · obtain ⟨k, a, b⟩ := cv_G.mp y
        exact ⟨k, by omega, b⟩
      · rw [(mg hf).2.1, nI_leI (by omega) (by omega)] at q
        omega
    | succ c ih =>
      intro j g S o hc hj hf hC hS hO hw kk
      have hMg := hf.md hM
      refine B_Md_layCover_39 hMg.1 (fun q => ?_) (fun _ => B_Md_layCover_47 hMg.1 (md_coversBy hMg (mg hf) (mt hf) ht (by omega) hC hS hO (fun g' o' s' c' f' => B_Md_layCover_53 ?_)))
      · rw [(mg hf).2.1, nI_leI (by omega) (by omega)] at q
        omega
      · rw [nI_1]
        refine ih (j + 1) g' _ o' (by omega) (by omega) (hf.tr (upc f')) (fun u f hu hl => ?_) s' c' (fun w => ?_) (fun g'' x3 a b => kk g'' x3 a (f'.tr b))
        · obtain ⟨o2, a, b⟩ := hC u f hu hl
          have ne : u ≠ t := fun y => by
            rw [y, ht] at hu
            rw [Option.some.inj hu] at hl
            omega
          exact ⟨o2, a, b.fr f' (fun c k z => by unfold Wcb Wtr at z; omega)⟩
        · rw [hw w]
          constructor
          · rintro (⟨k, a, b⟩ | b)
            · exact ⟨k, by omega, b⟩
            · exact ⟨j, by omega, b⟩
          · rintro ⟨k, a, b⟩
            by_cases y : k = j
            · rw [y] at b
              exact Or.inr b
            · exact Or.inl ⟨k, by omega, b⟩
  -- all tails of a length
  have tails : ∀ (n : Nat), n ≤ 6 → ∀ (c t : Nat) (g : PH) (v3 : Value), (ENs gs m).length - t = c → t ≤ (ENs gs m).length → Fr Wlc h g → (∀ u f, (ENs gs m)[u]? = some f → ((rwE gs f).length < n ∨ ((rwE gs f).length = n ∧ u < t)) → ∃ o, lst (cv gs m (rwE gs f)) o ∧ CvO g u o) → (∀ g' x2 v3, Fr Wlc h g' → (∀ u f, (ENs gs m)[u]? = some f → (rwE gs f).length < n + 1 → ∃ o, lst (cv gs m (rwE gs f)) o ∧ CvO g' u o) → wpx (d + 3) P_Md_layCover 65 [.ref 17, .int (nI n), .int x2, v3] [] g' Q) → wpx (d + 3) P_Md_layCover 10 [.ref 17, .int (nI n), .int (nI t), v3] [] g Q := by
    intro n n6 c
    induction c with
    | zero =>
      intro t g v3 hc ht hf hD kk
      refine B_Md_layCover_10 (hf.md hM).1 (fun _ => kk g _ v3 hf (fun u f hu hl => hD u f hu ?_)) (fun q => ?_)
      · have := (List.getElem?_eq_some_iff.mp hu).1
        omega
      · rw [(mt hf).1.2.1, nI_leI (by omega) (by omega)] at q
        omega
    | succ c ih =>
      intro t g v3 hc ht hf hD kk
      have hMg := hf.md hM
      have gt : (ENs gs m)[t]? = some (ENs gs m)[t] := List.getElem?_eq_getElem (by omega)
      generalize (ENs gs m)[t] = e at gt
      have r7 := (rwE_okr ho e).2
      refine B_Md_layCover_10 hMg.1 (fun q => ?_) (fun _ => B_Md_layCover_18 hMg.1 (md_tailSize hMg (mg hf) (mt hf).1 gt (B_Md_layCover_23 (fun q => ?_) (fun q => B_Md_layCover_27 (B_Md_layCover_59 ?_)))))
      · rw [(mt hf).1.2.1, nI_leI (by omega) (by omega)] at q
        omega
      · rw [nI_eq (by omega) (by omega)] at q
        refine B_Md_layCover_30 hMg.1 (mr_coverSize hMg) (ms_coverSize hMg) (vp_in_nI (by omega) (by omega)) ?_
        rw [nI_clamp (by omega)]
        have f1 : Fr (Wcb t) g (w_i g 39 t (-1)) := Fr.wi g _ (Or.inr (Or.inr ⟨rfl, rfl⟩))
        have keep : ∀ {g2 g3 : PH}, Fr (Wcb t) g2 g3 → ∀ u f, (ENs gs m)[u]? = some f → u ≠ t → (∃ o, lst (cv gs m (rwE gs f)) o ∧ CvO g2 u o) → ∃ o, lst (cv gs m (rwE gs f)) o ∧ CvO g3 u o := fun hf2 u f _ hne ⟨o, a, b⟩ => ⟨o, a, b.fr hf2 (fun c k z => by unfold Wcb Wtr at z; omega)⟩
        refine groups n t e gt gs.length 0 _ (fun _ => False) none rfl (Nat.zero_le _) (hf.tr (upc f1)) (fun u f hu hl => keep f1 u f hu (fun y => by
          rw [y, gt] at hu
          rw [Option.some.inj hu] at hl
          omega) (hD u f hu (Or.inl (by omega)))) (fun w z => z) ⟨wi_eq _ _ _ _, fun b hb => by cases hb⟩ (fun w => ⟨fun z => absurd z id, fun ⟨k, a, _⟩ => by omega⟩) (fun g' x3 F' f' c' => B_Md_layCover_59 ?_)
        rw [nI_1]
        refine ih (t + 1) g' _ (by omega) (by omega) F' (fun u f hu hl => ?_) kk
        by_cases y : u = t
        · rw [y, gt] at hu
          rw [y, ← Option.some.inj hu]
          exact c'
        · exact keep (f1.tr f') u f hu y (hD u f hu (by omega))
      · rw [nI_eq (by omega) (by omega)] at q
        rw [nI_1]
        refine ih (t + 1) g _ (by omega) (by omega) hf (fun u f hu hl => hD u f hu ?_) kk
        by_cases y : u = t
        · rw [y, gt] at hu
          have : e = f := Option.some.inj hu
          subst this
          omega
        · omega
  have outer : ∀ (c n : Nat) (g : PH) (v2 v3 : Value), 7 - n = c → n ≤ 7 → Fr Wlc h g → (∀ u f, (ENs gs m)[u]? = some f → (rwE gs f).length < n → ∃ o, lst (cv gs m (rwE gs f)) o ∧ CvO g u o) → wpx (d + 3) P_Md_layCover 2 [.ref 17, .int (nI n), v2, v3] [] g Q := by
    intro c
    induction c with
    | zero =>
      intro n g v2 v3 hc hn hf hD
      refine B_Md_layCover_2 (fun _ => B_Md_layCover_71 (k g (fun u f hu => hD u f hu ?_) hf)) (fun q => ?_)
      · have i2 := (ENs_in f (List.mem_of_getElem? hu)).2
        obtain ⟨le, e1, e2, e3, _⟩ := hT.1.at hu
        have := ((ho.at e1).1).2
        rw [e3, List.length_drop]
        omega
      · rw [show (6 : Int32) = nI 6 from rfl, nI_ltI (by omega) (by omega)] at q
        omega
    | succ c ih =>
      intro n g v2 v3 hc hn hf hD
      refine B_Md_layCover_2 (fun q => ?_) (fun _ => B_Md_layCover_8 (tails n (by omega) (ENs gs m).length 0 g v3 rfl (Nat.zero_le _) hf (fun u f hu hl => hD u f hu (by omega)) (fun g' x2 v3 f' D' => B_Md_layCover_65 ?_)))
      · rw [show (6 : Int32) = nI 6 from rfl, nI_ltI (by omega) (by omega)] at q
        omega
      · rw [nI_1]
        exact ih (n + 1) g' _ _ (by omega) (by omega) f' D'
  exact outer 6 1 h _ _ rfl (by omega) (Fr.rf _ _) (fun u f hu hl => by
    have i2 := (ENs_in f (List.mem_of_getElem? hu)).2
    obtain ⟨le, e1, e2, e3, _⟩ := hT.1.at hu
    rw [e3, List.length_drop] at hl
    omega)
theorem MCv.fr {W : Nat → Nat → Prop} {h h' : PH} {gs : List (List Nat)} {m : Nat} (hf : Fr W h h') (hw : ∀ c k, W c k → ¬ (c = 38 ∨ c = 39)) (hc : MCv h gs m) : MCv h' gs m := fun u f hu => by
  obtain ⟨o, a, b⟩ := hc u f hu
  exact ⟨o, a, b.fr hf (fun c k z y => hw c k z (by omega))⟩
def LeO (h : PH) (o : Option (List Nat)) : Prop := SRw h 40 0 17 47 o ∧ ∀ b, o = some b → b.length ≤ 13
def Wfb (c k : Nat) : Prop := Wtr c k ∨ c = 40 ∨ (c = 17 ∧ k = 47)
theorem wfb_g : ∀ c k, Wfb c k → ¬ ((c = 17 ∧ (k = 4 ∨ k = 6)) ∨ c = 18 ∨ c = 19) := fun c k q => by unfold Wfb Wtr at q; omega
theorem wfb_t : ∀ c k, Wfb c k → ¬ Wlt c k := fun c k q y => by unfold Wfb Wtr at q; unfold Wlt at y; omega
theorem LeO.tr0 {h h' : PH} {o : Option (List Nat)} (hf : Fr Wtr h h') (hl : LeO h o) : LeO h' o := ⟨hl.1.fr hf (fun z => by unfold Wtr at z; omega) (fun b _ i _ z => by unfold Wtr at z; omega), hl.2⟩
theorem LeO.bet {h : PH} {o : Option (List Nat)} {w : List Nat} (hs : SRw h 40 0 17 47 (bet o w)) (ho : ∀ b, o = some b → b.length ≤ 13) (hw : w.length ≤ 13) : LeO h (bet o w) := by
  refine ⟨hs, fun b hb => ?_⟩
  by_cases z : bfr o w
  · rw [bet_t z] at hb
    rw [← Option.some.inj hb]
    exact hw
  · rw [bet_f z] at hb
    exact ho b hb
theorem md_foolsBy {d : Nat} {h : PH} {Q : PQ} {gs : List (List Nat)} {m kd a b : Nat} {S : List Nat → Prop} {o : Option (List Nat)} (hk : kd < 3) (hM : MdS h) (hg : MGr h gs m) (hu : unlk gs) (hT : MTl h gs m) (hC : MCv h gs m) (ha : a < gs.length) (hb : b < gs.length) (hab : abC m a b) (hS : lst S o) (hO : LeO h o) (k : ∀ h' o', lst (fun w => S w ∨ fwP gs m kd a b w) o' → LeO h' o' → Fr Wfb h h' → Q none h') : wpm (d + 4) 240 [.ref 17, .int (nI kd), .int (nI a), .int (nI b)] h Q := by
  refine wpm_in P_Md_foolsBy rfl (by decide) (by show ¬ 6 < 4; decide) ?_
  have ho := hg.1
  have h14 := ho.1
  have N84 := ENs_len (gs := gs) (m := m) ho
  obtain ⟨a1, a2, a3⟩ := ho.at (gS ha)
  obtain ⟨b1, b2, b3⟩ := ho.at (gS hb)
  have a7 := a1.2
  have b7 := b1.2
  have unl : gs.getD a [] ≠ gs.getD b [] := fun y => hab.1 (hu a b ha hb y)
  have mg : ∀ {g : PH}, Fr Wfb h g → MGr g gs m := fun hf => MGr.fr hf wfb_g hg
  have mt : ∀ {g : PH}, Fr Wfb h g → MTl g gs m := fun hf => hT.fr hf wfb_t ho
  have tr0 : ∀ g : PH, MTr (w_i g 17 38 0) [] := fun g => ⟨Nat.zero_le _, wi_eq _ _ _ _, fun j x hj => by cases hj⟩
  have f0 : ∀ g : PH, Fr Wtr g (w_i g 17 38 0) := fun g => Fr.wi g _ (Or.inl ⟨rfl, rfl⟩)
  -- the second half: a group that the row's begins
  have second : ∀ (g : PH) (o : Option (List Nat)) (S1 : List Nat → Prop) (v4 v5 : Value), Fr Wfb h g → LeO g o → lst S1 o → (kd = 2 → b < a) → (∀ w, S1 w ↔ (S w ∨ (pfR gs kd a b ∧ gs.getD b [] = (gs.getD a []).take (gs.getD b []).length ∧ w = gs.getD a []))) → wpx (d + 3) P_Md_foolsBy 39 [.ref 17, .int (nI kd), .int (nI a), .int (nI b), v4, v5] [] g Q := by
    intro g o S1 v4 v5 hf hO hS1 hk2 hw1
    have hMg := hf.md hM
    have hgg := mg hf
    have hTg := mt hf
    -- nothing more
    have no : (∀ t w', t ≠ [] → gs.getD b [] = gs.getD a [] ++ t → pfR gs kd a b → ¬ cv gs m t w') → ∀ v4 v5, wpx (d + 3) P_Md_foolsBy 149 [.ref 17, .int (nI kd), .int (nI a), .int (nI b), v4, v5] [] g Q := fun hn v4 v5 => by
      refine B_Md_foolsBy_149 (k g o (lst_up hS1 (fun w => (hw1 w).trans ⟨fun z => z.imp id (fun ⟨p, q, r⟩ => ⟨hab, p, Or.inl ⟨q, r⟩⟩), fun z => z.imp id (fun ⟨_, p, q⟩ => ?_)⟩)) hO hf)
      rcases q with q | ⟨t, w', t0, t1, t2, _⟩
      · exact ⟨p, q.1, q.2⟩
      · exact absurd t2 (hn t w' t0 t1 p)
    refine B_Md_foolsBy_39 (fun z => ?_) (fun z => B_Md_foolsBy_44 hMg.1 (md_begins hMg hgg (gS ha) (gS hb) ?_))
    · have k1 : kd = 1 := (nI_eq (b := 1) (by omega) (by omega)).mp z
      refine no (fun t w' t0 t1 p _ => ?_) _ _
      have q := congrArg List.length t1
      rw [List.length_append] at q
      have := List.length_pos_iff.mpr t0
      rcases p with p | p | p <;> omega
    · have k1 : ¬ kd = 1 := fun y => z (by rw [y]; rfl)
      by_cases y : gs.getD a [] = (gs.getD b []).take (gs.getD a []).length
      · rw [if_pos y]
        have et := tak_app y
        have ll : (gs.getD a []).length < (gs.getD b []).length := by
          have q := congrArg List.length y
          rw [List.length_take] at q
          by_cases u : (gs.getD a []).length = (gs.getD b []).length
          · rw [u, List.take_length] at y
            exact absurd y unl
          · omega
        have pf : pfR gs kd a b := by
          rcases (show kd = 0 ∨ kd = 2 by omega) with u | u
          · exact Or.inl ⟨u, ll⟩
          · exact Or.inr (Or.inr ⟨u, hk2 u⟩)
        obtain ⟨t, f, t1, t2, t3⟩ := hTg.2.1 b _ (gs.getD a []).length (gS hb) hab.2.2 a2 ll (Or.inl hb)
        have tl := (List.getElem?_eq_some_iff.mp t1).1
        have t0 : rwE gs f ≠ [] := List.length_pos_iff.mp (by rw [t2, List.length_drop]; omega)
        rw [← t2] at et
        have e19 : h_i g 19 (nI a).toNatClampNeg = nI (gs.getD a []).length := by
          rw [nI_clamp (by omega)]
          exact (hgg.2.2.2 _ _ (gS ha)).1
        have e8 : ((8 : Int32) * nI b) + h_i g 19 (nI a).toNatClampNeg = nI (8 * b + (gs.getD a []).length) := by rw [e19, show (8 : Int32) = nI 8 from rfl, nI_mulN, nI_add]
        have vt : vp_in (nI t) 100 := vp_in_nI (by omega) (by omega)
        obtain ⟨o2, o21, o22⟩ := (hC.fr hf (fun c k z => by unfold Wfb Wtr at z; omega)) t f t1
        refine B_Md_foolsBy_50 (fun q => absurd q (by decide)) (fun _ => B_Md_foolsBy_53 hMg.1 (mr_endOf hMg) (mr_size hMg) (ms_size hMg) (vp_in_nI (by omega) (by omega)) (ms_endOf hMg) (by rw [e8]; exact vp_in_nI (by omega) (by omega)) (mr_coverSize hMg) (ms_coverSize hMg) (by rw [e8, nI_clamp (by omega), t3]; exact vt) (fun q => ?_) (fun q => ?_))
        · rw [e8, nI_clamp (by omega), t3, nI_clamp (by omega)] at q
          refine no (fun t' w' _ u1 _ u2 => ?_) _ _
          rw [et] at u1
          have sf := List.append_cancel_left u1
          rw [← sf] at u2
          cases o2 with
          | none => exact o21 _ u2
          | some w2 =>
            rw [o22.1.2.1] at q
            exact nI_pos (by have := o22.2 w2 rfl; omega) q
        · rw [e8, nI_clamp (by omega), t3, nI_clamp (by omega)] at q
          rw [e8, nI_clamp (by omega), t3]
          cases o2 with
          | none =>
            have u : h_i g 39 t = -1 := o22.1
            rw [u] at q
            exact absurd (by decide) q
          | some w2 =>
            obtain ⟨⟨lw2, sw2, cw2⟩, w13⟩ := o22
            have w13' := w13 w2 rfl
            obtain ⟨⟨x2, xe, xl⟩, _⟩ := cv_ok ho t0 o21.1
            have wl : w2.length ≤ (rwE gs f).length + 6 := by
              have := congrArg List.length xe
              rw [List.length_append] at this
              omega
            have rl : (gs.getD a []).length + (rwE gs f).length = (gs.getD b []).length := by
              have := congrArg List.length et
              rw [List.length_append] at this
              omega
            refine B_Md_foolsBy_81 hMg.1 (md_tries ((f0 g).md hMg) (MGr.fr (f0 g) wtr_g hgg) (tr0 g) (gS ha) (f := 0) (Nat.zero_le _) (by show 0 + _ ≤ _; omega) (fun g1 t1' f1 => B_Md_foolsBy_92 ?_))
            rw [List.drop_zero, List.nil_append] at t1'
            have loop : ∀ (c i : Nat) (g2 : PH), w2.length - i = c → i ≤ w2.length → Fr Wtr g g2 → MTr g2 (gs.getD a [] ++ w2.take i) → wpx (d + 3) P_Md_foolsBy 95 [.ref 17, .int (nI kd), .int (nI a), .int (nI b), .int (nI t), .int (nI i)] [] g2 Q := by
              intro c
              induction c with
              | zero =>
                intro i g2 hc hi hf2 ht2
                have hMg := hf2.md hMg
                have ei : i = w2.length := by omega
                rw [ei, List.take_length] at ht2
                have sw : h_i g2 39 (nI t).toNatClampNeg = nI w2.length := by
                  rw [nI_clamp (by omega), hf2.i _ _ (by unfold Wtr; omega)]
                  exact sw2
                refine B_Md_foolsBy_95 hMg.1 (mr_coverSize hMg) (ms_coverSize hMg) vt (fun _ => B_Md_foolsBy_145 hMg.1 ?_) (fun v => ?_)
                · have O2 := hO.tr0 hf2
                  have wl13 : (gs.getD a [] ++ w2).length ≤ 13 := by
                    rw [List.length_append]
                    omega
                  refine md_takesLeast hMg ht2 (lets.app a1.1 lw2) (by omega) O2.1 (fun b hb => by have := O2.2 b hb; omega) (fun g3 s3 f3 => B_Md_foolsBy_149 (k g3 _ (lst_up (lst_adds (R := fun w => ∃ w', cv gs m (rwE gs f) w' ∧ w = gs.getD a [] ++ w') hS1 ⟨w2, o21.1, rfl⟩ (fun w' ⟨w'', u1, u2⟩ => ?_)) (fun w => ?_)) (LeO.bet s3 O2.2 wl13) (hf.tr ((hf2.up (fun c k v => Or.inl v)).tr (f3.up (fun c k v => Or.inr v))))))
                  · rw [u2]
                    exact pkN_pre lw2 (cv_ok ho t0 u1).2 (o21.2 w'' u1)
                  · rw [hw1 w]
                    constructor
                    · rintro ((u | ⟨p, u1, u2⟩) | ⟨w', u1, u2⟩)
                      · exact Or.inl u
                      · exact Or.inr ⟨hab, p, Or.inl ⟨u1, u2⟩⟩
                      · exact Or.inr ⟨hab, pf, Or.inr ⟨_, w', t0, et, u1, u2⟩⟩
                    · rintro (u | ⟨_, p, u⟩)
                      · exact Or.inl (Or.inl u)
                      · rcases u with u | ⟨t', w', _, u1, u2, u3⟩
                        · exact Or.inl (Or.inr ⟨p, u.1, u.2⟩)
                        · rw [et] at u1
                          rw [← List.append_cancel_left u1] at u2
                          exact Or.inr ⟨w', u2, u3⟩
                · rw [sw, nI_leI (by omega) (by omega)] at v
                  omega
              | succ c ih =>
                intro i g2 hc hi hf2 ht2
                have hMg := hf2.md hMg
                have gw : w2[i]? = some w2[i] := List.getElem?_eq_getElem (by omega)
                have sw : h_i g2 39 (nI t).toNatClampNeg = nI w2.length := by
                  rw [nI_clamp (by omega), hf2.i _ _ (by unfold Wtr; omega)]
                  exact sw2
                have e30 : ((30 : Int32) * nI t) + nI i = nI (30 * t + i) := by rw [show (30 : Int32) = nI 30 from rfl, nI_mulN, nI_add]
                have tlen : (gs.getD a [] ++ w2.take i).length = (gs.getD a []).length + i := by
                  rw [List.length_append, List.length_take]
                  omega
                have st := ht2.2.1
                rw [tlen] at st
                refine B_Md_foolsBy_95 hMg.1 (mr_coverSize hMg) (ms_coverSize hMg) vt (fun v => ?_) (fun _ => B_Md_foolsBy_107 hMg.1 (mr_trial hMg) (mr_cover hMg) (ms_cover hMg) (by rw [e30]; exact vp_in_nI (by omega) (by omega)) (ms_trial hMg) (by rw [st]; exact vp_in_nI (by omega) (by omega)) (B_Md_foolsBy_139 ?_))
                · rw [sw, nI_leI (by omega) (by omega)] at v
                  omega
                · have cx : h_i g2 38 (30 * t + i) = nI (w2[i] + 96) := (hf2.i _ _ (by unfold Wtr; omega)).trans (cw2 _ _ gw)
                  rw [e30, st, nI_clamp (by omega), nI_clamp (by omega), cx, wi_ne _ _ (by omega), st, nI_1, nI_1]
                  refine ih (i + 1) _ (by omega) (by omega) (hf2.tr ((Fr.wi g2 _ (Or.inr rfl)).tr (Fr.wi _ _ (Or.inl ⟨rfl, rfl⟩)))) ?_
                  rw [List.take_add_one, gw, ← List.append_assoc]
                  refine ⟨?_, ?_, fun j x hj => ?_⟩
                  · rw [List.length_append, tlen]
                    show _ + 1 ≤ 800
                    omega
                  · rw [wi_eq, List.length_append, tlen]
                    rfl
                  · rw [wi_ne _ _ (by omega)]
                    by_cases y : j = (gs.getD a []).length + i
                    · rw [y, ← tlen, List.getElem?_append_right (Nat.le_refl _), Nat.sub_self] at hj
                      have : w2[i] = x := Option.some.inj hj
                      rw [y, wi_eq, this]
                    · have jl := (List.getElem?_eq_some_iff.mp hj).1
                      rw [List.length_append, tlen] at jl
                      have jl' : j < (gs.getD a []).length + i := by
                        have h1 : (some w2[i]).toList.length = 1 := rfl
                        omega
                      rw [List.getElem?_append_left (by rw [tlen]; exact jl')] at hj
                      rw [wi_ne _ _ (by omega)]
                      exact ht2.2.2 j x hj
            refine loop w2.length 0 g1 rfl (Nat.zero_le _) ((f0 g).tr f1) ?_
            rw [List.take_zero, List.append_nil]
            exact t1'
      · rw [if_neg y]
        refine B_Md_foolsBy_50 (fun _ => no (fun t w' _ u1 _ _ => y (by rw [u1, List.take_left])) _ _) (fun q => absurd rfl q)
  -- the first half: a group that begins the row's
  have first : (kd = 2 → b < a) → ∀ v4 v5, wpx (d + 3) P_Md_foolsBy 11 [.ref 17, .int (nI kd), .int (nI a), .int (nI b), v4, v5] [] h Q := fun hk2 v4 v5 => by
    have no : (pfR gs kd a b → ¬ gs.getD b [] = (gs.getD a []).take (gs.getD b []).length) → wpx (d + 3) P_Md_foolsBy 39 [.ref 17, .int (nI kd), .int (nI a), .int (nI b), v4, v5] [] h Q := fun hn => second h o S v4 v5 (Fr.rf _ _) hO hS hk2 (fun w => ⟨Or.inl, fun z => z.elim id (fun ⟨p, q, _⟩ => absurd q (hn p))⟩)
    refine B_Md_foolsBy_11 (fun z => no (fun p y => ?_)) (fun z => B_Md_foolsBy_15 hM.1 (md_begins hM hg (gS hb) (gS ha) ?_))
    · have k0 : kd = 0 := (nI_eq (b := 0) (by omega) (by omega)).mp z
      have q := congrArg List.length y
      rw [List.length_take] at q
      rcases p with p | p | p <;> omega
    · have k0 : ¬ kd = 0 := fun y => z (by rw [y]; rfl)
      by_cases y : gs.getD b [] = (gs.getD a []).take (gs.getD b []).length
      · rw [if_pos y]
        have ll : (gs.getD b []).length < (gs.getD a []).length := by
          have q := congrArg List.length y
          rw [List.length_take] at q
          by_cases u : (gs.getD b []).length = (gs.getD a []).length
          · rw [u, List.take_length] at y
            exact absurd y.symm unl
          · omega
        have pf : pfR gs kd a b := by
          rcases (show kd = 1 ∨ kd = 2 by omega) with u | u
          · exact Or.inr (Or.inl ⟨u, ll⟩)
          · exact Or.inr (Or.inr ⟨u, hk2 u⟩)
        refine B_Md_foolsBy_21 (fun q => absurd q (by decide)) (fun _ => B_Md_foolsBy_24 hM.1 (md_tries ((f0 h).md hM) (MGr.fr (f0 h) wtr_g hg) (tr0 h) (gS ha) (f := 0) (Nat.zero_le _) (by show 0 + _ ≤ _; omega) (fun g1 t1 f1 => ?_)))
        rw [List.drop_zero, List.nil_append] at t1
        have F1 := (f0 h).tr f1
        have O1 := hO.tr0 F1
        have hM1 := F1.md hM
        refine B_Md_foolsBy_35 hM1.1 (md_takesLeast hM1 t1 a1.1 (by omega) O1.1 (fun b hb => by have := O1.2 b hb; omega) (fun g2 s2 f2 => second g2 _ (fun w => S w ∨ w = gs.getD a []) _ _ ((F1.up (fun c k v => Or.inl v)).tr (f2.up (fun c k v => Or.inr v))) (LeO.bet s2 O1.2 (by omega)) (lst_add hS) hk2 (fun w => ⟨fun q => q.imp id (fun q => ⟨pf, y, q⟩), fun q => q.imp id (fun q => q.2.2)⟩)))
      · rw [if_neg y]
        exact B_Md_foolsBy_21 (fun _ => no (fun _ => y)) (fun q => absurd rfl q)
  refine B_Md_foolsBy_0 (fun z => first (fun y => absurd (by rw [y]; rfl) z) _ _) (fun z => B_Md_foolsBy_5 (fun y => first (fun _ => ?_) _ _) (fun y => B_Md_foolsBy_10 (k h o (lst_up hS (fun w => ⟨Or.inl, fun q => q.elim id (fun q => ?_)⟩)) hO (Fr.rf _ _))))
  · rw [nI_leI (by omega) (by omega)] at y
    have := hab.1
    omega
  · have k2 : kd = 2 := (nI_eq (b := 2) (by omega) (by omega)).mp z
    rw [nI_leI (by omega) (by omega)] at y
    rcases q.2.1 with p | p | p <;> omega
