/-! look on the reference's side -/
noncomputable def dvB (gs : List (List Nat)) (m : Nat) (r : List Nat) : Bool := @decide (DvR gs m r) (Classical.propDecidable _)
theorem dvB_t {gs : List (List Nat)} {m : Nat} {r : List Nat} : dvB gs m r = true ↔ DvR gs m r := ⟨fun h => @of_decide_eq_true _ (Classical.propDecidable _) h, fun h => @decide_eq_true _ (Classical.propDecidable _) h⟩
noncomputable def mL (gs : List (List Nat)) (m : Nat) : List (List Nat) := ((ENs gs m).map (rwE gs)).filter (dvB gs m)
theorem mL_cov {gs : List (List Nat)} {m : Nat} (ho : okg gs m) : CovL gs m (mL gs m) := fun r => by
  unfold mL
  rw [List.mem_filter, dvB_t]
  refine ⟨fun h => h.2, fun h => ⟨?_, h⟩⟩
  obtain ⟨e, e1, e2⟩ := ENs_has (DvR_E ho h)
  exact List.mem_map.mpr ⟨e, e1, e2⟩
theorem icV_c {gs : List (List Nat)} {m a b : Nat} {f f' : List Nat → Nat} (ho : okg gs m) (hu : unlk gs) (ha : a < gs.length) (hb : b < gs.length) (hab : abC m a b) (h : ∀ x, DvR gs m x → f x = f' x) : icV gs f a b = icV gs f' a b := by
  unfold icV
  by_cases z : gs.getD a [] = (gs.getD b []).take (gs.getD a []).length
  · rw [if_pos z, if_pos z, h _ (fs_Dv ho hu ha hb hab z).2]
  · rw [if_neg z, if_neg z]
theorem lkB_c {gs : List (List Nat)} {m a : Nat} {f f' : List Nat → Nat} (ho : okg gs m) (hu : unlk gs) (ha : a < gs.length) (h : ∀ x, DvR gs m x → f x = f' x) : ∀ (e b v : Nat), b + e ≤ gs.length → lkB gs m f a e b v = lkB gs m f' a e b v
  | 0, _, _, _ => rfl
  | e + 1, b, v, hb => by
    show lkB gs m f a e (b + 1) (if abC m a b then _ else v) = lkB gs m f' a e (b + 1) (if abC m a b then _ else v)
    by_cases z : abC m a b
    · rw [if_pos z, if_pos z, icV_c ho hu ha (by omega) z h]
      exact lkB_c ho hu ha h e (b + 1) _ (by omega)
    · rw [if_neg z, if_neg z]
      exact lkB_c ho hu ha h e (b + 1) _ (by omega)
theorem lkA_c {gs : List (List Nat)} {m : Nat} {f f' : List Nat → Nat} (ho : okg gs m) (hu : unlk gs) (h : ∀ x, DvR gs m x → f x = f' x) : ∀ (e a v : Nat), a + e ≤ gs.length → lkA gs m f e a v = lkA gs m f' e a v
  | 0, _, _, _ => rfl
  | e + 1, a, v, ha => by
    show lkA gs m f e (a + 1) (lkB gs m f a gs.length 0 v) = lkA gs m f' e (a + 1) (lkB gs m f' a gs.length 0 v)
    rw [lkB_c ho hu (by omega) h gs.length 0 v (by omega)]
    exact lkA_c ho hu h e (a + 1) _ (by omega)
def CMo (h : PH) (gs : List (List Nat)) (m : Nat) (f : List Nat → Nat) : Prop := ∀ t e, (ENs gs m)[t]? = some e → h_i h 35 t = nI (f (rwE gs e))
theorem upF_m {gs : List (List Nat)} {m t v : Nat} {e : Nat × Nat} {f : List Nat → Nat} {h : PH} (ho : okg gs m) (ht : (ENs gs m)[t]? = some e) (hd : CMo h gs m f) : CMo (w_i h 35 t (nI v)) gs m (upF f (rwE gs e) v) := fun u s hu => by
  unfold upF
  by_cases z : rwE gs s = rwE gs e
  · have := ENs_inj ho hu ht z
    subst this
    rw [if_pos z, wi_eq]
  · rw [if_neg z, wi_ne _ _ (fun y => z (by
      have q : u = t := y.2
      rw [q, ht] at hu
      rw [Option.some.inj hu]))]
    exact hd u s hu
/-- what a tail and a group come to, by what is left of them -/
theorem tl_V {gs : List (List Nat)} {m t g : Nat} {v : Int32} {e : Nat × Nat} (hg : g < gs.length) (hin : inm m g) (ht : (ENs gs m)[t]? = some e) (h : tlS gs m t g v) : (v < 0 ∧ rsO (gs.getD g []) (rwE gs e) = none) ∨ ∃ u f, (ENs gs m)[u]? = some f ∧ v = nI u ∧ rsO (gs.getD g []) (rwE gs e) = some (rwE gs f) := by
  rcases h.2 hin e _ ht (gS hg) with ⟨h1, h2⟩ | ⟨u, f, h1, h2, h3, h4⟩ | ⟨h1, h2, h3⟩
  · refine Or.inl ⟨by rw [h2]; decide, rsO_0 (fun y => ?_) (fun y => ?_)⟩
    · rw [h1] at y
      omega
    · rw [h1] at y
      omega
  · have f0 := List.length_pos_iff.mpr h2
    refine Or.inr ⟨u, f, h1, h4, ?_⟩
    rcases h3 with h3 | h3
    · have q := congrArg List.length h3
      rw [List.length_append] at q
      rw [rsO_2 (by rw [h3, List.take_left]) (by omega), h3, List.drop_left]
    · have q := congrArg List.length h3
      rw [List.length_append] at q
      rw [rsO_1 (by rw [h3, List.take_left]) (by omega), h3, List.drop_left]
  · exact Or.inl ⟨by rw [h1]; decide, rsO_0 (fun y => h3 y.1) (fun y => h2 y.1)⟩
def Wlk (c k : Nat) : Prop := c = 35
theorem MTl.dv {h : PH} {gs : List (List Nat)} {m t : Nat} {e : Nat × Nat} (hT : MTl h gs m) (ht : (ENs gs m)[t]? = some e) : h_i h 29 t ≤ 0 ↔ ¬ DvR gs m (rwE gs e) := by
  obtain ⟨v, v1, v2, v3⟩ := hT.2.2.2.1 t e ht
  rw [v2, show (0 : Int32) = nI 0 from rfl, nI_leI (by omega) (by omega)]
  constructor
  · rintro z ⟨j, hj⟩
    have := (v3 j).mpr hj
    omega
  · intro z
    by_cases w : v = 0
    · omega
    · exact absurd ⟨v - 1, (v3 (v - 1)).mp (by omega)⟩ z
theorem md_look {d : Nat} {h : PH} {Q : PQ} {gs : List (List Nat)} {m : Nat} (hM : MdS h) (hg : MGr h gs m) (hu : unlk gs) (hz : MTz h gs m) (k : ∀ h', MTl h' gs m → Fr (fun c k => Wpt c k ∨ Wlk c k) h h' → Q (some (.int (lookR gs m))) h') : wpm (d + 6) 223 [.ref 17] h Q := by
  refine wpm_in P_Md_look rfl (by decide) (by show ¬ 7 < 1; decide) (B_Md_look_0 hM.1 (md_layTails ((th0 h).md hM) (th0_mg hg) hu (th0_mt hg.1 hz) (fun h1 T1 f1 => ?_)))
  have F0 := pt_up f1
  have ho := hg.1
  have h14 := hg.1.1
  have hM1 := F0.md hM
  have N84 := ENs_len (gs := gs) (m := m) ho
  have db := dbR_n (allR_db ho)
  rw [← T1.2.2.2.2.2] at db
  have kk : ∀ h', Fr Wlk h1 h' → Q (some (.int (lookR gs m))) h' := fun h' f' => k h' (T1.fr f' (fun c k z y => by unfold Wlk at z; unfold Wlt at y; omega) ho) ((F0.up (fun _ _ z => Or.inl z)).tr (f'.up (fun _ _ z => Or.inr z)))
  clear k
  have hg1 : MGr h1 gs m := MGr.fr F0 (fun c k z w => by unfold Wpt Wlt at z; omega) hg
  unfold lookR at kk
  refine B_Md_look_9 hM1.1 (fun z => B_Md_look_18 ?_) (fun z => B_Md_look_16 ?_)
  · have e0 : (allR gs m).2 = none := by
      cases e : (allR gs m).2 with
      | none => rfl
      | some y => exact absurd (db.mpr (by rw [e]; intro q; cases q)) (Int32.not_le.mpr z)
    rw [if_pos e0] at kk
    have Lcov := mL_cov (gs := gs) (m := m) ho
    have mlen : (mL gs m).length ≤ (ENs gs m).length := by
      refine Nat.le_trans (List.length_filter_le _ _) ?_
      rw [List.length_map]
      exact Nat.le_refl _
    have same := lkP_same (P := (allL gs m).length + 2) (P' := (ENs gs m).length + 2) ho (allL_cov ho) Lcov (by omega) (by omega)
    have mt : ∀ {g : PH}, Fr Wlk h1 g → MTl g gs m := fun hf => T1.fr hf (fun c k z y => by unfold Wlk at z; unfold Wlt at y; omega) ho
    have mg : ∀ {g : PH}, Fr Wlk h1 g → MGr g gs m := fun hf => MGr.fr hf (fun c k z y => by unfold Wlk at z; omega) hg1
    -- the two groups
    have pairs : ∀ (g : PH) (f : List Nat → Nat) (x2 : Int32) (v3 v4 v5 v6 : Value), Fr Wlk h1 g → CMo g gs m f → (∀ x, f x ≤ 2 ^ 28) → Q (some (.int (nI (lkA gs m f gs.length 0 0)))) g → wpx (d + 5) P_Md_look 204 [.ref 17, .int 0, .int x2, v3, v4, v5, v6] [] g Q := by
      intro g f x2 v3 v4 v5 v6 hf hd hb kq
      have hMg := hf.md hM1
      have hgg := mg hf
      have hTg := mt hf
      refine B_Md_look_204 ?_
      have inner : ∀ (a : Nat), a < gs.length → ∀ (e j v : Nat) (v5 v6 : Value), gs.length - j = e → j ≤ gs.length → v ≤ 2 ^ 28 + 7 → (∀ v' v5 v6, v' ≤ 2 ^ 28 + 7 → v' = lkB gs m f a e j v → wpx (d + 5) P_Md_look 324 [.ref 17, .int 0, .int (nI v'), .int (nI a), .int (nI gs.length), v5, v6] [] g Q) → wpx (d + 5) P_Md_look 219 [.ref 17, .int 0, .int (nI v), .int (nI a), .int (nI j), v5, v6] [] g Q := by
        intro a ha e
        induction e with
        | zero =>
          intro j v v5 v6 he hj hv kn
          have ej : j = gs.length := by omega
          subst ej
          refine B_Md_look_219 hMg.1 (fun _ => kn v _ _ hv rfl) (fun q => ?_)
          rw [hgg.2.1, nI_leI (by omega) (by omega)] at q
          omega
        | succ e ih =>
          intro j v v5 v6 he hj hv kn
          have no : ¬ abC m a j → wpx (d + 5) P_Md_look 318 [.ref 17, .int 0, .int (nI v), .int (nI a), .int (nI j), v5, v6] [] g Q := fun hn => by
            refine B_Md_look_318 ?_
            rw [nI_1]
            refine ih (j + 1) v _ _ (by omega) (by omega) hv (fun v' v5 v6 h1 h2 => kn v' v5 v6 h1 ?_)
            show v' = lkB gs m f a e (j + 1) (if abC m a j then _ else v)
            rw [if_neg hn]
            exact h2
          refine B_Md_look_219 hMg.1 (fun q => ?_) (fun _ => B_Md_look_228 (fun q => no (fun y => y.1 ((nI_eq (by omega) (by omega)).mp q))) (fun q0 => B_Md_look_234 hMg.1 ?_))
          · rw [hgg.2.1, nI_leI (by omega) (by omega)] at q
            omega
          rw [hgg.2.2.1]
          refine md_isOf ho.m31 (by omega) (fun qa => B_Md_look_242 (fun z => absurd z (by decide)) (fun _ => B_Md_look_245 hMg.1 ?_)) (fun qa => B_Md_look_242 (fun _ => no (fun y => qa y.2.1)) (fun z => absurd rfl z))
          rw [hgg.2.2.1]
          refine md_isOf ho.m31 (by omega) (fun qb => B_Md_look_254 (fun z => absurd z (by decide)) (fun _ => B_Md_look_257 hMg.1 ?_)) (fun qb => B_Md_look_254 (fun _ => no (fun y => qb y.2.2)) (fun z => absurd rfl z))
          have hab : abC m a j := ⟨fun y => q0 (by rw [y]), qa, qb⟩
          have ib := icV_b (b := j) ho ha hb
          have ga := gS ha
          have gj := gS (gs := gs) (k := j) (by omega)
          have a7 := ((ho.at ga).1).2
          have b7 := ((ho.at gj).1).2
          refine md_alike hMg hgg ga gj (i := 0) (j := 0) (Nat.zero_le _) (Nat.zero_le _) (B_Md_look_266 hMg.1 (md_begins hMg hgg ga gj ?_))
          rw [List.drop_zero, List.drop_zero]
          -- the greater one
          have fin : ∀ (n w : Nat), n + w = icV gs f a j → wpx (d + 5) P_Md_look 302 [.ref 17, .int 0, .int (nI v), .int (nI a), .int (nI j), v5, v6] [.int (nI w), .int (nI n)] g Q := fun n w hw => by
            have nx : ∀ v1 : Nat, (if v < icV gs f a j then icV gs f a j else v) = v1 → wpx (d + 5) P_Md_look 318 [.ref 17, .int 0, .int (nI v1), .int (nI a), .int (nI j), .int (nI (n + w)), v6] [] g Q := fun v1 hv1 => by
              refine B_Md_look_318 ?_
              rw [nI_1]
              refine ih (j + 1) v1 _ _ (by omega) (by omega) (by
                rw [← hv1]
                by_cases u : v < icV gs f a j
                · rw [if_pos u]
                  exact ib
                · rw [if_neg u]
                  exact hv) (fun v' v5 v6 h1 h2 => kn v' v5 v6 h1 ?_)
              show v' = lkB gs m f a e (j + 1) (if abC m a j then _ else v)
              rw [if_pos hab, hv1]
              exact h2
            refine B_Md_look_302 (fun z => B_Md_look_316 (B_Md_look_317 ?_)) (fun z => B_Md_look_311 (B_Md_look_317 ?_))
            · rw [nI_add, nI_leI (by omega) (by omega)] at z
              rw [nI_add]
              exact nx v (if_neg (by omega))
            · rw [nI_add, nI_leI (by omega) (by omega)] at z
              rw [nI_add]
              exact nx (n + w) (by rw [if_pos (by omega)]; exact hw.symm)
          by_cases y : gs.getD a [] = (gs.getD j []).take (gs.getD a []).length
          · rw [if_pos y]
            obtain ⟨ll, dv⟩ := fs_Dv ho hu ha (by omega) hab y
            obtain ⟨t, fe, t1, t2, t3⟩ := hTg.2.1 j _ (gs.getD a []).length gj qb (ho.at ga).2.1 ll (Or.inl (by omega))
            have tl := (List.getElem?_eq_some_iff.mp t1).1
            have e19 : h_i g 19 (nI a).toNatClampNeg = nI (gs.getD a []).length := by
              rw [nI_clamp (by omega)]
              exact (hgg.2.2.2 _ _ ga).1
            have e8 : ((8 : Int32) * nI j) + h_i g 19 (nI a).toNatClampNeg = nI (8 * j + (gs.getD a []).length) := by rw [e19, show (8 : Int32) = nI 8 from rfl, nI_mulN, nI_add]
            refine B_Md_look_273 (fun z => absurd z (by decide)) (fun _ => B_Md_look_276 hMg.1 (mr_more hMg) (mr_endOf hMg) (mr_size hMg) (ms_size hMg) (vp_in_nI (by omega) (by omega)) (ms_endOf hMg) (by rw [e8]; exact vp_in_nI (by omega) (by omega)) (ms_more hMg) (by rw [e8, nI_clamp (by omega), t3]; exact vp_in_nI (by omega) (by omega)) ?_)
            rw [e8, nI_clamp (by omega), t3, nI_clamp (by omega), hd t fe t1, t2]
            refine fin _ _ ?_
            unfold icV
            rw [if_pos y]
          · rw [if_neg y]
            refine B_Md_look_273 (fun _ => B_Md_look_301 ?_) (fun z => absurd rfl z)
            refine fin _ 0 ?_
            unfold icV
            rw [if_neg y]
      have outer : ∀ (e a v : Nat) (v4 v5 v6 : Value), gs.length - a = e → a ≤ gs.length → v ≤ 2 ^ 28 + 7 → lkA gs m f e a v = lkA gs m f gs.length 0 0 → wpx (d + 5) P_Md_look 208 [.ref 17, .int 0, .int (nI v), .int (nI a), v4, v5, v6] [] g Q := by
        intro e
        induction e with
        | zero =>
          intro a v v4 v5 v6 he ha hv hl
          refine B_Md_look_208 hMg.1 (fun _ => B_Md_look_330 ?_) (fun q => ?_)
          · have hl' : v = lkA gs m f gs.length 0 0 := hl
            rw [hl']
            exact kq
          · rw [hgg.2.1, nI_leI (by omega) (by omega)] at q
            omega
        | succ e ih =>
          intro a v v4 v5 v6 he ha hv hl
          refine B_Md_look_208 hMg.1 (fun q => ?_) (fun _ => B_Md_look_216 (inner a (by omega) gs.length 0 v _ _ rfl (Nat.zero_le _) hv (fun v' v5 v6 h1 h2 => B_Md_look_324 ?_)))
          · rw [hgg.2.1, nI_leI (by omega) (by omega)] at q
            omega
          · rw [nI_1]
            refine ih (a + 1) v' _ _ _ (by omega) (by omega) h1 ?_
            rw [h2]
            exact hl
      exact outer gs.length 0 0 v4 v5 v6 rfl (Nat.zero_le _) (Nat.zero_le _) rfl
    have done : ∀ (g : PH) (s : (List Nat → Nat) × Bool) (x2 : Int32) (v3 v4 v5 v6 : Value), Fr Wlk h1 g → CMo g gs m s.1 → (∀ x, s.1 x ≤ 2 ^ 28) → s = lkP gs m (mL gs m) ((ENs gs m).length + 2) (fun _ => 0, true) → wpx (d + 5) P_Md_look 198 [.ref 17, .int (if s.2 = true then 1 else 0), .int x2, v3, v4, v5, v6] [] g Q := by
      intro g s x2 v3 v4 v5 v6 hf hd hb hs
      have kg := kk g hf
      rw [same.1, ← hs] at kg
      by_cases w : s.2 = true
      · rw [if_pos w] at kg ⊢
        exact B_Md_look_198 (fun z => absurd z (by decide)) (fun _ => B_Md_look_202 kg)
      · rw [if_neg w] at kg ⊢
        have w0 : s.2 = false := by
          cases e : s.2 with
          | true => exact absurd e w
          | false => rfl
        have sm := same.2 (by rw [same.1, ← hs]; exact w0)
        rw [← hs] at sm
        rw [lkA_c ho hu sm gs.length 0 0 (by omega)] at kg
        exact B_Md_look_198 (fun _ => pairs g s.1 x2 v3 v4 v5 v6 hf hd hb kg) (fun z => absurd rfl z)
    -- one pass
    have pass : ∀ (B : Nat) (p : Nat) (g : PH) (f : List Nat → Nat) (v3 v4 v5 v6 : Value), Fr Wlk h1 g → CMo g gs m f → (∀ x, f x ≤ B) → B < 2 ^ 28 → (∀ g' x3 v4 v5 v6, Fr Wlk h1 g' → CMo g' gs m (lkT gs m (mL gs m) (f, false)).1 → wpx (d + 5) P_Md_look 192 [.ref 17, .int (if (lkT gs m (mL gs m) (f, false)).2 = true then 1 else 0), .int (nI p), .int x3, v4, v5, v6] [] g' Q) → ∀ x1, wpx (d + 5) P_Md_look 59 [.ref 17, .int x1, .int (nI p), v3, v4, v5, v6] [] g Q := by
      intro B p g f v3 v4 v5 v6 hf hd hb hB kn x1
      refine B_Md_look_59 ?_
      have inner : ∀ (t : Nat) (ee : Nat × Nat), (ENs gs m)[t]? = some ee → DvR gs m (rwE gs ee) → ∀ (e j B : Nat) (s : (List Nat → Nat) × Bool) (g : PH) (v5 v6 : Value), gs.length - j = e → j ≤ gs.length → (∀ x, s.1 x ≤ B) → B + 7 * e < 2 ^ 30 → Fr Wlk h1 g → CMo g gs m s.1 → (∀ g' v5 v6 x4, Fr Wlk h1 g' → CMo g' gs m (lkK gs m (rwE gs ee) e j s).1 → wpx (d + 5) P_Md_look 186 [.ref 17, .int (if (lkK gs m (rwE gs ee) e j s).2 = true then 1 else 0), .int (nI p), .int (nI t), .int x4, v5, v6] [] g' Q) → wpx (d + 5) P_Md_look 74 [.ref 17, .int (if s.2 = true then 1 else 0), .int (nI p), .int (nI t), .int (nI j), v5, v6] [] g Q := by
        intro t ee ht hdv e
        have tl := (List.getElem?_eq_some_iff.mp ht).1
        have vt : vp_in (nI t) 100 := vp_in_nI (by omega) (by omega)
        induction e with
        | zero =>
          intro j B s g v5 v6 he hj hb hb2 hf hc kn
          refine B_Md_look_74 (hf.md hM1).1 (fun _ => kn g _ _ _ hf hc) (fun z => ?_)
          rw [(mg hf).2.1, nI_leI (by omega) (by omega)] at z
          omega
        | succ e ih =>
          intro j B s g v5 v6 he hj hb hb2 hf hc kn
          have hMg := hf.md hM1
          have hgg := mg hf
          have hTg := mt hf
          have gj := gS (gs := gs) (k := j) (by omega)
          have b7 := ((ho.at gj).1).2
          obtain ⟨le, e1, e2, e3, e4, e5, e6⟩ := hTg.1.at ht
          have a7 := ((ho.at e1).1).2
          have e14 : ((14 : Int32) * nI t) + nI j = nI (14 * t + j) := by rw [show (14 : Int32) = nI 14 from rfl, nI_mulN, nI_add]
          have skip : lkV gs m (rwE gs ee) j s.1 ≤ s.1 (rwE gs ee) → ∀ v5 v6, wpx (d + 5) P_Md_look 180 [.ref 17, .int (if s.2 = true then 1 else 0), .int (nI p), .int (nI t), .int (nI j), v5, v6] [] g Q := fun hle v5 v6 => by
            refine B_Md_look_180 ?_
            rw [nI_1]
            refine ih (j + 1) B s g _ _ (by omega) (by omega) hb (by omega) hf hc (fun g' v5 v6 x4 f' c' => ?_)
            have := kn g' v5 v6 x4 f'
            have q1 : lkK gs m (rwE gs ee) (e + 1) j s = lkK gs m (rwE gs ee) e (j + 1) s := by
              show lkK gs m (rwE gs ee) e (j + 1) (lkS gs m (rwE gs ee) j s) = _
              rw [lkS_n hle]
            rw [q1] at this
            exact this c'
          refine B_Md_look_74 hMg.1 (fun z => ?_) (fun _ => B_Md_look_83 hMg.1 (mr_roundOf hMg) (ms_roundOf hMg) vt (fun z => ?_) (fun _ => B_Md_look_92 hMg.1 ?_))
          · rw [hgg.2.1, nI_leI (by omega) (by omega)] at z
            omega
          · rw [nI_clamp (by omega), hTg.dv ht] at z
            exact absurd hdv z
          rw [hgg.2.2.1]
          refine md_isOf ho.m31 (by omega) (fun q => B_Md_look_101 (fun _ => B_Md_look_107 hMg.1 (mr_toTail hMg) (ms_toTail hMg) (by rw [e14]; exact vp_in_nI (by omega) (by omega)) (mr_tailGroup hMg) (ms_tailGroup hMg) vt (mr_tailAt hMg) (ms_tailAt hMg) vt ?_) (fun z => absurd z (by decide))) (fun q => B_Md_look_101 (fun z => absurd rfl z) (fun _ => B_Md_look_104 (skip (by unfold lkV; rw [if_neg q]; exact Nat.zero_le _) _ _)))
          rw [e14, nI_clamp (by omega), nI_clamp (by omega), e5, e6]
          refine md_alike hMg hgg gj e1 (i := 0) (Nat.zero_le _) (by omega) ?_
          rw [List.drop_zero, ← e3]
          have lb := lkV_b (m := m) (r := rwE gs ee) ho (show j < gs.length by omega) hb
          have sr := hb (rwE gs ee)
          have fin : ∀ (n w : Nat) (v5 v6 : Value) (x5 : Int32), n + w = lkV gs m (rwE gs ee) j s.1 → wpx (d + 5) P_Md_look 156 [.ref 17, .int (if s.2 = true then 1 else 0), .int (nI p), .int (nI t), .int (nI j), .int x5, v6] [.int (nI w), .int (nI n)] g Q := fun n w v5 v6 x5 hw => by
            refine B_Md_look_156 hMg.1 (mr_more hMg) (ms_more hMg) vt (fun z => ?_) (fun z => B_Md_look_170 hMg.1 (mr_more hMg) (ms_more hMg) vt (B_Md_look_180 ?_))
            · rw [nI_clamp (by omega), hc t ee ht, nI_add, nI_leI (by omega) (by omega), hw] at z
              exact skip z _ _
            · rw [nI_clamp (by omega), hc t ee ht, nI_add, nI_leI (by omega) (by omega), hw] at z
              rw [nI_clamp (by omega), nI_1, nI_add, hw]
              have q0 : lkS gs m (rwE gs ee) j s = (upF s.1 (rwE gs ee) (lkV gs m (rwE gs ee) j s.1), true) := if_pos (by omega)
              have q1 : lkK gs m (rwE gs ee) (e + 1) j s = lkK gs m (rwE gs ee) e (j + 1) (upF s.1 (rwE gs ee) (lkV gs m (rwE gs ee) j s.1), true) := by
                show lkK gs m (rwE gs ee) e (j + 1) (lkS gs m (rwE gs ee) j s) = _
                rw [q0]
              rw [q1] at kn
              have b1 := lkS_b ho (m := m) (r := rwE gs ee) (k := j) (by omega) hb
              rw [q0] at b1
              exact ih (j + 1) (B + 7) (upF s.1 (rwE gs ee) (lkV gs m (rwE gs ee) j s.1), true) _ _ _ (by omega) (by omega) b1 (by omega) (hf.tr (Fr.wi g _ rfl)) (upF_m ho ht hc) kn
          rcases tl_V (by omega) q ht (hTg.2.2.1 t j tl (by omega)) with ⟨v1, v2⟩ | ⟨u, fu, u1, u2, u3⟩
          · refine B_Md_look_140 (fun _ => B_Md_look_155 ?_) (fun z => absurd v1 z)
            refine fin _ 0 v5 _ _ ?_
            unfold lkV
            rw [if_pos q, v2]
            rfl
          · have ul := (List.getElem?_eq_some_iff.mp u1).1
            rw [u2]
            refine B_Md_look_140 (fun z => absurd z (nI_pos (by omega))) (fun _ => B_Md_look_145 hMg.1 (mr_more hMg) (ms_more hMg) (vp_in_nI (by omega) (by omega)) ?_)
            rw [nI_clamp (by omega), hc u fu u1]
            refine fin _ _ v5 _ _ ?_
            unfold lkV
            rw [if_pos q, u3]
            rfl
      have outer : ∀ (R P : List (Nat × Nat)) (B : Nat) (s : (List Nat → Nat) × Bool) (g : PH) (v4 v5 v6 : Value), P ++ R = ENs gs m → (∀ x, s.1 x ≤ B) → B + 98 * R.length < 2 ^ 30 → Fr Wlk h1 g → CMo g gs m s.1 → lkT gs m ((R.map (rwE gs)).filter (dvB gs m)) s = lkT gs m (mL gs m) (f, false) → wpx (d + 5) P_Md_look 63 [.ref 17, .int (if s.2 = true then 1 else 0), .int (nI p), .int (nI P.length), v4, v5, v6] [] g Q := by
        intro R
        induction R with
        | nil =>
          intro P B s g v4 v5 v6 hPR hb hb2 hf hc he
          rw [List.append_nil] at hPR
          have he' : s = lkT gs m (mL gs m) (f, false) := he
          refine B_Md_look_63 (hf.md hM1).1 (fun _ => ?_) (fun z => ?_)
          · rw [he']
            rw [he'] at hc
            exact kn g _ _ _ _ hf hc
          · rw [(mt hf).1.2.1, hPR, nI_leI (by omega) (by omega)] at z
            omega
        | cons r R ih =>
          intro P B s g v4 v5 v6 hPR hb hb2 hf hc he
          have hl := congrArg List.length hPR
          rw [List.length_append, List.length_cons] at hl
          rw [List.length_cons] at hb2
          have gr : (ENs gs m)[P.length]? = some r := by rw [← hPR]; exact mdlG
          have hMg := hf.md hM1
          have vt : vp_in (nI P.length) 100 := vp_in_nI (by omega) (by omega)
          have nx : ∀ (s' : (List Nat → Nat) × Bool) (g' : PH) (x4 : Int32) (v5 v6 : Value), (∀ x, s'.1 x ≤ B + 98) → Fr Wlk h1 g' → CMo g' gs m s'.1 → lkT gs m ((R.map (rwE gs)).filter (dvB gs m)) s' = lkT gs m (mL gs m) (f, false) → wpx (d + 5) P_Md_look 186 [.ref 17, .int (if s'.2 = true then 1 else 0), .int (nI p), .int (nI P.length), .int x4, v5, v6] [] g' Q := fun s' g' x4 v5 v6 b' f' c' h' => by
            refine B_Md_look_186 ?_
            rw [nI_1]
            have := ih (P ++ [r]) (B + 98) s' g' (.int x4) v5 v6 (by rw [List.append_assoc]; exact hPR) b' (by omega) f' c' h'
            rw [List.length_append] at this
            exact this
          refine B_Md_look_63 hMg.1 (fun z => ?_) (fun _ => B_Md_look_71 ?_)
          · rw [(mt hf).1.2.1, nI_leI (by omega) (by omega)] at z
            omega
          by_cases w : DvR gs m (rwE gs r)
          · have ef : ((r :: R).map (rwE gs)).filter (dvB gs m) = rwE gs r :: (R.map (rwE gs)).filter (dvB gs m) := by
              rw [List.map_cons, List.filter_cons_of_pos (dvB_t.mpr w)]
            rw [ef] at he
            have b1 := lkK_b ho (m := m) (r := rwE gs r) gs.length 0 B s (by omega) hb
            exact inner P.length r gr w gs.length 0 B s g _ _ rfl (Nat.zero_le _) hb (by omega) hf hc (fun g' v5 v6 x4 f' c' => nx _ g' x4 v5 v6 (fun x => Nat.le_trans (b1 x) (by omega)) f' c' he)
          · have ef : ((r :: R).map (rwE gs)).filter (dvB gs m) = (R.map (rwE gs)).filter (dvB gs m) := by
              rw [List.map_cons, List.filter_cons_of_neg (fun y => w (dvB_t.mp y))]
            rw [ef] at he
            have out := nx s g 0 v5 v6 (fun x => Nat.le_trans (hb x) (by omega)) hf hc he
            by_cases y : gs.length = 0
            · refine B_Md_look_74 hMg.1 (fun _ => out) (fun z => ?_)
              rw [(mg hf).2.1, y] at z
              exact absurd (Int32.le_refl _) z
            · refine B_Md_look_74 hMg.1 (fun z => out) (fun _ => B_Md_look_83 hMg.1 (mr_roundOf hMg) (ms_roundOf hMg) vt (fun _ => out) (fun z => ?_))
              rw [nI_clamp (by omega), (mt hf).dv gr] at z
              exact absurd w z
      exact outer (ENs gs m) [] B (f, false) g _ _ _ rfl hb (by omega) hf hd rfl
    have loop : ∀ (P p : Nat) (g : PH) (s : (List Nat → Nat) × Bool) (v3 v4 v5 v6 : Value), P + p = (ENs gs m).length + 2 → Fr Wlk h1 g → CMo g gs m s.1 → (∀ x, s.1 x ≤ 9604 * p) → lkP gs m (mL gs m) P s = lkP gs m (mL gs m) ((ENs gs m).length + 2) (fun _ => 0, true) → wpx (d + 5) P_Md_look 45 [.ref 17, .int (if s.2 = true then 1 else 0), .int (nI p), v3, v4, v5, v6] [] g Q := by
      intro P
      induction P with
      | zero =>
        intro p g s v3 v4 v5 v6 hPp hf hd hb hs
        refine B_Md_look_45 (hf.md hM1).1 (fun _ => done g s _ v3 v4 v5 v6 hf hd (fun x => Nat.le_trans (hb x) (by omega)) hs) (fun z => ?_)
        rw [(mt hf).1.2.1, nI_1, nI_ltI (by omega) (by omega)] at z
        omega
      | succ P ih =>
        intro p g s v3 v4 v5 v6 hPp hf hd hb hs
        refine B_Md_look_45 (hf.md hM1).1 (fun z => ?_) (fun _ => ?_)
        · rw [(mt hf).1.2.1, nI_1, nI_ltI (by omega) (by omega)] at z
          omega
        by_cases w : s.2 = true
        · rw [if_pos w]
          refine B_Md_look_55 (fun z => absurd z (by decide)) (fun _ => pass (9604 * p) p g s.1 v3 v4 v5 v6 hf hd hb (by omega) (fun g' x3 v4 v5 v6 f' d' => B_Md_look_192 ?_) 1)
          rw [nI_1]
          have b1 := lkT_b (m := m) ho (mL gs m) (9604 * p) (s.1, false) hb
          refine ih (p + 1) g' _ _ _ _ _ (by omega) f' d' (fun x => Nat.le_trans (b1 x) (by omega)) ?_
          rw [← hs]
          show _ = (if s.2 = false then s else _)
          rw [if_neg (by rw [w]; decide)]
        · rw [if_neg w]
          have w0 : s.2 = false := by
            cases e : s.2 with
            | true => exact absurd e w
            | false => rfl
          have hs' : s = lkP gs m (mL gs m) ((ENs gs m).length + 2) (fun _ => 0, true) := by
            rw [← hs]
            show _ = (if s.2 = false then s else _)
            rw [if_pos w0]
          have dn := done g s (nI p) v3 v4 v5 v6 hf hd (fun x => Nat.le_trans (hb x) (by omega)) hs'
          rw [if_neg w] at dn
          exact B_Md_look_55 (fun _ => dn) (fun z => absurd rfl z)
    -- all numbers 0
    have zero : ∀ (e t : Nat) (g : PH) (v2 v3 v4 v5 v6 : Value), (ENs gs m).length - t = e → t ≤ (ENs gs m).length → Fr Wlk h1 g → (∀ t', t' < t → h_i g 35 t' = 0) → wpx (d + 5) P_Md_look 20 [.ref 17, .int (nI t), v2, v3, v4, v5, v6] [] g Q := by
      intro e
      induction e with
      | zero =>
        intro t g v2 v3 v4 v5 v6 he ht hf hz'
        refine B_Md_look_20 (hf.md hM1).1 (fun _ => B_Md_look_41 ?_) (fun z => ?_)
        · have h0 : ∀ x : List Nat, ((fun _ => 0 : List Nat → Nat), true).1 x ≤ 9604 * 0 := fun x => Nat.zero_le _
          exact loop ((ENs gs m).length + 2) 0 g (fun _ => 0, true) v3 v4 v5 v6 rfl hf (fun t' e' ht' => hz' t' (by have := (List.getElem?_eq_some_iff.mp ht').1; omega)) h0 rfl
        · rw [(mt hf).1.2.1, nI_leI (by omega) (by omega)] at z
          omega
      | succ e ih =>
        intro t g v2 v3 v4 v5 v6 he ht hf hz'
        have hMg := hf.md hM1
        refine B_Md_look_20 hMg.1 (fun z => ?_) (fun _ => B_Md_look_28 hMg.1 (mr_more hMg) (ms_more hMg) (vp_in_nI (by omega) (by omega)) ?_)
        · rw [(mt hf).1.2.1, nI_leI (by omega) (by omega)] at z
          omega
        · rw [nI_clamp (by omega), nI_1]
          refine ih (t + 1) _ _ _ _ _ _ (by omega) (by omega) (hf.tr (Fr.wi g _ rfl)) (fun t' h' => ?_)
          by_cases w : t' = t
          · rw [w]
            exact wi_eq _ _ _ _
          · exact (wi_ne _ _ (by omega)).trans (hz' t' (by omega))
    exact zero (ENs gs m).length 0 h1 _ _ _ _ _ rfl (Nat.zero_le _) (Fr.rf _ _) (fun t' a => absurd a (Nat.not_lt_zero _))
  · have e0 : ¬ (allR gs m).2 = none := db.mp (Int32.not_lt.mp z)
    rw [if_neg e0] at kk
    exact kk h1 (Fr.rf _ _)
