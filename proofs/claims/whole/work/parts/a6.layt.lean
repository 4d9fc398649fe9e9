/-! tails on the reference's side: all of them laid -/
theorem EOf.fr {W : Nat → Nat → Prop} {h h' : PH} {gs : List (List Nat)} {m a b : Nat} {E : List (Nat × Nat)} (hf : Fr W h h') (hw : ∀ c k, W c k → ¬ c = 30) (hE : EOf h gs m E a b) : EOf h' gs m E a b := fun g l i a1 a2 a3 a4 a5 => by
  obtain ⟨t, e, b1, b2, b3⟩ := hE g l i a1 a2 a3 a4 a5
  exact ⟨t, e, b1, b2, (hf.i _ _ (fun z => hw _ _ z rfl)).trans b3⟩
theorem rnds_len {gs : List (List Nat)} {m : Nat} {only : Bool} : ∀ (f : Nat) (A B : TL) (db : Option (Nat × Nat)) (r : Nat), (rnds gs m only f A B db r).1.length ≤ f
  | 0, _, _, _, _ => Nat.le_refl _
  | f + 1, A, B, db, r => by
    unfold rnds
    by_cases z : B = []
    · rw [if_pos z]
      exact Nat.zero_le _
    · rw [if_neg z]
      by_cases y : only = true ∧ (dbN gs m r db (srtF [] B)).isSome = true
      · rw [if_pos y]
        show 1 ≤ f + 1
        omega
      · rw [if_neg y]
        exact Nat.succ_le_succ (rnds_len f _ _ _ _)
theorem allR_len {gs : List (List Nat)} {m : Nat} : (allR gs m).1.length ≤ 98 := rnds_len 98 _ _ _ _
theorem allR_no {gs : List (List Nat)} {m j : Nat} {x : List Nat} (ho : okg gs m) (hj : (allR gs m).1.length ≤ j) : ¬ (RSd gs m j).2 x := fun h => by
  obtain ⟨C, c1, _⟩ := ((allR_S ho).1 j x).mpr h
  have := (List.getElem?_eq_some_iff.mp c1).1
  omega
theorem allR_ex {gs : List (List Nat)} {m j : Nat} (ho : okg gs m) (hj : j < (allR gs m).1.length) : ∃ x, (RSd gs m j).2 x := by
  obtain ⟨s1, s2, _⟩ := allR_S ho
  have gj : (allR gs m).1[j]? = some (allR gs m).1[j] := List.getElem?_eq_getElem hj
  generalize (allR gs m).1[j] = C at gj
  have c0 := (s2 C (List.mem_of_getElem? gj)).1
  cases C with
  | nil => exact absurd rfl c0
  | cons t C => exact ⟨t.1, (s1 j t.1).mp ⟨_, gj, List.mem_cons_self ..⟩⟩
def dvO : Option (Nat × Nat) → Int32
  | none => -1
  | some y => nI y.1
theorem dbR_dv (R : List TL × Option (Nat × Nat)) : dbR R = dvO R.2 := by
  unfold dbR
  cases R.2 <;> rfl
theorem dbT_eq {gs : List (List Nat)} {m q : Nat} {db db' : Option (Nat × Nat)} (h1 : dbT gs m q db) (h2 : dbT gs m q db') : dvO db = dvO db' := by
  cases db with
  | none =>
    cases db' with
    | none => rfl
    | some y =>
      obtain ⟨x, x1, x2⟩ := h2.2.2.1
      have a := h2.1
      have b := h2.2.1
      exact absurd x2 (h1 (y.1 - 1) x (by omega) x1)
  | some z =>
    obtain ⟨x, x1, x2⟩ := h1.2.2.1
    have a := h1.1
    have b := h1.2.1
    cases db' with
    | none => exact absurd x2 (h2 (z.1 - 1) x (by omega) x1)
    | some y =>
      obtain ⟨x', x1', x2'⟩ := h2.2.2.1
      have a' := h2.1
      have e : z.1 = y.1 := by
        rcases (show z.1 < y.1 ∨ z.1 = y.1 ∨ y.1 < z.1 by omega) with w | w | w
        · exact absurd x2 (h2.2.2.2 (z.1 - 1) x (by omega) x1)
        · exact w
        · exact absurd x2' (h1.2.2.2 (y.1 - 1) x' (by omega) x1')
      show nI z.1 = nI y.1
      rw [e]
def Wlt (c k : Nat) : Prop := (c = 17 ∧ (k = 25 ∨ k = 32 ∨ k = 33 ∨ k = 34)) ∨ (27 ≤ c ∧ c ≤ 31)
def MTl (h : PH) (gs : List (List Nat)) (m : Nat) : Prop := MEn h gs (ENs gs m) ∧ EOf h gs m (ENs gs m) gs.length 0 ∧ (∀ t g, t < (ENs gs m).length → g < gs.length → tlS gs m t g (h_i h 31 (14 * t + g))) ∧ (∀ t e, (ENs gs m)[t]? = some e → ∃ v, v < 1000 ∧ h_i h 29 t = nI v ∧ ∀ j, v = j + 1 ↔ (RSd gs m j).2 (rwE gs e)) ∧ h_i h 17 33 = nI (allR gs m).1.length ∧ h_i h 17 34 = dbR (allR gs m)
def MTz (h : PH) (gs : List (List Nat)) (m : Nat) : Prop := ¬ h_i h 17 25 = 0 → MTl h gs m
theorem MTl.fr {W : Nat → Nat → Prop} {h h' : PH} {gs : List (List Nat)} {m : Nat} (hf : Fr W h h') (hw : ∀ c k, W c k → ¬ Wlt c k) (ho : okg gs m) (hE : MTl h gs m) : MTl h' gs m := by
  obtain ⟨a1, a2, a3, a4, a5, a6⟩ := hE
  have N84 := ENs_len ho
  refine ⟨a1.fr hf (fun c k z => fun y => hw c k z (by unfold Wlt; omega)), a2.fr hf (fun c k z => fun y => hw c k z (by unfold Wlt; omega)), fun t g ht hg => ?_, fun t e ht => ?_, ?_, ?_⟩
  · rw [hf.i _ _ (fun z => hw _ _ z (by unfold Wlt; omega))]
    exact a3 t g ht hg
  · rw [hf.i _ _ (fun z => hw _ _ z (by unfold Wlt; omega))]
    exact a4 t e ht
  · rw [hf.i _ _ (fun z => hw _ _ z (by unfold Wlt; omega))]
    exact a5
  · rw [hf.i _ _ (fun z => hw _ _ z (by unfold Wlt; omega))]
    exact a6
theorem MTz.fr {W : Nat → Nat → Prop} {h h' : PH} {gs : List (List Nat)} {m : Nat} (hf : Fr W h h') (hw : ∀ c k, W c k → ¬ Wlt c k) (ho : okg gs m) (hE : MTz h gs m) : MTz h' gs m := fun z => MTl.fr hf hw ho (hE (by rw [hf.i _ _ (fun y => hw _ _ y (by unfold Wlt; omega))] at z; exact z))
/-- a tail of the first round, by a pair of groups -/
abbrev fsP (gs : List (List Nat)) (m a b : Nat) (x : List Nat) : Prop := x ≠ [] ∧ ¬ a = b ∧ inm m a ∧ inm m b ∧ gs.getD b [] = gs.getD a [] ++ x
def hitB (s : List Nat) (t v : Nat) : Prop := ∃ u, u < t ∧ s.getD u 0 = v
def CR1 (h : PH) (s : List Nat) : Prop := ∀ (t x : Nat), s[t]? = some x → x < 2 ^ 30 ∧ h_i h 29 t = nI x
def FsM (gs : List (List Nat)) (m : Nat) (s : List Nat) (P : Nat → Nat → Prop) : Prop := s.length = (ENs gs m).length ∧ ∀ t e, (ENs gs m)[t]? = some e → (s.getD t 0 = 1 ∧ ∃ a b, P a b ∧ fsP gs m a b (rwE gs e)) ∨ (s.getD t 0 = 0 ∧ ∀ a b, P a b → ¬ fsP gs m a b (rwE gs e))
theorem FsM.up {gs : List (List Nat)} {m : Nat} {s : List Nat} {P P' : Nat → Nat → Prop} (h : FsM gs m s P) (hp : ∀ t g, P t g ↔ P' t g) : FsM gs m s P' := by
  have e : P = P' := funext (fun t => funext (fun g => propext (hp t g)))
  rw [← e]
  exact h
theorem FsM.no {gs : List (List Nat)} {m a b : Nat} {s : List Nat} {P : Nat → Nat → Prop} (h : FsM gs m s P) (hn : ∀ x, ¬ fsP gs m a b x) : FsM gs m s (fun u v => P u v ∨ (u = a ∧ v = b)) := by
  refine ⟨h.1, fun t e ht => ?_⟩
  rcases h.2 t e ht with ⟨z, u, v, p, q⟩ | ⟨z, y⟩
  · exact Or.inl ⟨z, u, v, Or.inl p, q⟩
  · refine Or.inr ⟨z, fun u v p q => ?_⟩
    rcases p with p | p
    · exact y u v p q
    · rw [p.1, p.2] at q
      exact hn _ q
theorem FsM.yes {gs : List (List Nat)} {m a b u : Nat} {s : List Nat} {f : Nat × Nat} {P : Nat → Nat → Prop} (ho : okg gs m) (h : FsM gs m s P) (hu : (ENs gs m)[u]? = some f) (hf : fsP gs m a b (rwE gs f)) : FsM gs m (s.set u 1) (fun u v => P u v ∨ (u = a ∧ v = b)) := by
  have ul := (List.getElem?_eq_some_iff.mp hu).1
  refine ⟨by rw [List.length_set]; exact h.1, fun t e ht => ?_⟩
  rw [getD_set (by rw [h.1]; exact ul)]
  by_cases w : u = t
  · subst w
    rw [if_pos rfl]
    rw [hu] at ht
    have : f = e := Option.some.inj ht
    subst this
    exact Or.inl ⟨rfl, a, b, Or.inr ⟨rfl, rfl⟩, hf⟩
  · rw [if_neg w]
    rcases h.2 t e ht with ⟨z, u', v, p, q⟩ | ⟨z, y⟩
    · exact Or.inl ⟨z, u', v, Or.inl p, q⟩
    · refine Or.inr ⟨z, fun u' v p q => ?_⟩
      rcases p with p | p
      · exact y u' v p q
      · rw [p.1, p.2] at q
        have := hf.2.2.2.2
        rw [q.2.2.2.2] at this
        exact w (ENs_inj ho hu ht (List.append_cancel_left this).symm)
theorem md_layTails {d : Nat} {h : PH} {Q : PQ} {gs : List (List Nat)} {m : Nat} (hM : MdS h) (hg : MGr h gs m) (hu : unlk gs) (hz : MTz h gs m) (k : ∀ h', MTl h' gs m → Fr Wlt h h' → Q none h') : wpm (d + 5) 211 [.ref 17] h Q := by
  refine wpm_in P_Md_layTails rfl (by decide) (by show ¬ 3 < 1; decide) ?_
  refine B_Md_layTails_0 hM.1 (fun _ => ?_) (fun z => B_Md_layTails_7 (k h (hz z) (Fr.rf _ _)))
  have ho := hg.1
  have h14 := hg.1.1
  have N84 := ENs_len ho
  have f0 : Fr (fun c k => c = 17 ∧ k = 25) h (w_i h 17 25 1) := Fr.wi h _ ⟨rfl, rfl⟩
  refine B_Md_layTails_8 hM.1 (md_layEnds (f0.md hM) (MGr.fr f0 (fun c k z y => by omega) hg) (fun h1 hE1 hO1 f1 => B_Md_layTails_17 ?_))
  have F1 : Fr Wlt h h1 := (f0.up (fun c k z => by unfold Wlt; omega)).tr (f1.up (fun c k z => by unfold Wle at z; unfold Wlt; omega))
  have hM1 := F1.md hM
  have hg1 : MGr h1 gs m := MGr.fr F1 (fun c k z y => by unfold Wlt at z; omega) hg
  clear f1 f0
  have hEN : MEn h1 gs (ENs gs m) := hE1
  have hEO : EOf h1 gs m (ENs gs m) gs.length 0 := hO1
  clear hE1 hO1
  have hI := ENs_in (gs := gs) (m := m)
  have or1 : ∀ b : Nat, b < 2 → nI b ||| (1 : Int32) = nI 1 := by decide
  have or0 : ∀ b : Nat, b < 2 → nI b ||| (0 : Int32) = nI b := by decide
  -- from round to round
  have phaseC : ∀ (h2 : PH) (s : List Nat) (v2 : Value), Fr (fun c k => c = 29 ∨ c = 31) h1 h2 → (∀ t g, t < (ENs gs m).length → g < gs.length → okL (ENs gs m).length (h_i h2 31 (14 * t + g)) ∧ tlS gs m t g (h_i h2 31 (14 * t + g))) → CR1 h2 s → FsM gs m s (fun a b => a < gs.length ∧ b < gs.length) → ∀ x1, wpx (d + 4) P_Md_layTails 178 [.ref 17, .int x1, v2] [] h2 Q := by
    intro h2 s v2 f2 ht2 hc2 hs2 x1
    have hM2 := f2.md hM1
    refine B_Md_layTails_178 hM2.1 ?_
    have g0 : Fr (fun c k => c = 17 ∧ (k = 33 ∨ k = 34)) h2 (w_i (w_i h2 17 33 0) 17 34 (-1)) := (Fr.wi h2 _ ⟨rfl, Or.inl rfl⟩).tr (Fr.wi _ _ ⟨rfl, Or.inr rfl⟩)
    have e33 : h_i (w_i (w_i h2 17 33 0) 17 34 (-1)) 17 33 = nI 0 := by
      rw [wi_ne _ _ (by omega), wi_eq]
      rfl
    have e34 : h_i (w_i (w_i h2 17 33 0) 17 34 (-1)) 17 34 = -1 := wi_eq _ _ _ _
    generalize w_i (w_i h2 17 33 0) 17 34 (-1) = h3 at g0 e33 e34 ⊢
    have rel0 : RelM gs m 0 (s, -1) := by
      refine ⟨hs2.1, fun t e ht j => ?_, none, fun j x hj => by omega, rfl, fun y hy => (by cases hy)⟩
      have hfs : (∃ a b, (a < gs.length ∧ b < gs.length) ∧ fsP gs m a b (rwE gs e)) ↔ fsR gs m (rwE gs e) := by
        constructor
        · rintro ⟨a, b, ⟨a1, b1⟩, x0, c1, c2, c3, c4⟩
          exact ⟨x0, a, b, _, c1, gS a1, by rw [gS b1, c4], c2, c3⟩
        · rintro ⟨x0, a, b, la, c1, c2, c3, c4, c5⟩
          exact ⟨a, b, ⟨gL c2, gL c3⟩, x0, c1, c4, c5, by rw [gD c2, gD c3]⟩
      show s.getD t 0 = j + 1 ↔ _
      rcases hs2.2 t e ht with ⟨z, y⟩ | ⟨z, y⟩
      · have hf := hfs.mp y
        rw [z]
        refine ⟨fun w => ?_, fun ⟨w, _⟩ => by omega⟩
        have : j = 0 := by omega
        subst this
        exact ⟨Nat.le_refl _, hf⟩
      · rw [z]
        refine ⟨fun w => by omega, fun ⟨w, w2⟩ => ?_⟩
        have : j = 0 := by omega
        subst this
        obtain ⟨a, b, p, q⟩ := hfs.mpr w2
        exact absurd q (y a b p)
    have check : ∀ (q : Nat) (g : PH) (s : List Nat × Int32) (x1 : Int32) (v2 : Value), Fr (fun c k => (c = 17 ∧ (k = 33 ∨ k = 34)) ∨ c = 29) h2 g → s.1.length = (ENs gs m).length → CRo g s → h_i g 17 33 = nI q → q < 1000 → (∀ b : Nat, b < 2 → (b = 1 ↔ hitB s.1 (ENs gs m).length (q + 1)) → wpx (d + 4) P_Md_layTails 235 [.ref 17, .int (nI b), .int (nI (ENs gs m).length)] [] g Q) → wpx (d + 4) P_Md_layTails 194 [.ref 17, .int x1, v2] [] g Q := by
      intro q g s x1 v2 hf hl hc h33 hq kk
      have hMg := hf.md hM2
      have h32 : h_i g 17 32 = nI (ENs gs m).length := (hf.i _ _ (by omega)).trans ((f2.i _ _ (by omega)).trans hEN.2.1)
      have go : ∀ (e t b : Nat), (ENs gs m).length - t = e → t ≤ (ENs gs m).length → b < 2 → (b = 1 ↔ hitB s.1 t (q + 1)) → wpx (d + 4) P_Md_layTails 198 [.ref 17, .int (nI b), .int (nI t)] [] g Q := by
        intro e
        induction e with
        | zero =>
          intro t b he ht hb hw
          have et : t = (ENs gs m).length := by omega
          subst et
          refine B_Md_layTails_198 hMg.1 (fun _ => kk b hb hw) (fun z => ?_)
          rw [h32, nI_leI (by omega) (by omega)] at z
          omega
        | succ e ih =>
          intro t b he ht hb hw
          have vt : vp_in (nI t) 100 := vp_in_nI (by omega) (by omega)
          have gx : s.1[t]? = some s.1[t] := List.getElem?_eq_getElem (by omega)
          obtain ⟨x1, x2⟩ := hc.1 t _ gx
          have ex : s.1.getD t 0 = s.1[t] := by rw [List.getD_eq_getElem?_getD, gx]; rfl
          refine B_Md_layTails_198 hMg.1 (fun z => ?_) (fun _ => B_Md_layTails_206 hMg.1 (mr_roundOf hMg) (ms_roundOf hMg) vt (fun z => B_Md_layTails_226 (B_Md_layTails_227 ?_)) (fun z => B_Md_layTails_222 (B_Md_layTails_227 ?_)))
          · rw [h32, nI_leI (by omega) (by omega)] at z
            omega
          · rw [nI_clamp (by omega), x2, h33, nI_1, nI_eq (by omega) (by omega)] at z
            rw [or0 b hb, nI_1]
            refine ih (t + 1) b (by omega) (by omega) hb (hw.trans ⟨fun ⟨u, u1, u2⟩ => ⟨u, by omega, u2⟩, fun ⟨u, u1, u2⟩ => ?_⟩)
            by_cases w : u = t
            · rw [w, ex] at u2
              exact absurd u2 z
            · exact ⟨u, by omega, u2⟩
          · rw [nI_clamp (by omega), x2, h33, nI_1, nI_eq (by omega) (by omega)] at z
            rw [or1 b hb, nI_1]
            exact ih (t + 1) 1 (by omega) (by omega) (by omega) ⟨fun _ => ⟨t, by omega, by rw [ex]; exact z⟩, fun _ => rfl⟩
      exact B_Md_layTails_194 (go (ENs gs m).length 0 0 rfl (Nat.zero_le _) (by omega) ⟨fun z => by omega, fun ⟨u, u1, _⟩ => by omega⟩)
    have loop : ∀ (e q : Nat) (g : PH) (s : List Nat × Int32) (x1 : Int32) (v2 : Value), (allR gs m).1.length - q = e → q ≤ (allR gs m).1.length → Fr (fun c k => (c = 17 ∧ (k = 33 ∨ k = 34)) ∨ c = 29) h2 g → RelM gs m q s → CRo g s → h_i g 17 33 = nI q → ¬ x1 = 0 → wpx (d + 4) P_Md_layTails 190 [.ref 17, .int x1, v2] [] g Q := by
      intro e
      have K98 := allR_len (gs := gs) (m := m)
      induction e with
      | zero =>
        intro q g s x1 v2 he hq hf hr hc h33 hx
        have eq : q = (allR gs m).1.length := by omega
        refine B_Md_layTails_190 (fun z => absurd z hx) (fun _ => check q g s x1 v2 hf hr.1 hc h33 (by omega) (fun b hb hw => ?_))
        have b0 : b = 0 := by
          have : ¬ b = 1 := fun z => by
            obtain ⟨u, u1, u2⟩ := hw.mp z
            have gu : (ENs gs m)[u]? = some (ENs gs m)[u] := List.getElem?_eq_getElem u1
            have := ((hr.2.1 u _ gu q).mp u2).2
            exact allR_no ho (by omega) this
          omega
        rw [b0]
        refine B_Md_layTails_235 (fun _ => B_Md_layTails_190 (fun _ => B_Md_layTails_260 ?_) (fun z => absurd rfl z)) (fun z => absurd rfl z)
        have F1g : Fr (fun c k => (c = 17 ∧ (k = 33 ∨ k = 34)) ∨ c = 29 ∨ c = 31) h1 g := (f2.up (fun c k z => Or.inr z)).tr (hf.up (fun c k z => z.elim Or.inl (fun y => Or.inr (Or.inl y))))
        refine k g ⟨hEN.fr F1g (fun c k z => by omega), hEO.fr F1g (fun c k z => by omega), fun t g' ht hg' => ?_, fun t e ht => ?_, by rw [h33, eq], ?_⟩ (F1.tr (F1g.up (fun c k z => by unfold Wlt; omega)))
        · rw [hf.i _ _ (by omega)]
          exact (ht2 t g' ht hg').2
        · have tl := (List.getElem?_eq_some_iff.mp ht).1
          have hts : t < s.1.length := by rw [hr.1]; exact tl
          have gx : s.1[t]? = some s.1[t] := List.getElem?_eq_getElem hts
          obtain ⟨x1, x2⟩ := hc.1 t _ gx
          have ex : s.1.getD t 0 = s.1[t] := by rw [List.getD_eq_getElem?_getD, gx]; rfl
          have rj := hr.2.1 t e ht
          rw [ex] at rj
          refine ⟨s.1[t], ?_, x2, fun j => (rj j).trans ⟨fun z => z.2, fun z => ⟨?_, z⟩⟩⟩
          · by_cases w : s.1[t] = 0
            · omega
            · have := ((rj (s.1[t] - 1)).mp (by omega)).1
              omega
          · by_cases w : (allR gs m).1.length ≤ j
            · exact absurd z (allR_no ho w)
            · omega
        · obtain ⟨_, _, db, d1, d2, d3⟩ := hr
          rw [hc.2, d2, dbR_dv]
          rw [eq] at d1
          have e := dbT_eq d1 (allR_S ho).2.2
          rw [← e]
          cases db <;> rfl
      | succ e ih =>
        intro q g s x1 v2 he hq hf hr hc h33 hx
        refine B_Md_layTails_190 (fun z => absurd z hx) (fun _ => check q g s x1 v2 hf hr.1 hc h33 (by omega) (fun b hb hw => ?_))
        have b1 : b = 1 := by
          obtain ⟨x, hx⟩ := allR_ex (gs := gs) (m := m) ho (j := q) (by omega)
          obtain ⟨e', e1, e2⟩ := ENs_has (RSd_E ho q x (Or.inr hx))
          obtain ⟨t, ht⟩ := List.mem_iff_getElem?.mp e1
          exact hw.mpr ⟨t, (List.getElem?_eq_some_iff.mp ht).1, (hr.2.1 t e' ht q).mpr ⟨Nat.le_refl _, by rw [e2]; exact hx⟩⟩
        rw [b1]
        have hMg := hf.md hM2
        have F1g : Fr (fun c k => (c = 17 ∧ (k = 33 ∨ k = 34)) ∨ c = 29 ∨ c = 31) h1 g := (f2.up (fun c k z => Or.inr z)).tr (hf.up (fun c k z => z.elim Or.inl (fun y => Or.inr (Or.inl y))))
        have hgg : MGr g gs m := MGr.fr F1g (fun c k z y => by omega) hg1
        refine B_Md_layTails_235 (fun z => absurd z (by decide)) (fun _ => B_Md_layTails_239 hMg.1 ?_)
        rw [wi_eq, h33, nI_1]
        have f3 : Fr (fun c k => c = 17 ∧ k = 33) g (w_i g 17 33 (nI (q + 1))) := Fr.wi g _ ⟨rfl, rfl⟩
        have h32 : h_i g 17 32 = nI (ENs gs m).length := (hf.i _ _ (by omega)).trans ((f2.i _ _ (by omega)).trans hEN.2.1)
        refine md_goesOn (n := gs.length) (N := (ENs gs m).length) (tl := fun t g' => h_i h2 31 (14 * t + g')) (s := s) (f3.md hMg) ((f3.i _ _ (by omega)).trans hgg.2.1) h14 ((f3.i _ _ (by omega)).trans h32) (by omega) (fun t g' ht hg' => ⟨(f3.i _ _ (by omega)).trans (hf.i _ _ (by omega)), (ht2 t g' ht hg').1⟩) ⟨fun t x hx => ⟨(hc.1 t x hx).1, (f3.i _ _ (by omega)).trans (hc.1 t x hx).2⟩, (f3.i _ _ (by omega)).trans hc.2⟩ hr.1 (by omega) (fun h' c' f' => B_Md_layTails_257 ?_)
        exact ih (q + 1) h' _ _ _ (by omega) (by omega) (hf.tr ((f3.up (fun c k z => by omega)).tr (f'.up (fun c k z => by unfold Wgo at z; omega)))) (relM_step ho (by omega) ht2 hr) c' ((f'.i _ _ (by unfold Wgo; omega)).trans (wi_eq _ _ _ _)) (by decide)
    refine loop (allR gs m).1.length 0 h3 (s, -1) 1 v2 rfl (Nat.zero_le _) (g0.up (fun c k z => Or.inl z)) rel0 ⟨fun t x hx => ?_, e34⟩ e33 (by decide)
    rw [g0.i _ _ (by omega)]
    exact hc2 t x hx
  -- the first round
  have phaseB : ∀ (h2 : PH) (v2 : Value), Fr (fun c k => c = 29 ∨ c = 31) h1 h2 → (∀ t g, t < (ENs gs m).length → g < gs.length → okL (ENs gs m).length (h_i h2 31 (14 * t + g)) ∧ tlS gs m t g (h_i h2 31 (14 * t + g))) → (∀ t, t < (ENs gs m).length → h_i h2 29 t = nI 0) → wpx (d + 4) P_Md_layTails 90 [.ref 17, .int (nI 0), v2] [] h2 Q := by
    intro h2 v2 f2 ht2 hz2
    have hM2 := f2.md hM1
    have mg : ∀ {g : PH}, Fr (fun c k => c = 29) h2 g → MGr g gs m := fun hf => MGr.fr (f2.tr (hf.up (fun c k z => Or.inl z))) (fun c k z y => by omega) hg1
    have inner : ∀ (a : Nat) (la : List Nat), gs[a]? = some la → ∀ (e b : Nat) (g : PH) (s : List Nat), gs.length - b = e → b ≤ gs.length → Fr (fun c k => c = 29) h2 g → CR1 g s → FsM gs m s (fun u v => (u < a ∧ v < gs.length) ∨ (u = a ∧ v < b)) → (∀ g s x2, Fr (fun c k => c = 29) h2 g → CR1 g s → FsM gs m s (fun u v => u < a + 1 ∧ v < gs.length) → wpx (d + 4) P_Md_layTails 172 [.ref 17, .int (nI a), .int x2] [] g Q) → wpx (d + 4) P_Md_layTails 100 [.ref 17, .int (nI a), .int (nI b)] [] g Q := by
      intro a la ga e
      have ea := gD ga
      have alt := gL ga
      have la7 := ((ho.at ga).1).2
      induction e with
      | zero =>
        intro b g s he hb hf hc hs kk
        refine B_Md_layTails_100 (hf.md hM2).1 (fun _ => kk g s _ hf hc (hs.up (fun u v => by omega))) (fun z => ?_)
        rw [(mg hf).2.1, nI_leI (by omega) (by omega)] at z
        omega
      | succ e ih =>
        intro b g s he hb hf hc hs kk
        have hMg := hf.md hM2
        have gb : gs[b]? = some gs[b] := List.getElem?_eq_getElem (by omega)
        generalize gs[b] = lb at gb
        have eb := gD gb
        have lb7 := ((ho.at gb).1).2
        have next : ∀ (g' : PH) (s' : List Nat), Fr (fun c k => c = 29) h2 g' → CR1 g' s' → FsM gs m s' (fun u v => ((u < a ∧ v < gs.length) ∨ (u = a ∧ v < b)) ∨ (u = a ∧ v = b)) → wpx (d + 4) P_Md_layTails 166 [.ref 17, .int (nI a), .int (nI b)] [] g' Q := fun g' s' f' c' w' => by
          refine B_Md_layTails_166 ?_
          rw [nI_1]
          exact ih (b + 1) g' s' (by omega) (by omega) f' c' (w'.up (fun u v => by omega)) kk
        have no : (∀ x, ¬ fsP gs m a b x) → wpx (d + 4) P_Md_layTails 166 [.ref 17, .int (nI a), .int (nI b)] [] g Q := fun hn => next g s hf hc (hs.no hn)
        refine B_Md_layTails_100 hMg.1 (fun z => ?_) (fun _ => B_Md_layTails_108 (fun z => no (fun x y => y.2.1 ((nI_eq (by omega) (by omega)).mp z))) (fun z0 => B_Md_layTails_113 hMg.1 ?_))
        · rw [(mg hf).2.1, nI_leI (by omega) (by omega)] at z
          omega
        rw [(mg hf).2.2.1]
        refine md_isOf ho.m31 (by omega) (fun qa => B_Md_layTails_121 (fun z => absurd z (by decide)) (fun _ => B_Md_layTails_124 hMg.1 ?_)) (fun qa => B_Md_layTails_121 (fun _ => no (fun x y => qa y.2.2.1)) (fun z => absurd rfl z))
        rw [(mg hf).2.2.1]
        refine md_isOf ho.m31 (by omega) (fun qb => B_Md_layTails_132 (fun z => absurd z (by decide)) (fun _ => B_Md_layTails_135 hMg.1 (md_begins hMg (mg hf) ga gb ?_))) (fun qb => B_Md_layTails_132 (fun _ => no (fun x y => qb y.2.2.2.1)) (fun z => absurd rfl z))
        by_cases y : la = lb.take la.length
        · rw [if_pos y]
          have nab : ¬ a = b := fun w => z0 (by rw [w])
          have ll : la.length < lb.length := by
            have h1 := congrArg List.length y
            rw [List.length_take] at h1
            by_cases w : la.length = lb.length
            · rw [w, List.take_length] at y
              exact absurd (hu a b alt (gL gb) (by rw [ea, eb]; exact y)) nab
            · omega
          obtain ⟨t, f, t1, t2, t3⟩ := hEO b lb la.length gb qb (ho.at ga).2.1 ll (Or.inl (gL gb))
          have tl := (List.getElem?_eq_some_iff.mp t1).1
          have e30 : h_i g 30 (8 * b + la.length) = nI t := (hf.i _ _ (by omega)).trans ((f2.i _ _ (by omega)).trans t3)
          have e19 : h_i g 19 (nI a).toNatClampNeg = nI la.length := by
            rw [nI_clamp (by omega)]
            exact ((mg hf).2.2.2 _ _ ga).1
          have e8 : ((8 : Int32) * nI b) + h_i g 19 (nI a).toNatClampNeg = nI (8 * b + la.length) := by rw [e19, show (8 : Int32) = nI 8 from rfl, nI_mulN, nI_add]
          refine B_Md_layTails_141 (fun z => absurd z (by decide)) (fun _ => B_Md_layTails_144 hMg.1 (mr_roundOf hMg) (mr_endOf hMg) (mr_size hMg) (ms_size hMg) (vp_in_nI (by omega) (by omega)) (ms_endOf hMg) (by rw [e8]; exact vp_in_nI (by omega) (by omega)) (ms_roundOf hMg) (by rw [e8, nI_clamp (by omega), e30]; exact vp_in_nI (by omega) (by omega)) ?_)
          rw [e8, nI_clamp (by omega), e30, nI_clamp (by omega)]
          refine next _ (s.set t 1) (hf.tr (Fr.wi g _ rfl)) (fun i x hx => ?_) (hs.yes ho t1 ⟨?_, nab, qa, qb, ?_⟩)
          · rw [List.getElem?_set] at hx
            by_cases w : t = i
            · subst w
              rw [if_pos rfl, if_pos (by rw [hs.1]; exact tl)] at hx
              have : 1 = x := Option.some.inj hx
              subst this
              exact ⟨by decide, wi_eq _ _ _ _⟩
            · rw [if_neg w] at hx
              exact ⟨(hc i x hx).1, (wi_ne _ _ (by omega)).trans (hc i x hx).2⟩
          · rw [t2]
            intro w
            have := congrArg List.length w
            rw [List.length_drop] at this
            have h0 : ([] : List Nat).length = 0 := rfl
            omega
          · rw [t2, ea, eb]
            exact tak_app y
        · rw [if_neg y]
          refine B_Md_layTails_141 (fun _ => no (fun x w => y ?_)) (fun z => absurd rfl z)
          have := w.2.2.2.2
          rw [ea, eb] at this
          rw [this, List.take_left]
    have outer : ∀ (e a : Nat) (g : PH) (s : List Nat) (v2 : Value), gs.length - a = e → a ≤ gs.length → Fr (fun c k => c = 29) h2 g → CR1 g s → FsM gs m s (fun u v => u < a ∧ v < gs.length) → wpx (d + 4) P_Md_layTails 90 [.ref 17, .int (nI a), v2] [] g Q := by
      intro e
      induction e with
      | zero =>
        intro a g s v2 he ha hf hc hs
        have ea : a = gs.length := by omega
        subst ea
        refine B_Md_layTails_90 (hf.md hM2).1 (fun _ => phaseC g s v2 (f2.tr (hf.up (fun c k z => Or.inl z))) (fun t g' ht hg' => by rw [hf.i _ _ (by omega)]; exact ht2 t g' ht hg') hc hs _) (fun z => ?_)
        rw [(mg hf).2.1, nI_leI (by omega) (by omega)] at z
        omega
      | succ e ih =>
        intro a g s v2 he ha hf hc hs
        have ga : gs[a]? = some gs[a] := List.getElem?_eq_getElem (by omega)
        refine B_Md_layTails_90 (hf.md hM2).1 (fun z => ?_) (fun _ => B_Md_layTails_98 (inner a _ ga gs.length 0 g s rfl (Nat.zero_le _) hf hc (hs.up (fun u v => by omega)) (fun g' s' x2 f' c' w' => B_Md_layTails_172 ?_)))
        · rw [(mg hf).2.1, nI_leI (by omega) (by omega)] at z
          omega
        · rw [nI_1]
          exact ih (a + 1) g' s' _ (by omega) (by omega) f' c' w'
    refine outer gs.length 0 h2 (List.replicate (ENs gs m).length 0) v2 rfl (Nat.zero_le _) (Fr.rf _ _) (fun t x hx => ?_) ⟨List.length_replicate, fun t e ht => Or.inr ⟨?_, fun a b y => by omega⟩⟩
    · rw [List.getElem?_replicate] at hx
      by_cases w : t < (ENs gs m).length
      · rw [if_pos w] at hx
        have : 0 = x := Option.some.inj hx
        subst this
        exact ⟨by decide, hz2 t w⟩
      · rw [if_neg w] at hx
        cases hx
    · rw [List.getD_eq_getElem?_getD, List.getElem?_replicate, if_pos (List.getElem?_eq_some_iff.mp ht).1]
      rfl
  -- what is left of each end and each group
  have mg : ∀ {g : PH}, Fr (fun c k => c = 29 ∨ c = 31) h1 g → MGr g gs m := fun hf => MGr.fr hf (fun c k z y => by omega) hg1
  have inner : ∀ (t : Nat), t < (ENs gs m).length → ∀ (e b : Nat) (g : PH), gs.length - b = e → b ≤ gs.length → Fr (fun c k => c = 29 ∨ c = 31) h1 g → (∀ t', t' < t + 1 → h_i g 29 t' = nI 0) → (∀ t' g', t' < (ENs gs m).length → g' < gs.length → (t' < t ∨ (t' = t ∧ g' < b)) → okL (ENs gs m).length (h_i g 31 (14 * t' + g')) ∧ tlS gs m t' g' (h_i g 31 (14 * t' + g'))) → (∀ g x2, Fr (fun c k => c = 29 ∨ c = 31) h1 g → (∀ t', t' < t + 1 → h_i g 29 t' = nI 0) → (∀ t' g', t' < (ENs gs m).length → g' < gs.length → t' < t + 1 → okL (ENs gs m).length (h_i g 31 (14 * t' + g')) ∧ tlS gs m t' g' (h_i g 31 (14 * t' + g'))) → wpx (d + 4) P_Md_layTails 82 [.ref 17, .int (nI t), .int x2] [] g Q) → wpx (d + 4) P_Md_layTails 36 [.ref 17, .int (nI t), .int (nI b)] [] g Q := by
    intro t ht e
    have get : (ENs gs m)[t]? = some (ENs gs m)[t] := List.getElem?_eq_getElem ht
    generalize (ENs gs m)[t] = ee at get
    induction e with
    | zero =>
      intro b g he hb hf hz' hT kk
      refine B_Md_layTails_36 (hf.md hM1).1 (fun _ => kk g _ hf hz' (fun t' g' a1 a2 a3 => hT t' g' a1 a2 (by omega))) (fun z => ?_)
      rw [(mg hf).2.1, nI_leI (by omega) (by omega)] at z
      omega
    | succ e ih =>
      intro b g he hb hf hz' hT kk
      have hMg := hf.md hM1
      have gb : gs[b]? = some gs[b] := List.getElem?_eq_getElem (by omega)
      generalize gs[b] = lb at gb
      have e14 : ((14 : Int32) * nI t) + nI b = nI (14 * t + b) := by rw [show (14 : Int32) = nI 14 from rfl, nI_mulN, nI_add]
      have put : ∀ v : Int32, okL (ENs gs m).length v → tlS gs m t b v → wpx (d + 4) P_Md_layTails 75 [.ref 17, .int (nI t), .int (nI b)] [.int v, .int (((14 : Int32) * nI t) + nI b), .ref 31] g Q := fun v o1 o2 => by
        refine B_Md_layTails_75 (ms_toTail hMg) (by rw [e14]; exact vp_in_nI (by omega) (by omega)) ?_
        rw [e14, nI_clamp (by omega), nI_1]
        refine ih (b + 1) _ (by omega) (by omega) (hf.tr (Fr.wi g _ (Or.inr rfl))) (fun t' h' => (wi_ne _ _ (by omega)).trans (hz' t' h')) (fun t' g' a1 a2 a3 => ?_) kk
        by_cases w : t' = t ∧ g' = b
        · obtain ⟨w1, w2⟩ := w
          subst w1
          subst w2
          rw [wi_eq]
          exact ⟨o1, o2⟩
        · rw [wi_ne _ _ (by omega)]
          exact hT t' g' a1 a2 (by omega)
      refine B_Md_layTails_36 hMg.1 (fun z => ?_) (fun _ => B_Md_layTails_44 hMg.1 (mr_toTail hMg) ?_)
      · rw [(mg hf).2.1, nI_leI (by omega) (by omega)] at z
        omega
      rw [(mg hf).2.2.1]
      refine md_isOf ho.m31 (by omega) (fun q => B_Md_layTails_62 (fun z => absurd z (by decide)) (fun _ => B_Md_layTails_65 hMg.1 ?_)) (fun q => B_Md_layTails_62 (fun _ => B_Md_layTails_74 (put (-1) (Or.inr (Or.inl rfl)) ⟨fun _ => rfl, fun z => absurd z q⟩)) (fun z => absurd rfl z))
      have it : ∀ (v : Int32), ((lb = rwE gs ee ∧ v = -2) ∨ (∃ u f, (ENs gs m)[u]? = some f ∧ rwE gs f ≠ [] ∧ (rwE gs ee = lb ++ rwE gs f ∨ lb = rwE gs ee ++ rwE gs f) ∧ v = nI u) ∨ (v = -1 ∧ ¬ lb = (rwE gs ee).take lb.length ∧ ¬ rwE gs ee = lb.take (rwE gs ee).length)) → tlS gs m t b v := fun v hv => ⟨fun z => absurd q z, fun _ e' l' a1 a2 => by
        rw [get] at a1
        have a1' : ee = e' := Option.some.inj a1
        rw [gb] at a2
        have a2' : lb = l' := Option.some.inj a2
        rw [← a1', ← a2']
        exact hv⟩
      refine md_leftOf hMg (mg hf) (hEN.fr hf (fun c k z => by omega)) (hEO.fr hf (fun c k z => by omega)) hI get gb q (fun a1 => B_Md_layTails_71 (put _ (Or.inl rfl) (it _ (Or.inl ⟨a1, rfl⟩)))) (fun u f a1 a2 a3 a4 => B_Md_layTails_71 (put _ (Or.inr (Or.inr ⟨u, (List.getElem?_eq_some_iff.mp a3).1, rfl⟩)) (it _ (Or.inr (Or.inl ⟨u, f, a3, ?_, Or.inl ?_, rfl⟩))))) (fun u f a1 a2 a3 a4 => B_Md_layTails_71 (put _ (Or.inr (Or.inr ⟨u, (List.getElem?_eq_some_iff.mp a3).1, rfl⟩)) (it _ (Or.inr (Or.inl ⟨u, f, a3, ?_, Or.inr ?_, rfl⟩))))) (fun a1 a2 => B_Md_layTails_71 (put _ (Or.inr (Or.inl rfl)) (it _ (Or.inr (Or.inr ⟨rfl, a1, a2⟩)))))
      · intro w
        have := congrArg List.length w
        rw [a4, List.length_drop] at this
        have h0 : ([] : List Nat).length = 0 := rfl
        omega
      · rw [a4]
        exact tak_app a1
      · intro w
        have := congrArg List.length w
        rw [a4, List.length_drop] at this
        have h0 : ([] : List Nat).length = 0 := rfl
        omega
      · rw [a4]
        exact tak_app a1
  have outer : ∀ (e t : Nat) (g : PH) (v2 : Value), (ENs gs m).length - t = e → t ≤ (ENs gs m).length → Fr (fun c k => c = 29 ∨ c = 31) h1 g → (∀ t', t' < t → h_i g 29 t' = nI 0) → (∀ t' g', t' < (ENs gs m).length → g' < gs.length → t' < t → okL (ENs gs m).length (h_i g 31 (14 * t' + g')) ∧ tlS gs m t' g' (h_i g 31 (14 * t' + g'))) → wpx (d + 4) P_Md_layTails 19 [.ref 17, .int (nI t), v2] [] g Q := by
    intro e
    induction e with
    | zero =>
      intro t g v2 he ht hf hz' hT
      refine B_Md_layTails_19 (hf.md hM1).1 (fun _ => B_Md_layTails_88 (phaseB g v2 hf (fun t' g' a1 a2 => hT t' g' a1 a2 (by omega)) (fun t' a1 => hz' t' (by omega)))) (fun z => ?_)
      rw [hf.i _ _ (by omega), hEN.2.1, nI_leI (by omega) (by omega)] at z
      omega
    | succ e ih =>
      intro t g v2 he ht hf hz' hT
      have hMg := hf.md hM1
      refine B_Md_layTails_19 hMg.1 (fun z => ?_) (fun _ => B_Md_layTails_27 hMg.1 (mr_roundOf hMg) (ms_roundOf hMg) (vp_in_nI (by omega) (by omega)) ?_)
      · rw [hf.i _ _ (by omega), hEN.2.1, nI_leI (by omega) (by omega)] at z
        omega
      rw [nI_clamp (by omega)]
      have f2 : Fr (fun c k => c = 29 ∨ c = 31) g (w_i g 29 t 0) := Fr.wi g _ (Or.inl rfl)
      refine inner t (by omega) gs.length 0 _ rfl (Nat.zero_le _) (hf.tr f2) (fun t' h' => ?_) (fun t' g' a1 a2 a3 => ?_) (fun g' x2 f' z' T' => B_Md_layTails_82 ?_)
      · by_cases w : t' = t
        · rw [w, wi_eq]
          rfl
        · rw [wi_ne _ _ (by omega)]
          exact hz' t' (by omega)
      · rw [wi_ne _ _ (by omega)]
        exact hT t' g' a1 a2 (by omega)
      · rw [nI_1]
        exact ih (t + 1) g' _ (by omega) (by omega) f' z' T'
  exact outer (ENs gs m).length 0 h1 _ rfl (Nat.zero_le _) (Fr.rf _ _) (fun t' a1 => by omega) (fun t' g' _ _ a1 => by omega)
