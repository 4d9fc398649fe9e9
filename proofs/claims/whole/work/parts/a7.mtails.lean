/-! parts, tails, tail, doubt on the reference's side -/
theorem le0_1 {x : Int32} (h : x < 1) : x ≤ 0 := by
  by_cases z : x < 0
  · exact Int32.le_of_lt z
  · obtain ⟨n, hn, rfl⟩ := nI_of z
    rw [show (1 : Int32) = nI 1 from rfl, nI_ltI hn (by omega)] at h
    have : n = 0 := by omega
    subst this
    show nI 0 ≤ nI 0
    exact Int32.le_refl _
noncomputable def RSl (gs : List (List Nat)) (m j : Nat) : List (List Nat) := ((ENs gs m).map (rwE gs)).filter (fun r => @decide ((RSd gs m j).2 r) (Classical.propDecidable _))
theorem RSl_mem {gs : List (List Nat)} {m j : Nat} {r : List Nat} (ho : okg gs m) : r ∈ RSl gs m j ↔ (RSd gs m j).2 r := by
  unfold RSl
  rw [List.mem_filter]
  constructor
  · rintro ⟨_, h⟩
    exact @of_decide_eq_true _ (Classical.propDecidable _) h
  · intro h
    obtain ⟨e, e1, e2⟩ := ENs_has (RSd_E ho j r (Or.inr h))
    exact ⟨List.mem_map.mpr ⟨e, e1, e2⟩, @decide_eq_true _ (Classical.propDecidable _) h⟩
theorem srt_eq {L M : List (List Nat)} (hL : L.Pairwise (fun a b => kyl a < kyl b)) (hM : M.Pairwise (fun a b => kyl a < kyl b)) (h : ∀ x, x ∈ L ↔ x ∈ M) : L = M := by
  have nL : L.Nodup := hL.imp (fun {a b} z y => by rw [y] at z; omega)
  have nM : M.Nodup := hM.imp (fun {a b} z y => by rw [y] at z; omega)
  exact List.Perm.eq_of_pairwise (le := fun a b => kyl a < kyl b) (fun a b _ _ z y => by omega) hL hM ((List.perm_ext_iff_of_nodup nL nM).mpr h)
theorem RSl_eq {gs : List (List Nat)} {m j : Nat} (ho : okg gs m) : RSl gs m j = rowsT ((allR gs m).1.getD j []) := by
  obtain ⟨s1, s2, _⟩ := allR_S ho
  have hL : (RSl gs m j).Pairwise (fun a b => kyl a < kyl b) := (ENs_srt ho).filter _
  by_cases z : j < (allR gs m).1.length
  · have gj : (allR gs m).1[j]? = some (allR gs m).1[j] := List.getElem?_eq_getElem z
    have e : (allR gs m).1.getD j [] = (allR gs m).1[j] := by rw [List.getD_eq_getElem?_getD, gj]; rfl
    rw [e]
    generalize (allR gs m).1[j] = C at gj
    refine srt_eq hL (s2 C (List.mem_of_getElem? gj)).2 (fun x => (RSl_mem ho).trans ((s1 j x).symm.trans ⟨fun ⟨D, d1, d2⟩ => ?_, fun h => ⟨C, gj, h⟩⟩))
    rw [gj] at d1
    rw [Option.some.inj d1]
    exact d2
  · have e : (allR gs m).1.getD j [] = [] := by rw [List.getD_eq_getElem?_getD, List.getElem?_eq_none (by omega)]; rfl
    rw [e]
    refine List.eq_nil_iff_forall_not_mem.mpr (fun x hx => ?_)
    exact allR_no ho (by omega) ((RSl_mem ho).mp hx)
theorem flt_at {α : Type} {p : α → Bool} : ∀ {l : List α} {t : Nat} {x : α}, l[t]? = some x → p x = true → (l.filter p)[((l.take t).filter p).length]? = some x
  | [], t, x, h, _ => by
    rw [List.getElem?_nil] at h
    cases h
  | a :: l, 0, x, h, hp => by
    have : a = x := Option.some.inj h
    subst this
    rw [List.filter_cons_of_pos hp]
    rfl
  | a :: l, t + 1, x, h, hp => by
    have h' : l[t]? = some x := h
    have ih := flt_at h' hp
    rw [List.take_succ_cons]
    by_cases z : p a = true
    · rw [List.filter_cons_of_pos z, List.filter_cons_of_pos z, List.length_cons, List.getElem?_cons_succ]
      exact ih
    · rw [List.filter_cons_of_neg z, List.filter_cons_of_neg z]
      exact ih
theorem flt_tk {α : Type} {p : α → Bool} {l : List α} {t : Nat} {x : α} (h : l[t]? = some x) : ((l.take (t + 1)).filter p).length = ((l.take t).filter p).length + (if p x = true then 1 else 0) := by
  rw [List.take_succ, h, List.filter_append, List.length_append]
  show _ + ([x].filter p).length = _
  by_cases z : p x = true
  · rw [if_pos z, List.filter_cons_of_pos z]
    rfl
  · rw [if_neg z, List.filter_cons_of_neg z]
    rfl
def Wpt (c k : Nat) : Prop := Wlt c k ∨ (c = 17 ∧ k = 0)
theorem pt_up {h h1 : PH} (f : Fr Wlt (w_i h 17 0 0) h1) : Fr Wpt h h1 := (Fr.wi h _ (Or.inr ⟨rfl, rfl⟩)).tr (f.up (fun _ _ z => Or.inl z))
theorem th0 (h : PH) : Fr (fun c k => c = 17 ∧ k = 0) h (w_i h 17 0 0) := Fr.wi h _ ⟨rfl, rfl⟩
theorem th0_mg {h : PH} {gs : List (List Nat)} {m : Nat} (hg : MGr h gs m) : MGr (w_i h 17 0 0) gs m := MGr.fr (th0 h) (fun c k z y => by omega) hg
theorem th0_mt {h : PH} {gs : List (List Nat)} {m : Nat} (ho : okg gs m) (hz : MTz h gs m) : MTz (w_i h 17 0 0) gs m := hz.fr (th0 h) (fun c k z y => by unfold Wlt at y; omega) ho
theorem dbR_n {R : List TL × Option (Nat × Nat)} (h : ∀ y, R.2 = some y → y.1 < 2 ^ 31) : (0 ≤ dbR R ↔ R.2 ≠ none) := by
  unfold dbR
  cases e : R.2 with
  | none => exact ⟨fun z => absurd z (by decide), fun z => absurd rfl z⟩
  | some y => exact ⟨fun _ w => (by cases w), fun _ => Int32.not_lt.mp (nI_lt0 (h y e))⟩
theorem allR_db {gs : List (List Nat)} {m : Nat} (ho : okg gs m) : ∀ y, (allR gs m).2 = some y → y.1 < 2 ^ 31 := fun y hy => by
  have h := (allR_S ho).2.2
  rw [hy] at h
  have h1 := h.2.1
  have h2 := allR_len (gs := gs) (m := m)
  omega
theorem md_parts {d : Nat} {h : PH} {Q : PQ} {gs : List (List Nat)} {m : Nat} (hM : MdS h) (hg : MGr h gs m) (hu : unlk gs) (hz : MTz h gs m) (k : ∀ h', MTl h' gs m → Fr Wpt h h' → Q (some (.int (ptR (allR gs m)))) h') : wpm (d + 6) 213 [.ref 17] h Q := by
  refine wpm_in P_Md_parts rfl (by decide) (by show ¬ 1 < 1; decide) (B_Md_parts_0 hM.1 (md_layTails ((th0 h).md hM) (th0_mg hg) hu (th0_mt hg.1 hz) (fun h1 T1 f1 => ?_)))
  have F := pt_up f1
  have k1 := k h1 T1 F
  have e := dbR_n (allR_db hg.1)
  rw [← T1.2.2.2.2.2] at e
  refine B_Md_parts_9 (F.md hM).1 (fun z => B_Md_parts_20 (B_Md_parts_21 ?_)) (fun z => B_Md_parts_16 (B_Md_parts_21 ?_))
  · have ne := e.mp z
    unfold ptR at k1
    cases w : (allR gs m).2 with
    | none => exact absurd w ne
    | some y =>
      rw [w] at k1
      exact k1
  · unfold ptR at k1
    cases w : (allR gs m).2 with
    | none =>
      rw [w] at k1
      exact k1
    | some y => exact absurd (e.mpr (by rw [w]; intro q; cases q)) z
theorem md_doubt {d : Nat} {h : PH} {Q : PQ} {gs : List (List Nat)} {m : Nat} (hM : MdS h) (hg : MGr h gs m) (hu : unlk gs) (hz : MTz h gs m) (k : ∀ h', MTl h' gs m → Fr Wpt h h' → Q (some (.int (dbR (allR gs m)))) h') : wpm (d + 6) 216 [.ref 17] h Q := by
  refine wpm_in P_Md_doubt rfl (by decide) (by show ¬ 1 < 1; decide) (B_Md_doubt_0 hM.1 (md_layTails ((th0 h).md hM) (th0_mg hg) hu (th0_mt hg.1 hz) (fun h1 T1 f1 => ?_)))
  have F := pt_up f1
  have k1 := k h1 T1 F
  rw [← T1.2.2.2.2.2] at k1
  exact B_Md_doubt_9 (F.md hM).1 k1
/-- which ends a round has -/
theorem MTl.rd {h : PH} {gs : List (List Nat)} {m t : Nat} {e : Nat × Nat} {x : Int32} {j : Nat} (hT : MTl h gs m) (ht : (ENs gs m)[t]? = some e) (hx : x = nI (j + 1)) (hj : j + 1 < 2 ^ 31) : h_i h 29 t = x ↔ (fun r => @decide ((RSd gs m j).2 r) (Classical.propDecidable _)) (rwE gs e) = true := by
  obtain ⟨v, v1, v2, v3⟩ := hT.2.2.2.1 t e ht
  rw [v2, hx, nI_eq (by omega) hj, v3 j]
  exact ⟨fun z => @decide_eq_true _ (Classical.propDecidable _) z, fun z => @of_decide_eq_true _ (Classical.propDecidable _) z⟩
theorem szR_j {gs : List (List Nat)} {m j : Nat} {x : Int32} (ho : okg gs m) (hx : x = nI (j + 1)) (hj : j + 1 < 2 ^ 31) : szR (allR gs m).1 x = nI (RSl gs m j).length := by
  have K := allR_len (gs := gs) (m := m)
  have e1 : (nI (j + 1)).toNatClampNeg - 1 = j := by
    rw [nI_clamp hj]
    omega
  unfold szR
  rw [hx, RSl_eq ho, e1]
  unfold rowsT
  rw [List.length_map]
  by_cases z : (allR gs m).1.length < j + 1
  · rw [if_pos (Or.inr ((nI_ltI (by omega) hj).mpr z))]
    have e : (allR gs m).1.getD j [] = [] := by rw [List.getD_eq_getElem?_getD, List.getElem?_eq_none (by omega)]; rfl
    rw [e]
    rfl
  · rw [if_neg (fun y => y.elim (fun w => by
      have w2 : nI (j + 1) < nI 1 := w
      rw [nI_ltI hj (by omega)] at w2
      omega) (fun w => z ((nI_ltI (by omega) hj).mp w)))]
theorem RSl_84 {gs : List (List Nat)} {m j : Nat} (ho : okg gs m) : (RSl gs m j).length ≤ 84 := by
  refine Nat.le_trans (List.length_filter_le _ _) ?_
  rw [List.length_map]
  exact ENs_len ho
theorem md_tails {d : Nat} {h : PH} {Q : PQ} {gs : List (List Nat)} {m : Nat} {x : Int32} (hM : MdS h) (hg : MGr h gs m) (hu : unlk gs) (hz : MTz h gs m) (k : ∀ h', MTl h' gs m → Fr Wpt h h' → Q (some (.int (tlsR (allR gs m) x))) h') : wpm (d + 6) 214 [.ref 17, .int x] h Q := by
  refine wpm_in P_Md_tails rfl (by decide) (by show ¬ 4 < 2; decide) (B_Md_tails_0 hM.1 (md_layTails ((th0 h).md hM) (th0_mg hg) hu (th0_mt hg.1 hz) (fun h1 T1 f1 => ?_)))
  have F := pt_up f1
  have k1 := k h1 T1 F
  have ho := hg.1
  have hM1 := F.md hM
  have N84 := ENs_len ho
  unfold tlsR at k1
  refine B_Md_tails_9 (fun z => B_Md_tails_19 ?_) (fun z => B_Md_tails_14 hM1.1 ?_)
  · rw [if_neg z] at k1
    by_cases p : x ≤ 0
    · have e0 : szR (allR gs m).1 x = 0 := by
        unfold szR
        rw [if_pos (Or.inl ?_)]
        exact Int32.lt_of_le_of_lt p (by decide)
      rw [e0] at k1
      have loop : ∀ (e t : Nat), (ENs gs m).length - t = e → t ≤ (ENs gs m).length → wpx (d + 5) P_Md_tails 23 [.ref 17, .int x, .int 0, .int (nI t)] [] h1 Q := by
        intro e
        induction e with
        | zero =>
          intro t he ht
          refine B_Md_tails_23 hM1.1 (fun _ => B_Md_tails_59 k1) (fun y => ?_)
          rw [T1.1.2.1, nI_leI (by omega) (by omega)] at y
          omega
        | succ e ih =>
          intro t he ht
          refine B_Md_tails_23 hM1.1 (fun y => ?_) (fun _ => B_Md_tails_31 (fun _ => B_Md_tails_50 (B_Md_tails_51 ?_)) (fun y => absurd p y))
          · rw [T1.1.2.1, nI_leI (by omega) (by omega)] at y
            omega
          · rw [nI_1]
            exact ih (t + 1) (by omega) (by omega)
      exact loop (ENs gs m).length 0 rfl (Nat.zero_le _)
    · obtain ⟨n, n31, n1, en⟩ := i1_pos (x := x) (fun y => p (by
        have : x < 1 := y
        exact le0_1 this))
      obtain ⟨j, rfl⟩ : ∃ j, n = j + 1 := ⟨n - 1, by omega⟩
      rw [szR_j ho en n31] at k1
      have loop : ∀ (e t : Nat), (ENs gs m).length - t = e → t ≤ (ENs gs m).length → wpx (d + 5) P_Md_tails 23 [.ref 17, .int x, .int (nI ((((ENs gs m).map (rwE gs)).take t).filter (fun r => @decide ((RSd gs m j).2 r) (Classical.propDecidable _))).length), .int (nI t)] [] h1 Q := by
        intro e
        induction e with
        | zero =>
          intro t he ht
          refine B_Md_tails_23 hM1.1 (fun _ => B_Md_tails_59 ?_) (fun y => ?_)
          · rw [List.take_of_length_le (by rw [List.length_map]; omega)]
            exact k1
          · rw [T1.1.2.1, nI_leI (by omega) (by omega)] at y
            omega
        | succ e ih =>
          intro t he ht
          have gt : (ENs gs m)[t]? = some (ENs gs m)[t] := List.getElem?_eq_getElem (by omega)
          generalize (ENs gs m)[t] = ee at gt
          have gm : ((ENs gs m).map (rwE gs))[t]? = some (rwE gs ee) := by rw [List.getElem?_map, gt]; rfl
          have nx := ih (t + 1) (by omega) (by omega)
          rw [flt_tk gm] at nx
          have vt : vp_in (nI t) 100 := vp_in_nI (by omega) (by omega)
          refine B_Md_tails_23 hM1.1 (fun y => ?_) (fun _ => B_Md_tails_31 (fun y => absurd y p) (fun _ => B_Md_tails_36 hM1.1 (mr_roundOf hM1) (ms_roundOf hM1) vt (fun y => B_Md_tails_50 (B_Md_tails_51 ?_)) (fun y => B_Md_tails_46 (B_Md_tails_51 ?_))))
          · rw [T1.1.2.1, nI_leI (by omega) (by omega)] at y
            omega
          · rw [nI_clamp (by omega), T1.rd gt en n31] at y
            rw [if_neg y, Nat.add_zero] at nx
            rw [show ∀ q : Int32, q + 0 = q from fun q => Int32.add_zero q, nI_1]
            exact nx
          · rw [nI_clamp (by omega), T1.rd gt en n31] at y
            rw [if_pos y] at nx
            rw [nI_1, nI_1]
            exact nx
      exact loop (ENs gs m).length 0 rfl (Nat.zero_le _)
  · rw [if_pos z, ← T1.2.2.2.2.1] at k1
    exact k1
theorem md_tail {d : Nat} {h : PH} {Q : PQ} {gs : List (List Nat)} {m : Nat} {x y i : Int32} (hM : MdS h) (hg : MGr h gs m) (hu : unlk gs) (hz : MTz h gs m) (k : ∀ h', MTl h' gs m → Fr Wpt h h' → Q (some (.int (tlR (allR gs m) x y i))) h') : wpm (d + 6) 215 [.ref 17, .int x, .int y, .int i] h Q := by
  refine wpm_in P_Md_tail rfl (by decide) (by show ¬ 6 < 4; decide) (B_Md_tail_0 hM.1 (md_layTails ((th0 h).md hM) (th0_mg hg) hu (th0_mt hg.1 hz) (fun h1 T1 f1 => B_Md_tail_9 ?_)))
  have F := pt_up f1
  have k1 := k h1 T1 F
  have ho := hg.1
  have hM1 := F.md hM
  have hg1 : MGr h1 gs m := MGr.fr F (fun c k z w => by unfold Wpt Wlt at z; omega) hg
  have N84 := ENs_len ho
  unfold tlR at k1
  by_cases p : x ≤ 0
  · have e0 : szR (allR gs m).1 x = 0 := by
      unfold szR
      rw [if_pos (Or.inl ?_)]
      exact Int32.lt_of_le_of_lt p (by decide)
    rw [e0, if_pos ?_] at k1
    · have loop : ∀ (e t : Nat), (ENs gs m).length - t = e → t ≤ (ENs gs m).length → wpx (d + 5) P_Md_tail 15 [.ref 17, .int x, .int y, .int i, .int 0, .int (nI t)] [] h1 Q := by
        intro e
        induction e with
        | zero =>
          intro t he ht
          refine B_Md_tail_15 hM1.1 (fun _ => B_Md_tail_85 k1) (fun z => ?_)
          rw [T1.1.2.1, nI_leI (by omega) (by omega)] at z
          omega
        | succ e ih =>
          intro t he ht
          refine B_Md_tail_15 hM1.1 (fun z => ?_) (fun _ => B_Md_tail_24 (fun _ => B_Md_tail_79 ?_) (fun z => absurd p z))
          · rw [T1.1.2.1, nI_leI (by omega) (by omega)] at z
            omega
          · rw [nI_1]
            exact ih (t + 1) (by omega) (by omega)
      exact loop (ENs gs m).length 0 rfl (Nat.zero_le _)
    · by_cases q : y < 0
      · exact Or.inl q
      · exact Or.inr (Int32.not_lt.mp q)
  · obtain ⟨n, n31, n1, en⟩ := i1_pos (x := x) (fun z => p (by
      have : x < 1 := z
      exact le0_1 this))
    obtain ⟨j, rfl⟩ : ∃ j, n = j + 1 := ⟨n - 1, by omega⟩
    rw [szR_j ho en n31] at k1
    have L84 := RSl_84 (gs := gs) (m := m) (j := j) ho
    have ex : x.toNatClampNeg - 1 = j := by rw [en, nI_clamp n31]; omega
    rw [ex] at k1
    have loop : ∀ (e t : Nat), (ENs gs m).length - t = e → t ≤ (ENs gs m).length → (∀ q : Nat, q < ((((ENs gs m).map (rwE gs)).take t).filter (fun r => @decide ((RSd gs m j).2 r) (Classical.propDecidable _))).length → ¬ y = nI q) → wpx (d + 5) P_Md_tail 15 [.ref 17, .int x, .int y, .int i, .int (nI ((((ENs gs m).map (rwE gs)).take t).filter (fun r => @decide ((RSd gs m j).2 r) (Classical.propDecidable _))).length), .int (nI t)] [] h1 Q := by
      intro e
      induction e with
      | zero =>
        intro t he ht hy
        refine B_Md_tail_15 hM1.1 (fun _ => B_Md_tail_85 ?_) (fun z => ?_)
        · rw [List.take_of_length_le (by rw [List.length_map]; omega)] at hy
          rw [if_pos ?_] at k1
          · exact k1
          · by_cases q : y < 0
            · exact Or.inl q
            · obtain ⟨w, w31, rfl⟩ := nI_of q
              refine Or.inr ?_
              rw [nI_leI (by omega) w31]
              by_cases v : w < (RSl gs m j).length
              · exact absurd rfl (hy w v)
              · omega
        · rw [T1.1.2.1, nI_leI (by omega) (by omega)] at z
          omega
      | succ e ih =>
        intro t he ht hy
        have gt : (ENs gs m)[t]? = some (ENs gs m)[t] := List.getElem?_eq_getElem (by omega)
        generalize (ENs gs m)[t] = ee at gt
        have gm : ((ENs gs m).map (rwE gs))[t]? = some (rwE gs ee) := by rw [List.getElem?_map, gt]; rfl
        have nx := ih (t + 1) (by omega) (by omega)
        rw [flt_tk gm] at nx
        have vt : vp_in (nI t) 100 := vp_in_nI (by omega) (by omega)
        have cl : ((((ENs gs m).map (rwE gs)).take t).filter (fun r => @decide ((RSd gs m j).2 r) (Classical.propDecidable _))).length ≤ 84 := by
          refine Nat.le_trans (List.length_filter_le _ _) (Nat.le_trans (List.length_take_le' _ _) ?_)
          rw [List.length_map]
          exact N84
        refine B_Md_tail_15 hM1.1 (fun z => ?_) (fun _ => B_Md_tail_24 (fun z => absurd z p) (fun _ => B_Md_tail_28 hM1.1 (mr_roundOf hM1) (ms_roundOf hM1) vt (fun z => ?_) (fun z => B_Md_tail_39 (B_Md_tail_79 ?_))))
        · rw [T1.1.2.1, nI_leI (by omega) (by omega)] at z
          omega
        · rw [nI_clamp (by omega), T1.rd gt en n31] at z
          have fa := flt_at (p := fun r => @decide ((RSd gs m j).2 r) (Classical.propDecidable _)) gm z
          have flt := (List.getElem?_eq_some_iff.mp fa).1
          generalize hq : ((((ENs gs m).map (rwE gs)).take t).filter (fun r => @decide ((RSd gs m j).2 r) (Classical.propDecidable _))).length = q at fa flt cl hy nx ⊢
          refine B_Md_tail_42 (fun w => B_Md_tail_76 (B_Md_tail_79 ?_)) (fun w => B_Md_tail_48 hM1.1 (md_tailSize hM1 hg1 T1.1 gt (B_Md_tail_56 ?_)))
          · rw [nI_1, nI_1]
            rw [if_pos z] at nx
            refine nx (fun q' h' => ?_)
            by_cases v : q' = q
            · rw [v]
              exact fun u => w u.symm
            · exact hy q' (by omega)
          · have okr' := rwE_okr ho ee
            have l7 := okr'.2
            have yv : ¬ (y < 0 ∨ nI (RSl gs m j).length ≤ y) := by
              rw [← w]
              rintro (v | v)
              · exact nI_lt0 (by omega) v
              · rw [nI_leI (by omega) (by omega)] at v
                exact absurd flt (by unfold RSl at v; omega)
            rw [if_neg yv, ← w, nI_clamp (by omega)] at k1
            have eR : (((allR gs m).1.getD j []).getD q ([], 0)).1 = rwE gs ee := by
              have fa' : (RSl gs m j)[q]? = some (rwE gs ee) := fa
              rw [RSl_eq ho] at fa'
              unfold rowsT at fa'
              rw [List.getElem?_map] at fa'
              rw [List.getD_eq_getElem?_getD]
              cases u : ((allR gs m).1.getD j [])[q]? with
              | none =>
                rw [u] at fa'
                cases fa'
              | some c =>
                rw [u] at fa'
                exact Option.some.inj fa'
            rw [eR] at k1
            unfold shw at k1
            rw [show ∀ c : Nat, nI c - (1 : Int32) = nI c - nI 1 from fun _ => rfl]
            refine md_in ?_
            have b0 : ¬ (rwE gs ee).length = 0 := by
              obtain ⟨l', _, a2, a3, _⟩ := T1.1.at gt
              rw [a3, List.length_drop]
              omega
            · rw [nI_subN (by omega)]
              by_cases v : i < 0 ∨ nI ((rwE gs ee).length - 1) < i
              · rw [if_pos v]
                rw [if_pos ?_] at k1
                · exact B_Md_tail_61 (fun _ => B_Md_tail_74 (B_Md_tail_75 k1)) (fun w => absurd rfl w)
                · rcases v with v | v
                  · exact Or.inl v
                  · by_cases u : i < 0
                    · exact Or.inl u
                    · obtain ⟨c, c31, rfl⟩ := nI_of u
                      rw [nI_ltI (by omega) c31] at v
                      refine Or.inr ?_
                      rw [nI_leI (by omega) c31]
                      omega
              · rw [if_neg v]
                obtain ⟨c, c31, rfl⟩ := nI_of (x := i) (fun u => v (Or.inl u))
                have cl : c < (rwE gs ee).length := by
                  by_cases w3 : (rwE gs ee).length - 1 < c
                  · exact absurd (Or.inr ((nI_ltI (by omega) c31).mpr w3)) v
                  · omega
                rw [if_neg ?_, nI_clamp c31] at k1
                · have gc : (rwE gs ee)[c]? = some ((rwE gs ee).getD c 0) := by
                    rw [List.getElem?_eq_getElem cl, List.getD_eq_getElem?_getD, List.getElem?_eq_getElem cl]
                    rfl
                  exact B_Md_tail_61 (fun w => absurd w (by decide)) (fun _ => B_Md_tail_64 hM1.1 (md_tailLetter hM1 hg1 T1.1 gt gc (B_Md_tail_71 (B_Md_tail_75 k1))))
                · rintro (u | u)
                  · exact v (Or.inl u)
                  · rw [nI_leI (by omega) c31] at u
                    omega
        · rw [nI_clamp (by omega), T1.rd gt en n31] at z
          rw [nI_1]
          rw [if_neg z, Nat.add_zero] at nx
          exact nx hy
    exact loop (ENs gs m).length 0 rfl (Nat.zero_le _) (fun q hq => by
      rw [List.take_zero] at hq
      exact absurd hq (by show ¬ q < 0; omega))
