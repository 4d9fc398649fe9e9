/-! cure on the reference's side; mend on both -/
def Wcc (c k : Nat) : Prop := Wic c k ∨ (c = 17 ∧ k = 0)
theorem md_cure {d : Nat} {h : PH} {Q : PQ} {gs : List (List Nat)} {m : Nat} {x : Int32} (hM : MdS h) (hg : MGr h gs m) (hu : unlC gs) (kb : x < 0 ∨ 2 < x → Q (some (.int (-1))) (w_i h 17 0 0)) (k : ¬ (x < 0 ∨ 2 < x) → ∀ o, IsCu x gs m o → ∀ h', MGr h' gs m → Fr Wcc h h' → Q (some (.int (oN o))) h') : wpm (d + 7) 277 [.ref 17, .int x] h Q := by
  refine wpm_in P_Md_cure rfl (by decide) (by show ¬ 2 < 2; decide) (B_Md_cure_0 hM.1 (md_in ?_))
  by_cases hb : x < 0 ∨ 2 < x
  · rw [if_pos hb]
    exact B_Md_cure_11 (fun _ => B_Md_cure_22 (B_Md_cure_23 (kb hb))) (fun z => absurd rfl z)
  · rw [if_neg hb]
    have f0 : Fr Wcc h (w_i h 17 0 0) := Fr.wi h _ (Or.inr ⟨rfl, rfl⟩)
    have hM0 := f0.md hM
    have hg0 := th0_mg hg
    refine B_Md_cure_11 (fun z => absurd z (by decide)) (fun _ => B_Md_cure_14 hM0.1 ?_)
    refine md_cureOf hM0 hg0 hu ((way3 x).resolve_left hb) (fun o ho h' hg' hf => B_Md_cure_19 (B_Md_cure_23 (k hb o ho h' hg' (f0.tr (hf.up (fun c k z => Or.inl z))))))
def Wmn (c k : Nat) : Prop := Wcc c k ∨ Wkp c k
theorem oN_pos {o : Option Nat} {s : Nat} (h : o = some s) (hs : s < 2 ^ 31) : (0 : Int32) < oN o ↔ 0 < s := by
  subst h
  show (0 : Int32) < nI s ↔ _
  rw [show (0 : Int32) = nI 0 from rfl, nI_ltI (by omega) (by omega)]
theorem IsCu.lt {x : Int32} {gs : List (List Nat)} {m s : Nat} (h14 : gs.length ≤ 14) (h : IsCu x gs m (some s)) : s < 2 ^ 14 := Nat.lt_of_lt_of_le h.1 (Nat.pow_le_pow_right (by decide) h14)
theorem md_mend {d : Nat} {h : PH} {Q : PQ} {gs : List (List Nat)} {m : Nat} {x : Int32} {as : List (List (List Nat) × Nat)} (hM : MdS h) (hg : MGr h gs m) (hu : unlC gs) (hk : MKp h as) (kb : x < 0 ∨ 2 < x → Q (some (.int (-1))) (w_i h 17 0 0)) (kn : ¬ (x < 0 ∨ 2 < x) → ∀ o, IsCu x gs m o → (∀ s, o = some s → s = 0) → ∀ h', MGr h' gs m → Fr Wcc h h' → Q (some (.int (-1))) h') (ky : ¬ (x < 0 ∨ 2 < x) → ∀ s, IsCu x gs m (some s) → 0 < s → ∀ h', MKp h' (kpd as ++ [(gs, m)]) → MGr h' (hlg x s gs) (hlm x s m) → Fr Wmn h h' → h_i h' 17 25 = 0 → h_i h' 17 26 = 0 → h_i h' 17 70 = 0 → Q (some (.int (nI (pop s 14)))) h') : wpm (d + 7) 279 [.ref 17, .int x] h Q := by
  refine wpm_in P_Md_mend rfl (by decide) (by show ¬ 3 < 2; decide) (B_Md_mend_0 hM.1 (md_in ?_))
  have h14 := hg.1.1
  by_cases hb : x < 0 ∨ 2 < x
  · rw [if_pos hb]
    exact B_Md_mend_11 (fun _ => B_Md_mend_22 (B_Md_mend_23 (fun z => absurd z (by decide)) (fun _ => B_Md_mend_28 (kb hb)))) (fun z => absurd rfl z)
  · rw [if_neg hb]
    have f0 : Fr Wcc h (w_i h 17 0 0) := Fr.wi h _ (Or.inr ⟨rfl, rfl⟩)
    have hM0 := f0.md hM
    have hg0 := th0_mg hg
    refine B_Md_mend_11 (fun z => absurd z (by decide)) (fun _ => B_Md_mend_14 hM0.1 ?_)
    refine md_cureOf hM0 hg0 hu ((way3 x).resolve_left hb) (fun o ho g hg' hf => B_Md_mend_19 ?_)
    have F := f0.tr (hf.up (fun c k z => Or.inl z : ∀ c k, Wic c k → Wcc c k))
    have none_ : ∀ v : Value, (∀ s, o = some s → s = 0) → wpx (d + 6) P_Md_mend 23 [.ref 17, .int x, v] [.int (oN o)] g Q := fun v hs => by
      refine B_Md_mend_23 (fun z => ?_) (fun _ => B_Md_mend_28 (kn hb o ho hs g hg' F))
      cases o with
      | none => exact absurd z (by decide)
      | some s =>
        have hI := IsCu.lt h14 ho
        rw [oN_pos rfl (by omega)] at z
        have := hs s rfl
        omega
    by_cases hs : ∀ s, o = some s → s = 0
    · exact none_ _ hs
    · have ⟨s, e, s0⟩ : ∃ s, o = some s ∧ 0 < s := by
        cases o with
        | none => exact absurd (fun s w => by cases w) hs
        | some s => exact ⟨s, rfl, Nat.pos_of_ne_zero (fun w => hs (fun s' w' => by cases w'; exact w))⟩
      subst e
      have sl := IsCu.lt h14 ho
      obtain ⟨c1, c2⟩ := can_sub ho.2.1.1
      have hMg := F.md hM
      refine B_Md_mend_23 (fun _ => ?_) (fun z => absurd ((oN_pos rfl (by omega)).mpr s0) z)
      have hkg : MKp g as := MKp.fr F (fun c k z y => by unfold Wcc Wic Wpn at z; omega) hk
      refine B_Md_mend_30 hMg.1 (md_keep hMg hg' hkg (fun g1 k1 f1 z1 z2 z3 => ?_))
      have F1 : Fr Wmn h g1 := (F.up (fun c k z => Or.inl z)).tr (f1.up (fun c k z => Or.inr z))
      have hM1 := F1.md hM
      have hg1 : MGr g1 gs m := MGr.fr f1 (fun c k z y => by unfold Wkp at z; omega) hg'
      refine B_Md_mend_34 hM1.1 ?_
      have fin : ∀ g2, MGr g2 (hlg x s gs) (hlm x s m) → Fr (fun c k => c = 18 ∨ c = 19 ∨ (c = 17 ∧ k = 6)) g1 g2 → wpx (d + 6) P_Md_mend 40 [.ref 17, .int x, .int (nI s)] [] g2 Q := fun g2 hg2 f2 => by
        refine B_Md_mend_40 (md_many (by omega) (B_Md_mend_44 ?_))
        refine ky hb s ho s0 g2 (MKp.fr f2 (fun c k z y => by omega) k1) hg2 (F1.tr (f2.up (fun c k z => Or.inl (Or.inl (by unfold Wic; omega))))) ?_ ?_ ?_
        · rw [f2.i 17 25 (by omega)]; exact z1
        · rw [f2.i 17 26 (by omega)]; exact z2
        · rw [f2.i 17 70 (by omega)]; exact z3
      unfold hlg hlm at fin
      by_cases hx2 : x = 2
      · subst hx2
        rw [if_pos rfl, if_pos rfl] at fin
        exact md_does2 hM1 hg1 c2 (sbs_and.mp (fun k hk => (c1 k hk).1)) (fun g2 a f => fin g2 a (f.up (fun c k z => by omega)))
      · rw [if_neg hx2, if_neg hx2] at fin
        have hx01 : x = 0 ∨ x = 1 := by
          rcases (way3 x).resolve_left hb with e | e | e
          · exact Or.inl e
          · exact Or.inr e
          · exact absurd e hx2
        exact md_doesM hM1 hg1 hx01 (by omega) (fun t l ht hi => by
          have := (c1 t hi).2.2
          rw [gD ht] at this
          omega) fin
def Wom (a k : Nat) : Prop := a = 3 ∨ a = 4 ∨ a = 6 ∨ a = 7 ∨ (a = 2 ∧ (k = 5 ∨ k = 6 ∨ k = 9))
theorem ow_mend {d : Nat} {h : PH} {Q : PQ} {x : Int32} {gs : List (List Nat)} {m t : Nat} {ac : List (Int32 × Int32)} (hO : OwS h) (hc : 63 ≤ h_ct h) (hz : CCu h gs m) (hg : CGr h 2 gs m) (ha : CAc h 2 ac) (ht : t < 2 ^ 31) (hst : h_i h 2 6 = nI t) (kb : x < 0 ∨ 2 < x → ∀ h', Gw (Wlz 12 20 h) h h' → CCu h' gs m → Q (some (.int (-1))) h') (kn : ¬ (x < 0 ∨ 2 < x) → ∀ o, IsCu x gs m o → (∀ s, o = some s → s = 0) → ∀ h', Gw (Wlz 12 20 h) h h' → CCu h' gs m → Q (some (.int (-1))) h') (ky : ¬ (x < 0 ∨ 2 < x) → ∀ s, IsCu x gs m (some s) → 0 < s → ∀ h', CAc h' 2 (acd ac ++ [(x, nI s)]) → CGr h' 2 (hlg x s gs) (hlm x s m) → h_i h' 2 6 = h_i h 2 6 + 1 → (∀ c, h_r h' 0 12 = some c → CuS h' c ∧ ∀ w, w < 3 → SB (h_i h' (c + 16) w) t) → Gw (fun a k => Wlz 12 20 h a k ∨ Wom a k) h h' → Q (some (.int (nI (pop s 14)))) h') : wpm (d + 9) 149 [.ref 0, .int x] h Q := by
  refine wpm_in P_Ow_mend rfl (by decide) (by show ¬ 3 < 2; decide) (B_Ow_mend_0 hO.1 ?_)
  have h14 := hg.1.1
  refine ow_cures hO hc hz ht hst (fun c g hG hr hS hA hn => ?_)
  have hO1 := hG.ow hc hO
  have hc63 : 63 ≤ c := hS.2.2.2.2.2.2.2.2.2.1
  have hg1 : CGr g 2 gs m := hg.gw hG (by omega) (fun _ _ z => z.elim)
  have fin : ∀ {h' : PH}, Fr (fun x _ => c ≤ x ∧ x ≤ c + 20) g h' → Gw (Wlz 12 20 h) h h' := fun {h'} hf => (Gw.lz2 (W := fun _ _ => False) hc hG (hf.gw.up (fun x k z => Or.inl z)) (fun _ _ z => z.elim) hr hn).up (fun x k z => z.elim id False.elim)
  refine B_Ow_mend_4 hO1.1 (or_groups hO1) hS.1 ?_
  by_cases hb : x < 0 ∨ 2 < x
  · refine wpm_in P_Cu_fewest rfl (by decide) (by show ¬ 5 < 3; decide) ?_
    have done : ∀ v3 v4 v2 : Value, wpx (d + 7) P_Cu_fewest 9 [.ref c, .ref 2, .int x, v3, v4] [] g (fun r h' => wpx (d + 8) P_Ow_mend 12 [.ref 0, .int x, v2] (r.toList ++ []) h' Q) := fun v3 v4 v2 => B_Cu_fewest_9 (B_Ow_mend_12 (fun z => absurd z (by decide)) (fun _ => B_Ow_mend_17 (kb hb g (fin (Fr.rf _ _)) (CCu.of hr hS hA))))
    refine B_Cu_fewest_0 (fun _ => done _ _ _) (fun z => B_Cu_fewest_4 (fun z' => ?_) (fun _ => done _ _ _))
    exfalso
    rcases hb with y | y
    · exact z y
    · rw [Int32.lt_iff_toInt_lt] at y z'
      have e2 : (2 : Int32).toInt = 2 := by decide
      have e3 : (3 : Int32).toInt = 3 := by decide
      omega
  · have hx : ∃ w, w < 3 ∧ x = nI w := by
      rcases (way3 x).resolve_left hb with y | y | y
      · exact ⟨0, by omega, y⟩
      · exact ⟨1, by omega, y⟩
      · exact ⟨2, by omega, y⟩
    obtain ⟨w, hw, e⟩ := hx
    subst e
    refine cu_fewest hS (GrS_2 hO1) hg1 hw hA (fun o ho g1 hA1 hf => ?_)
    have hr1 : h_r g1 0 12 = some c := by rw [hf.2.1]; exact hr
    have hS1 := hS.fr hf
    have hO2 := hf.ow hO1
    have hg2 : CGr g1 2 gs m := CGr.fr hf (fun x k z y => by omega) hg1
    by_cases hs : ∀ s, o = some s → s = 0
    · refine B_Ow_mend_12 (fun z => ?_) (fun _ => B_Ow_mend_17 (kn hb o ho hs g1 (fin hf) (CCu.of hr1 hS1 hA1)))
      cases o with
      | none => exact absurd z (by decide)
      | some s =>
        have hI := IsCu.lt h14 ho
        rw [oN_pos rfl (by omega)] at z
        have := hs s rfl
        omega
    · have ⟨s, e, s0⟩ : ∃ s, o = some s ∧ 0 < s := by
        cases o with
        | none => exact absurd (fun s w => by cases w) hs
        | some s => exact ⟨s, rfl, Nat.pos_of_ne_zero (fun w => hs (fun s' w' => by cases w'; exact w))⟩
      subst e
      have sl := IsCu.lt h14 ho
      obtain ⟨c1, c2⟩ := can_sub ho.2.1.1
      have ha2 : CAc g1 2 ac := by
        obtain ⟨a1, a2, a3⟩ := ha
        have t1 : h_i g1 2 9 = h_i h 2 9 := (hf.i 2 9 (by omega)).trans (hG.i (by omega) (fun z => z))
        have t2 : ∀ n, h_i g1 6 n = h_i h 6 n := fun n => (hf.i 6 n (by omega)).trans (hG.i (by omega) (fun z => z))
        have t3 : ∀ n, h_i g1 7 n = h_i h 7 n := fun n => (hf.i 7 n (by omega)).trans (hG.i (by omega) (fun z => z))
        exact ⟨t1.trans a1, a2, fun n v hv => ⟨(t2 n).trans (a3 n v hv).1, (t3 n).trans (a3 n v hv).2⟩⟩
      have e26 : h_i g1 2 6 = h_i h 2 6 := (hf.i 2 6 (by omega)).trans (hG.i (by omega) (fun z => z))
      refine B_Ow_mend_12 (fun _ => B_Ow_mend_19 hO2.1 (or_groups hO2) (os_groups hO2) ?_) (fun z => absurd ((oN_pos rfl (by omega)).mpr s0) z)
      refine gr_act (GrS_2 hO2) ha2 (fun g2 ha3 f2 => ?_)
      have hO3 := f2.ow hO2
      have hg3 : CGr g2 2 gs m := CGr.fr f2 (fun x k z y => by unfold Wac at z; omega) hg2
      have e26' : h_i g2 2 6 = h_i h 2 6 := (f2.i 2 6 (by unfold Wac; omega)).trans e26
      have last : ∀ g3, CGr g3 2 (hlg (nI w) s gs) (hlm (nI w) s m) → h_i g3 2 6 = h_i g2 2 6 + 1 → Fr (fun a k => a = 3 ∨ a = 4 ∨ (a = 2 ∧ (k = 5 ∨ k = 6))) g2 g3 → wpx (d + 8) P_Ow_mend 28 [.ref 0, .int (nI w), .int (nI s)] [] g3 Q := fun g3 hg4 e3 f3 => by
        refine B_Ow_mend_28 (ji_bitCount (by omega) (B_Ow_mend_32 ?_))
        rw [show pop s 32 = pop s 14 from pop_up (a := 14) sl 18]
        have F : Fr (fun x k => (c ≤ x ∧ x ≤ c + 20) ∨ Wom x k) g g3 := ((hf.up (fun x k z => Or.inl z)).tr (f2.up (fun x k z => Or.inr (by unfold Wac at z; unfold Wom; omega)))).tr (f3.up (fun x k z => Or.inr (by unfold Wom; omega)))
        have f23 : Fr (fun x k => Wom x k) g1 g3 := (f2.up (fun x k z => by unfold Wac at z; unfold Wom; omega)).tr (f3.up (fun x k z => by unfold Wom; omega))
        refine ky hb s ho s0 g3 ?_ hg4 (by rw [e3, e26']) (fun c' hr' => ?_) (Gw.lz2 hc hG F.gw (fun _ _ z => z.elim) hr hn)
        · obtain ⟨a1, a2, a3⟩ := ha3
          exact ⟨(f3.i 2 9 (by omega)).trans a1, a2, fun n v hv => ⟨(f3.i 6 n (by omega)).trans (a3 n v hv).1, (f3.i 7 n (by omega)).trans (a3 n v hv).2⟩⟩
        · rw [f3.2.1, f2.2.1, hr1] at hr'
          cases hr'
          refine ⟨hS1.fr f23, fun w' hw' => ?_⟩
          rw [f23.i (c + 16) w' (by unfold Wom; omega)]
          exact (hA1 w' hw').2 t (e26.trans hst)
      unfold hlg hlm at last
      by_cases hx2 : nI w = 2
      · rw [if_pos hx2, if_pos hx2] at last
        rw [hx2] at last ⊢
        exact gr_change2 (GrS_2 hO3) hg3 c2 (fun g3 a e3 f3 => ⟨rfl, last g3 a e3 (f3.up (fun x k z => by omega))⟩)
      · rw [if_neg hx2, if_neg hx2] at last
        exact gr_changeM (GrS_2 hO3) hg3 hx2 (by omega) (fun g3 a e3 f3 => ⟨rfl, last g3 a e3 (f3.up (fun x k z => by unfold Wcm at z; omega))⟩)
