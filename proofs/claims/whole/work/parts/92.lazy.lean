/-! lazily made objects: cells and slots still to be made; what a call that may make one leaves -/
def lzn : Nat → Nat × Nat
  | 5 => (1 + nA L_Tr_init, fN 8 + nS L_Tr_init)
  | 6 => (1 + nA L_Ta_init, fN 6 + nS L_Ta_init)
  | 7 => (1 + nA L_Tw_init, fN 9 + nS L_Tw_init)
  | 8 => (1 + nA L_Re_init, fN 4 + nS L_Re_init)
  | 9 => (1 + nA L_Sp_init, fN 5 + nS L_Sp_init)
  | 10 => (1 + nA L_Ce_init, fN 1 + nS L_Ce_init)
  | 11 => (1 + nA L_Bo_init, fN 0 + nS L_Bo_init)
  | 12 => (9 + nA L_Gr_init + nA L_Ta_init, fN 2 + fN 3 + nS L_Gr_init + fN 6 + nS L_Ta_init + 2082)
  | _ => (0, 0)
def rcf (h : PH) (f : Nat) : Nat := if h_r h 0 f = none then (lzn f).1 else 0
def rsf (h : PH) (f : Nat) : Nat := if h_r h 0 f = none then (lzn f).2 else 0
def restC (h : PH) : Nat := rcf h 5 + rcf h 6 + rcf h 7 + rcf h 8 + rcf h 9 + rcf h 10 + rcf h 11 + rcf h 12
def restS (h : PH) : Nat := rsf h 5 + rsf h 6 + rsf h 7 + rsf h 8 + rsf h 9 + rsf h 10 + rsf h 11 + rsf h 12
def Gw (W : Nat → Nat → Prop) (h h' : PH) : Prop := h_sc h' = h_sc h ∧ h_ct h ≤ h_ct h' ∧ h_ct h' + restC h' = h_ct h + restC h ∧ h_sl h' + restS h' = h_sl h + restS h ∧ (∀ c, c < h_ct h → h_sh h' c = h_sh h c) ∧ (∀ c k, c < h_ct h → h_r h' c k = h_r h c k ∨ (c = 0 ∧ h_r h c k = none)) ∧ ∀ c k, c < h_ct h → ¬ W c k → h_i h' c k = h_i h c k ∧ h_l h' c k = h_l h c k
theorem rest_eq {h h' : PH} (hr : ∀ k, h_r h' 0 k = h_r h 0 k) : restC h' = restC h ∧ restS h' = restS h := by
  unfold restC restS rcf rsf
  constructor <;> simp only [hr]
theorem Fr.gw {W : Nat → Nat → Prop} {h h' : PH} (a : Fr W h h') : Gw W h h' := by
  obtain ⟨h1, h2, h3, h4, h5, h6⟩ := a
  obtain ⟨e1, e2⟩ := rest_eq (h := h) (h' := h') (fun k => by rw [h2])
  refine ⟨h5, by omega, by omega, by omega, fun c _ => by rw [h1], fun c k _ => Or.inl (by rw [h2]), fun c k _ hw => h6 c k hw⟩
theorem Gw.tr {W : Nat → Nat → Prop} {h h1 h2 : PH} (a : Gw W h h1) (b : Gw W h1 h2) : Gw W h h2 := by
  obtain ⟨a1, a2, a3, a4, a5, a6, a7⟩ := a
  obtain ⟨b1, b2, b3, b4, b5, b6, b7⟩ := b
  refine ⟨b1.trans a1, by omega, by omega, by omega, fun c hc => (b5 c (by omega)).trans (a5 c hc), fun c k hc => ?_, fun c k hc hw => ?_⟩
  · rcases a6 c k hc with p | p
    · rcases b6 c k (by omega) with q | q
      · exact Or.inl (q.trans p)
      · exact Or.inr ⟨q.1, p ▸ q.2⟩
    · exact Or.inr p
  · have x := a7 c k hc hw
    have y := b7 c k (by omega) hw
    exact ⟨y.1.trans x.1, y.2.trans x.2⟩
theorem Gw.up {W W' : Nat → Nat → Prop} {h h' : PH} (a : Gw W h h') (hw : ∀ c k, W c k → W' c k) : Gw W' h h' := by
  obtain ⟨a1, a2, a3, a4, a5, a6, a7⟩ := a
  exact ⟨a1, a2, a3, a4, a5, a6, fun c k hc q => a7 c k hc (fun z => q (hw c k z))⟩
theorem Gw.rs {W : Nat → Nat → Prop} {h h' : PH} {c k x : Nat} (a : Gw W h h') (hc : c < h_ct h) (hx : h_r h c k = some x) : h_r h' c k = some x := by
  rcases a.2.2.2.2.2.1 c k hc with q | q
  · rw [q, hx]
  · rw [hx] at q
    exact absurd q.2 (by intro z; cases z)
theorem mdT_63 : ∀ q ∈ mdT, q.2.1 < 63 := by decide +kernel
theorem owT_63 : ∀ q ∈ owT, q.1 < 63 ∧ q.2.2.1 < 63 := by decide +kernel
theorem Gw.md {W : Nat → Nat → Prop} {h h' : PH} (a : Gw W h h') (hc : 63 ≤ h_ct h) (hM : MdS h) : MdS h' := by
  refine ⟨(a.2.2.2.2.1 17 (by omega)).trans hM.1, fun q hq => ?_⟩
  have := mdT_63 q hq
  exact ⟨a.rs (by omega) (hM.2 q hq).1, (a.2.2.2.2.1 _ (by omega)).trans (hM.2 q hq).2⟩
theorem Gw.ow {W : Nat → Nat → Prop} {h h' : PH} (a : Gw W h h') (hc : 63 ≤ h_ct h) (hO : OwS h) : OwS h' := by
  refine ⟨(a.2.2.2.2.1 0 (by omega)).trans hO.1, fun q hq => ?_⟩
  have := owT_63 q hq
  exact ⟨a.rs (by omega) (hO.2 q hq).1, (a.2.2.2.2.1 _ (by omega)).trans (hO.2 q hq).2⟩
theorem Gw.i {W : Nat → Nat → Prop} {h h' : PH} (a : Gw W h h') {c k : Nat} (hc : c < h_ct h) (hw : ¬ W c k) : h_i h' c k = h_i h c k := (a.2.2.2.2.2.2 c k hc hw).1
theorem Gw.l {W : Nat → Nat → Prop} {h h' : PH} (a : Gw W h h') {c k : Nat} (hc : c < h_ct h) (hw : ¬ W c k) : h_l h' c k = h_l h c k := (a.2.2.2.2.2.2 c k hc hw).2
theorem CWd.gw {W : Nat → Nat → Prop} {h h' : PH} {w : List Nat} (hf : Gw W h h') (hc : 63 ≤ h_ct h) (hw : ∀ c k, W c k → ¬ ((c = 13 ∧ k = 1) ∨ c = 14)) (hg : CWd h w) : CWd h' w := by
  obtain ⟨a, b, c⟩ := hg
  exact ⟨a, (hf.i (by omega) (fun q => hw _ _ q (Or.inl ⟨rfl, rfl⟩))).trans b, fun k x hk => (hf.i (by omega) (fun q => hw _ _ q (Or.inr rfl))).trans (c k x hk)⟩
theorem CGr.gw {W : Nat → Nat → Prop} {h h' : PH} {o : Nat} {gs : List (List Nat)} {m : Nat} (hf : Gw W h h') (hc : o + 2 < h_ct h) (hw : ∀ c k, W c k → ¬ ((c = o ∧ (k = 3 ∨ k = 5)) ∨ c = o + 1 ∨ c = o + 2)) (hg : CGr h o gs m) : CGr h' o gs m := by
  obtain ⟨a, b, c, e⟩ := hg
  refine ⟨a, (hf.i (by omega) (fun q => hw _ _ q (Or.inl ⟨rfl, Or.inl rfl⟩))).trans b, (hf.i (by omega) (fun q => hw _ _ q (Or.inl ⟨rfl, Or.inr rfl⟩))).trans c, fun k l hk => ⟨(hf.l (by omega) (fun q => hw _ _ q (Or.inr (Or.inl rfl)))).trans (e k l hk).1, (hf.i (by omega) (fun q => hw _ _ q (Or.inr (Or.inr rfl)))).trans (e k l hk).2⟩⟩
/-- one is made -/
theorem gw_made {h h1 : PH} {f o : Nat} (hf5 : 5 ≤ f) (hf : f ≤ 12) (hz : h_r h 0 f = none) (h0 : 0 < h_ct h) (hct : h_ct h1 = h_ct h + (lzn f).1) (hsl : h_sl h1 = h_sl h + (lzn f).2) (hsc : h_sc h1 = h_sc h) (hs : ∀ c, c < h_ct h → Same h h1 c) : Gw (fun _ _ => False) h (w_r h1 0 f (some o)) := by
  have e : ∀ k, h_r (w_r h1 0 f (some o)) 0 k = if k = f then some o else h_r h 0 k := fun k => by
    rw [h_r_wr, (hs 0 h0).2.2.2]
    by_cases q : k = f
    · rw [if_pos ⟨rfl, q⟩, if_pos q]
    · rw [if_neg (fun z => q z.2), if_neg q]
  have e1 : ∀ k, rcf (w_r h1 0 f (some o)) k = if k = f then 0 else rcf h k := fun k => by
    unfold rcf
    rw [e k]
    by_cases q : k = f
    · rw [if_pos q, if_pos q, if_neg (by intro z; cases z)]
    · rw [if_neg q, if_neg q]
  have e2 : ∀ k, rsf (w_r h1 0 f (some o)) k = if k = f then 0 else rsf h k := fun k => by
    unfold rsf
    rw [e k]
    by_cases q : k = f
    · rw [if_pos q, if_pos q, if_neg (by intro z; cases z)]
    · rw [if_neg q, if_neg q]
  have f1 : rcf h f = (lzn f).1 := if_pos hz
  have f2 : rsf h f = (lzn f).2 := if_pos hz
  refine ⟨hsc, by show _ ≤ h_ct h1; omega, ?_, ?_, fun c hc => (hs c hc).1, fun c k hc => ?_, fun c k hc _ => ⟨?_, ?_⟩⟩
  · show h_ct h1 + _ = _
    unfold restC
    rw [e1 5, e1 6, e1 7, e1 8, e1 9, e1 10, e1 11, e1 12]
    rcases (show f = 5 ∨ f = 6 ∨ f = 7 ∨ f = 8 ∨ f = 9 ∨ f = 10 ∨ f = 11 ∨ f = 12 by omega) with q | q | q | q | q | q | q | q <;> subst q <;> simp only [Nat.reduceEqDiff, if_false, if_true] <;> omega
  · show h_sl h1 + _ = _
    unfold restS
    rw [e2 5, e2 6, e2 7, e2 8, e2 9, e2 10, e2 11, e2 12]
    rcases (show f = 5 ∨ f = 6 ∨ f = 7 ∨ f = 8 ∨ f = 9 ∨ f = 10 ∨ f = 11 ∨ f = 12 by omega) with q | q | q | q | q | q | q | q <;> subst q <;> simp only [Nat.reduceEqDiff, if_false, if_true] <;> omega
  · by_cases q : c = 0 ∧ k = f
    · obtain ⟨rfl, rfl⟩ := q
      exact Or.inr ⟨rfl, hz⟩
    · rw [h_r_wr, if_neg q, (hs c hc).2.2.2]
      exact Or.inl rfl
  · show h_i h1 c k = _
    rw [(hs c hc).2.1]
  · show h_l h1 c k = _
    rw [(hs c hc).2.2.1]
/-- one made by its list alone -/
theorem gw_list {h : PH} {f ci : Nat} {L : List MkI} (hf5 : 5 ≤ f) (hf : f ≤ 12) (hz : h_r h 0 f = none) (h0 : 0 < h_ct h) (hn : lzn f = (1 + nA L, fN ci + nS L)) : Gw (fun _ _ => False) h (w_r (mkO (h_new h (0, ci) (fN ci)) (h_ct h) L) 0 f (some (h_ct h))) := by
  refine gw_made hf5 hf hz h0 ?_ ?_ (mkO_sc _ _ _) (fun c hc => (Same.new hc).tr (mkO_same (by omega) L _ (by show c < h_ct h + 1; omega)))
  · rw [mkO_ct, hn]
    show h_ct h + 1 + nA L = h_ct h + (1 + nA L)
    omega
  · rw [mkO_sl, hn]
    show h_sl h + fN ci + nS L = h_sl h + (fN ci + nS L)
    omega
theorem lz_sh {h : PH} {q : Nat × Nat} {n c : Nat} {L : List MkI} (hc : c < h_ct h) : h_sh (mkO (h_new h q n) (h_ct h) L) c = h_sh h c := ((Same.new hc).tr (mkO_same (by omega) L _ (by show c < h_ct h + 1; omega))).1
/-- readers -/
def ReS (h : PH) (c : Nat) : Prop := h_sh h c = some (0, 4) ∧ (h_r h c 0 = some (c + 1) ∧ h_sh h (c + 1) = some (2, 14)) ∧ (h_r h c 2 = some (c + 2) ∧ h_sh h (c + 2) = some (2, 14)) ∧ (h_r h c 4 = some (c + 3) ∧ h_sh h (c + 3) = some (3, 8)) ∧ 63 ≤ c ∧ c + 3 < h_ct h
theorem ReS.gw {W : Nat → Nat → Prop} {h h' : PH} {c : Nat} (hf : Gw W h h') (hr : ReS h c) : ReS h' c := by
  obtain ⟨a, ⟨b1, b2⟩, ⟨c1, c2⟩, ⟨d1, d2⟩, e, f⟩ := hr
  exact ⟨(hf.2.2.2.2.1 _ (by omega)).trans a, ⟨hf.rs (by omega) b1, (hf.2.2.2.2.1 _ (by omega)).trans b2⟩, ⟨hf.rs (by omega) c1, (hf.2.2.2.2.1 _ (by omega)).trans c2⟩, ⟨hf.rs (by omega) d1, (hf.2.2.2.2.1 _ (by omega)).trans d2⟩, e, by have := hf.2.1; omega⟩
theorem ow_theReader {d : Nat} {h : PH} {Q : PQ} (hO : OwS h) (hc : 63 ≤ h_ct h) (hz : ∀ c, h_r h 0 8 = some c → ReS h c) (k : ∀ c h', Gw (fun _ _ => False) h h' → h_r h' 0 8 = some c → ReS h' c → Q (some (.ref c)) h') : wpm (d + 2) 156 [.ref 0] h Q := by
  refine wpm_in P_Ow_theReader rfl (by decide) (by show ¬ 1 < 1; decide) ?_
  refine B_Ow_theReader_0 hO.1 (fun a ha => B_Ow_theReader_18 hO.1 ha (k a h (Fr.rf _ _).gw ha (hz a ha))) (fun hn => B_Ow_theReader_7 (i_Re_init (Nat.lt_succ_self _) (sh_new_eq _ _ _) ?_))
  have hG := gw_list (f := 8) (ci := 4) (L := L_Re_init) (by decide) (by decide) hn (by omega) rfl
  have a0 := mkO_arr [] 0 (2, 14) [(2, .inl (2, 14)), (4, .inl (3, 8))] (h_new h (0, 4) (fN 4)) (o := h_ct h) (Nat.lt_succ_self _) (by decide)
  have a1 := mkO_arr [(0, .inl (2, 14))] 2 (2, 14) [(4, .inl (3, 8))] (h_new h (0, 4) (fN 4)) (o := h_ct h) (Nat.lt_succ_self _) (by decide)
  have a2 := mkO_arr [(0, .inl (2, 14)), (2, .inl (2, 14))] 4 (3, 8) [] (h_new h (0, 4) (fN 4)) (o := h_ct h) (Nat.lt_succ_self _) (by decide)
  have hs : h_sh (mkO (h_new h (0, 4) (fN 4)) (h_ct h) L_Re_init) (h_ct h) = some (0, 4) := (sh_mkO (Nat.lt_succ_self _)).trans (sh_new_eq _ _ _)
  have hct : h_ct (mkO (h_new h (0, 4) (fN 4)) (h_ct h) L_Re_init) = h_ct h + 1 + 3 := mkO_ct _ _ _
  have wr : ∀ x k, x ≠ 0 → h_r (w_r (mkO (h_new h (0, 4) (fN 4)) (h_ct h) L_Re_init) 0 8 (some (h_ct h))) x k = h_r (mkO (h_new h (0, 4) (fN 4)) (h_ct h) L_Re_init) x k := fun x k hx => by rw [h_r_wr, if_neg (fun z => hx z.1)]
  have hs0 : h_sh (mkO (h_new h (0, 4) (fN 4)) (h_ct h) L_Re_init) 0 = some (0, 11) := (lz_sh (by omega)).trans hO.1
  refine B_Ow_theReader_15 hs0 (B_Ow_theReader_18 (show h_sh (w_r _ _ _ _) 0 = _ from hs0) (by rw [h_r_wr, if_pos ⟨rfl, rfl⟩]) (k _ _ hG (by rw [h_r_wr, if_pos ⟨rfl, rfl⟩]) ⟨hs, ⟨(wr _ _ (by omega)).trans a0.1, a0.2.1⟩, ⟨(wr _ _ (by omega)).trans a1.1, a1.2.1⟩, ⟨(wr _ _ (by omega)).trans a2.1, a2.2.1⟩, hc, ?_⟩))
  show _ < h_ct (mkO (h_new h (0, 4) (fN 4)) (h_ct h) L_Re_init)
  omega
