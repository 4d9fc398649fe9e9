/-! the class's cures: the search; cure -/
def Wsr (c x k : Nat) : Prop := Whe c x k ∨ x = c + 18
theorem all_mkc {gs : List (List Nat)} {m k : Nat} (h14 : gs.length ≤ 14) {P : Nat → Prop} (h : ∀ c', Inc (chL gs m).length k c' → P (mkc (chL gs m) c' k)) : ∀ s, sbs s (can gs m) → pop s 14 = k → P s := by
  intro s hs hp
  have ha := chL_asc (gs := gs) (m := m) h14
  obtain ⟨k', c', h1, h2⟩ := mkc_ex ha (fun j hj => chL_in.mp (hs j hj))
  have e := pop_mkc ha h1
  rw [h2, hp] at e
  subst e
  rw [← h2]
  exact h c' h1
theorem cu_search {d : Nat} {h : PH} {Q : PQ} {c k : Nat} {x : Int32} {gs : List (List Nat)} {m : Nat} {Ls : List (Nat × Nat)} {hp : Bool} (hS : CuS h c) (hG : GrS h 2) (hg : CGr h 2 gs m) (hn : CNm h c gs m) (hl : CLr h c Ls hp) (hL : Lrn x gs m Ls hp) (hk : k ≤ (chL gs m).length) (kt : ∀ s, sbs s (can gs m) → pop s 14 = k → Hls x gs m s → (∀ s', sbs s' (can gs m) → pop s' 14 = k → Hls x gs m s' → ck s ≤ ck s') → ∀ Ls' hp' h', CLr h' c Ls' hp' → Lrn x gs m Ls' hp' → Fr (Wsr c) h h' → Q (some (.int (nI s))) h') (kf : (∀ s', sbs s' (can gs m) → pop s' 14 = k → ¬ Hls x gs m s') → ∀ Ls' hp' h', CLr h' c Ls' hp' → Lrn x gs m Ls' hp' → Fr (Wsr c) h h' → Q (some (.int (-1))) h') : wpm (d + 7) 28 [.ref c, .ref 2, .int x, .int (nI k)] h Q := by
  refine wpm_in P_Cu_searchOfSize rfl (by decide) (by show ¬ 7 < 4; decide) (B_Cu_searchOfSize_0 ?_)
  have h14 := hg.1.1
  have hc63 : 63 ≤ c := hS.2.2.2.2.2.2.2.2.2.1
  have nl : (chL gs m).length ≤ gs.length := chN_len gs.length
  have ha := chL_asc (gs := gs) (m := m) h14
  have hgf : ∀ {g : PH}, Fr (Wsr c) h g → CGr g 2 gs m := fun hf => CGr.fr hf (fun x k z y => by unfold Wsr Whe at z; omega) hg
  have hnf : ∀ {g : PH}, Fr (Wsr c) h g → CNm g c gs m := fun hf => hn.fr hf (fun x k z y => by unfold Wsr Whe at z; unfold Wcf at y; omega)
  have loop : ∀ (e i : Nat) (g : PH) (Ls : List (Nat × Nat)) (hp : Bool) (cs : Nat → Nat) (v6 : Value), rv 14 (mkc (chL gs m) cs k) ≤ e → i + e < 2 ^ 14 → Fr (Wsr c) h g → CLr g c Ls hp → Lrn x gs m Ls hp → Inc (chL gs m).length k cs → (∀ c', Inc (chL gs m).length k c' → LX k c' cs → ¬ Hls x gs m (mkc (chL gs m) c' k)) → (∀ i, i < k → h_i g (c + 18) i = nI (cs i)) → wpx (d + 6) P_Cu_searchOfSize 30 [.ref c, .ref 2, .int x, .int (nI k), .int 1, .int (nI i), v6] [] g Q := by
    intro e
    induction e using Nat.strongRecOn with
    | ind e ih =>
      intro i g Ls hp cs v6 he hie hf hl hL hi hx hr
      have hSg := hS.fr hf
      have hGg := hf.gr hG
      have sb := mkc_sub hi
      have sl := mkc_lt ha hi
      have sp := pop_mkc ha hi
      -- on to the next
      have next : ¬ Hls x gs m (mkc (chL gs m) cs k) → ∀ (g1 : PH) (Ls1 : List (Nat × Nat)) (hp1 : Bool) (w6 : Int32), Fr (Wsr c) h g1 → CLr g1 c Ls1 hp1 → Lrn x gs m Ls1 hp1 → (∀ i, i < k → h_i g1 (c + 18) i = nI (cs i)) → wpx (d + 6) P_Cu_searchOfSize 80 [.ref c, .ref 2, .int x, .int (nI k), .int 1, .int (nI i), .int w6] [] g1 Q := by
        intro hno g1 Ls1 hp1 w6 hf1 hl1 hL1 hr1
        have hS1 := hS.fr hf1
        refine B_Cu_searchOfSize_80 hS1.1 ?_
        refine cu_next hS1 (n := (chL gs m).length) (by omega) (hnf hf1).1 hi hr1 (fun hm => ?_) (fun j j1 j2 j3 g2 hr2 f2 => ?_)
        · refine B_Cu_searchOfSize_85 ?_
          have fin : wpx (d + 6) P_Cu_searchOfSize 93 [.ref c, .ref 2, .int x, .int (nI k), .int 0, .int (nI i + 1), .int w6] [] g1 Q := B_Cu_searchOfSize_93 (kf (all_mkc h14 (P := fun s => ¬ Hls x gs m s) (fun c' hc' => by
            rcases lx_last hm hc' with w | w
            · rw [mkc_agr w]
              exact hno
            · exact hx c' hc' w)) Ls1 hp1 g1 hl1 hL1 hf1)
          exact B_Cu_searchOfSize_30 (fun _ => fin) (fun _ => B_Cu_searchOfSize_38 (fun _ => fin) (fun z => absurd rfl z))
        · refine B_Cu_searchOfSize_85 ?_
          rw [nI_1]
          have hi' := Inc_nxc hi j1 j2
          have lt := rv_mkc ha hi hi' (lx_nxc j1)
          refine ih (rv 14 (mkc (chL gs m) (nxc cs j) k)) (by omega) (i + 1) g2 Ls1 hp1 (nxc cs j) _ (Nat.le_refl _) (by omega) (hf1.tr (f2.up (fun x k z => Or.inr z))) (hl1.fr f2 (fun x k z y => by omega)) hL1 hi' (fun c' hc' hlx => ?_) hr2
          rcases lx_next j1 j3 hc' hk hlx with w | w
          · rw [mkc_agr w]
            exact hno
          · exact hx c' hc' w
      refine B_Cu_searchOfSize_30 (fun q => ?_) (fun _ => B_Cu_searchOfSize_38 (fun z => absurd z (by decide)) (fun _ => B_Cu_searchOfSize_43 hSg.1 (fun z => ?_) (fun _ => B_Cu_searchOfSize_50 hSg.1 ?_)))
      · rw [show (16384 : Int32) = nI 16384 from rfl, nI_leI (by omega) (by omega)] at q
        omega
      · have hpt : hp = true := by
          cases hp with
          | true => rfl
          | false =>
            rw [hl.2.2.2] at z
            exact absurd rfl z
        exact B_Cu_searchOfSize_93 (kf (fun s' h1 _ => hL.2 hpt s' h1) Ls hp g hl hL hf)
      · refine cu_mask hSg h14 (hnf hf) hi hr (B_Cu_searchOfSize_55 hSg.1 ?_)
        refine cu_refuted hSg hl sl (fun p hpp hq => ?_) ?_
        · exact B_Cu_searchOfSize_63 (fun _ => next (hL.1 p hpp _ sb hq) g Ls hp _ hf hl hL hr) (fun z => absurd z (by decide))
        · refine B_Cu_searchOfSize_63 (fun z => absurd rfl z) (fun _ => B_Cu_searchOfSize_66 hSg.1 ?_)
          refine cu_heals hSg hGg (hgf hf) (hnf hf) hl hL sb (fun hh g2 l2 f2 => ?_) (fun hh Ls2 hp2 g2 l2 L2 f2 => ?_)
          · refine B_Cu_searchOfSize_74 (fun z => absurd z (by decide)) (fun _ => B_Cu_searchOfSize_77 (kt _ sb sp hh ?_ Ls hp g2 l2 hL (hf.tr (f2.up (fun x k z => Or.inl z)))))
            refine all_mkc h14 (P := fun s' => Hls x gs m s' → ck (mkc (chL gs m) cs k) ≤ ck s') (fun c' hc' hh' => ?_)
            rcases lx_tot c' cs k with w | w | w
            · rw [mkc_agr w]
              exact Nat.le_refl _
            · exact absurd hh' (hx c' hc' w)
            · exact Nat.le_of_lt (ck_lt.mpr (Or.inr ⟨by rw [sp, pop_mkc ha hc'], rv_mkc ha hi hc' w⟩))
          · refine B_Cu_searchOfSize_74 (fun _ => next hh g2 Ls2 hp2 _ (hf.tr (f2.up (fun x k z => Or.inl z))) l2 L2 (fun i hik => ?_)) (fun z => absurd rfl z)
            rw [f2.i _ _ (fun z => by unfold Whe at z; omega)]
            exact hr i hik
  have init : ∀ (e i : Nat) (g : PH) (v5 v6 : Value), k - i = e → i ≤ k → Fr (fun x _ => x = c + 18) h g → (∀ t, t < i → h_i g (c + 18) t = nI t) → wpx (d + 6) P_Cu_searchOfSize 3 [.ref c, .ref 2, .int x, .int (nI k), .int (nI i), v5, v6] [] g Q := by
    intro e
    induction e with
    | zero =>
      intro i g v5 v6 he hik hf hr
      have ei : i = k := by omega
      subst ei
      refine B_Cu_searchOfSize_3 (fun _ => B_Cu_searchOfSize_24 ?_) (fun q => absurd (nI_le (by omega) (by omega)) q)
      have lt := rv_lt 14 (mkc (chL gs m) (fun t => t) i)
      exact loop (2 ^ 14 - 1) 0 g Ls hp (fun t => t) v6 (by omega) (by omega) (hf.up (fun x k z => Or.inr z)) (hl.fr hf (fun x k z y => by omega)) hL ⟨fun j _ => Nat.lt_succ_self j, fun j hj => by show j < _; omega⟩ (fun c' hc' w => absurd w (lx_first (fun _ _ => rfl) hc')) hr
    | succ e ih =>
      intro i g v5 v6 he hik hf hr
      have hSg := hS.fr hf
      obtain ⟨f7, f7'⟩ := hSg.2.2.2.2.2.2.1
      refine B_Cu_searchOfSize_3 (fun q => ?_) (fun _ => B_Cu_searchOfSize_9 hSg.1 f7 f7' (vp_in_nI (by omega) (by omega)) ?_)
      · rw [nI_leI (by omega) (by omega)] at q
        omega
      · rw [nI_clamp (by omega), nI_1]
        refine ih (i + 1) _ v5 v6 (by omega) (by omega) (hf.tr (Fr.wi _ _ rfl)) (fun t ht => ?_)
        by_cases y : t = i
        · rw [y, wi_eq]
        · rw [wi_ne _ _ (by omega)]
          exact hr t (by omega)
  exact init _ 0 h _ _ rfl (Nat.zero_le _) (Fr.rf _ _) (fun t ht => absurd ht (by omega))
def CAn (h : PH) (c : Nat) (gs : List (List Nat)) (m : Nat) : Prop := ∀ w, w < 3 → (h_i h (c + 16) w = h_i h 2 6 → ∃ o, IsCu (nI w) gs m o ∧ h_i h (c + 15) w = oN o) ∧ ∀ t, h_i h 2 6 = nI t → SB (h_i h (c + 16) w) t
def CCu (h : PH) (gs : List (List Nat)) (m : Nat) : Prop := ∀ c, h_r h 0 12 = some c → CuS h c ∧ CAn h c gs m
theorem oN_some {s : Nat} (h : s < 2 ^ 31) : ¬ nI s = (-1 : Int32) := nI_neg1 h
theorem pop_can {gs : List (List Nat)} {m s : Nat} (h14 : gs.length ≤ 14) (hs : sbs s (can gs m)) : pop s 14 ≤ (chL gs m).length := by
  have ha := chL_asc (gs := gs) (m := m) h14
  obtain ⟨k', c', h1, h2⟩ := mkc_ex ha (fun j hj => chL_in.mp (hs j hj))
  have e := pop_mkc ha h1
  rw [h2] at e
  rw [e]
  exact h1.len
theorem cu_fewest {d : Nat} {h : PH} {Q : PQ} {c w : Nat} {gs : List (List Nat)} {m : Nat} (hS : CuS h c) (hG : GrS h 2) (hg : CGr h 2 gs m) (hw : w < 3) (hA : CAn h c gs m) (k : ∀ o, IsCu (nI w) gs m o → ∀ h', CAn h' c gs m → Fr (fun x _ => c ≤ x ∧ x ≤ c + 20) h h' → Q (some (.int (oN o))) h') : wpm (d + 8) 26 [.ref c, .ref 2, .int (nI w)] h Q := by
  refine wpm_in P_Cu_fewest rfl (by decide) (by show ¬ 5 < 3; decide) ?_
  have h14 := hg.1.1
  have hc63 : 63 ≤ c := hS.2.2.2.2.2.2.2.2.2.1
  have nl : (chL gs m).length ≤ gs.length := chN_len gs.length
  obtain ⟨f2, f2'⟩ := hS.2.2.2.1
  obtain ⟨f3, f3'⟩ := hS.2.2.2.2.1
  have vw : vp_in (nI w) 3 := vp_in_nI (by omega) (by omega)
  have p14 : 2 ^ gs.length ≤ 2 ^ 14 := Nat.pow_le_pow_right (by decide) h14
  -- the answer is kept
  have fin : ∀ (o : Option Nat) (g : PH) (x4 : Int32), IsCu (nI w) gs m o → Fr (fun x k => Wsr c x k ∨ Wcf c x k) h g → wpx (d + 7) P_Cu_fewest 87 [.ref c, .ref 2, .int (nI w), .int (oN o), .int x4] [] g Q := by
    intro o g x4 ho hf
    have hSg := hS.fr hf
    have hGg := hf.gr hG
    obtain ⟨g2, g2'⟩ := hSg.2.2.2.1
    obtain ⟨g3, g3'⟩ := hSg.2.2.2.2.1
    have e26 : h_i g 2 6 = h_i h 2 6 := hf.i _ _ (fun z => by unfold Wsr Whe Wcf at z; omega)
    have old : ∀ j, h_i g (c + 15) j = h_i h (c + 15) j ∧ h_i g (c + 16) j = h_i h (c + 16) j := fun j => ⟨hf.i _ _ (fun z => by unfold Wsr Whe Wcf at z; omega), hf.i _ _ (fun z => by unfold Wsr Whe Wcf at z; omega)⟩
    refine B_Cu_fewest_87 hSg.1 g2 g2' vw g3 hGg.1 g3' vw ?_
    rw [nI_clamp (by omega), wi_ne _ _ (by omega), e26]
    have e26' : h_i (w_i (w_i g (c + 15) w (oN o)) (c + 16) w (h_i h 2 6)) 2 6 = h_i h 2 6 := by rw [wi_ne _ _ (by omega), wi_ne _ _ (by omega), e26]
    refine k o ho _ (fun w' hw' => ⟨fun hst => ?_, fun t ht => ?_⟩) ((hf.up (fun x k z => by unfold Wsr Whe Wcf at z; omega)).tr ((Fr.wi _ _ ⟨by omega, by omega⟩).tr (Fr.wi _ _ ⟨by omega, by omega⟩)))
    by_cases y : w' = w
    · subst y
      refine ⟨o, ho, ?_⟩
      rw [wi_ne _ _ (by omega), wi_eq]
    · rw [wi_ne _ _ (by omega), wi_ne _ _ (by omega), wi_ne _ _ (by omega), wi_ne _ _ (by omega), e26, (old w').2] at hst
      obtain ⟨o', h1, h2⟩ := (hA w' hw').1 hst
      refine ⟨o', h1, ?_⟩
      rw [wi_ne _ _ (by omega), wi_ne _ _ (by omega), (old w').1]
      exact h2
    · rw [e26'] at ht
      by_cases y : w' = w
      · subst y
        rw [wi_eq]
        exact Or.inr ⟨t, Nat.le_refl _, ht⟩
      · rw [wi_ne _ _ (by omega), wi_ne _ _ (by omega), (old w').2]
        exact (hA w' hw').2 t ht
  have iscu : ∀ (b : Nat), sbs b (can gs m) → Hls (nI w) gs m b → (∀ s', sbs s' (can gs m) → pop s' 14 = pop b 14 → Hls (nI w) gs m s' → ck b ≤ ck s') → (∀ s', sbs s' (can gs m) → pop s' 14 < pop b 14 → ¬ Hls (nI w) gs m s') → IsCu (nI w) gs m (some b) := by
    intro b b1 b2 b3 b4
    refine ⟨(can_sub b1).2, ⟨b1, b2⟩, fun s' _ hs' => ?_⟩
    rcases Nat.lt_trichotomy (pop s' 14) (pop b 14) with y | y | y
    · exact absurd hs'.2 (b4 s' hs'.1 y)
    · exact b3 s' hs'.1 y hs'.2
    · exact Nat.le_of_lt (ck_lt.mpr (Or.inl y))
  have loop : ∀ (e j : Nat) (g : PH) (Ls : List (Nat × Nat)) (hp : Bool), (chL gs m).length + 1 - j = e → j ≤ (chL gs m).length + 1 → Fr (fun x k => Wsr c x k ∨ Wcf c x k) h g → CNm g c gs m → CLr g c Ls hp → Lrn (nI w) gs m Ls hp → (∀ s', sbs s' (can gs m) → pop s' 14 < j → ¬ Hls (nI w) gs m s') → wpx (d + 7) P_Cu_fewest 51 [.ref c, .ref 2, .int (nI w), .int (-1), .int (nI j)] [] g Q := by
    intro e
    induction e with
    | zero =>
      intro j g Ls hp he hj hf hn hl hL hx
      have hSg := hS.fr hf
      refine B_Cu_fewest_51 hSg.1 (fun _ => fin none g _ (fun s' _ hs' => ?_) hf) (fun q => ?_)
      · have := pop_can h14 hs'.1
        exact hx s' hs'.1 (by omega) hs'.2
      · rw [hn.1, nI_ltI (by omega) (by omega)] at q
        omega
    | succ e ih =>
      intro j g Ls hp he hj hf hn hl hL hx
      have hSg := hS.fr hf
      have hGg := hf.gr hG
      have hgg := CGr.fr hf (fun x k z y => by unfold Wsr Whe Wcf at z; omega) hg
      refine B_Cu_fewest_51 hSg.1 (fun q => ?_) (fun _ => B_Cu_fewest_60 (fun z => absurd rfl z) (fun _ => B_Cu_fewest_65 hSg.1 (fun z => ?_) (fun _ => B_Cu_fewest_72 hSg.1 ?_)))
      · rw [hn.1, nI_ltI (by omega) (by omega)] at q
        omega
      · have hpt : hp = true := by
          cases hp with
          | true => rfl
          | false =>
            rw [hl.2.2.2] at z
            exact absurd rfl z
        exact fin none g _ (fun s' _ hs' => hL.2 hpt s' hs'.1 hs'.2) hf
      · refine cu_search hSg hGg hgg hn hl hL (by omega) (fun b b1 b2 b3 b4 Ls2 hp2 g2 l2 L2 f2 => ?_) (fun hno Ls2 hp2 g2 l2 L2 f2 => ?_)
        · have F := hf.tr (f2.up (fun x k z => Or.inl z))
          have b14 := (can_sub b1).2
          have hI := iscu b b1 b3 (by rw [b2]; exact b4) (by rw [b2]; exact hx)
          refine B_Cu_fewest_80 (B_Cu_fewest_51 (hS.fr F).1 (fun _ => fin (some b) g2 _ hI F) (fun _ => B_Cu_fewest_60 (fun _ => fin (some b) g2 _ hI F) (fun z => absurd z (oN_some (by omega)))))
        · refine B_Cu_fewest_80 ?_
          rw [nI_1]
          refine ih (j + 1) g2 Ls2 hp2 (by omega) (by omega) (hf.tr (f2.up (fun x k z => Or.inl z))) (hn.fr f2 (fun x k z y => by unfold Wsr Whe at z; unfold Wcf at y; omega)) l2 L2 (fun s' h1 h2 => ?_)
          by_cases y : pop s' 14 = j
          · exact hno s' h1 y
          · exact hx s' h1 (by omega)
  refine B_Cu_fewest_0 (fun z => absurd z (nI_lt0 (by omega))) (fun _ => B_Cu_fewest_4 (fun _ => ?_) (fun z => absurd ((nI_ltI (b := 3) (by omega) (by omega)).mpr hw) z))
  refine B_Cu_fewest_11 hS.1 f3 f3' vw hG.1 (fun _ => B_Cu_fewest_31 hS.1 ?_) (fun z => B_Cu_fewest_24 hS.1 f2 f2' vw ?_)
  · have F0 : Fr (Whe c) h (w_i (w_i h c 10 0) c 11 0) := (Fr.wi _ _ (Or.inr (Or.inr (Or.inr ⟨rfl, Or.inl rfl⟩)))).tr (Fr.wi _ _ (Or.inr (Or.inr (Or.inr ⟨rfl, Or.inr rfl⟩))))
    have l0 : CLr (w_i (w_i h c 10 0) c 11 0) c [] false := ⟨by rw [wi_ne _ _ (by omega), wi_eq]; rfl, Nat.zero_le _, fun j p hj => (by cases hj), wi_eq ..⟩
    generalize w_i (w_i h c 10 0) c 11 0 = g at F0 l0 ⊢
    have hgg := CGr.fr F0 (fun x k z y => by unfold Whe at z; omega) hg
    refine cu_find (hS.fr F0) (F0.gr hG) hgg (fun g1 n1 f1 => B_Cu_fewest_46 ?_)
    exact loop _ 0 g1 [] false rfl (Nat.zero_le _) ((F0.up (fun x k z => Or.inl (Or.inl z))).tr (f1.up (fun x k z => Or.inr z))) n1 (l0.fr f1 (fun x k z y => by unfold Wcf at z; omega)) ⟨fun p hp => (by cases hp), fun z => (by cases z)⟩ (fun s' _ h2 => absurd h2 (by omega))
  · rw [nI_clamp (by omega)] at z ⊢
    obtain ⟨o, h1, h2⟩ := (hA w hw).1 z
    rw [h2]
    exact k o h1 h hA (Fr.rf _ _)
theorem ow_cures {d : Nat} {h : PH} {Q : PQ} {gs : List (List Nat)} {m t : Nat} (hO : OwS h) (hc : 63 ≤ h_ct h) (hz : CCu h gs m) (ht : t < 2 ^ 31) (hst : h_i h 2 6 = nI t) (k : ∀ c h', Gw (fun _ _ => False) h h' → h_r h' 0 12 = some c → CuS h' c → CAn h' c gs m → (h_r h 0 12 = none → h_ct h ≤ c) → Q (some (.ref c)) h') : wpm (d + 3) 157 [.ref 0] h Q := by
  refine ow_theCures hO hc (fun c hr => (hz c hr).1) (fun c g hG hr hS ho hn => k c g hG hr hS (fun w hw => ⟨fun e => ?_, fun t' ht' => ?_⟩) hn)
  · have e26 : h_i g 2 6 = h_i h 2 6 := hG.i (by omega) (fun z => z)
    rcases ho with ho | ⟨ho, hs⟩
    · obtain ⟨s1, a1⟩ := hz c ho
      have ct := s1.2.2.2.2.2.2.2.2.2.2
      rw [hG.i (c := c + 16) (by omega) (fun z => z), e26] at e
      obtain ⟨o, h1, h2⟩ := (a1 w hw).1 e
      exact ⟨o, h1, by rw [hG.i (c := c + 15) (by omega) (fun z => z)]; exact h2⟩
    · rw [hs w hw, e26, hst] at e
      exact absurd e.symm (nI_neg1 ht)
  · rcases ho with ho | ⟨ho, hs⟩
    · obtain ⟨s1, a1⟩ := hz c ho
      have ct := s1.2.2.2.2.2.2.2.2.2.2
      rw [hG.i (c := c + 16) (by omega) (fun z => z)]
      exact (a1 w hw).2 t' (by rw [← ht']; exact (hG.i (by omega) (fun z => z)).symm)
    · exact Or.inl (hs w hw)
theorem CCu.of {h : PH} {c : Nat} {gs : List (List Nat)} {m : Nat} (hr : h_r h 0 12 = some c) (hS : CuS h c) (hA : CAn h c gs m) : CCu h gs m := fun c' hr' => by
  rw [hr] at hr'
  cases hr'
  exact ⟨hS, hA⟩
theorem ow_cure {d : Nat} {h : PH} {Q : PQ} {x : Int32} {gs : List (List Nat)} {m t : Nat} (hO : OwS h) (hc : 63 ≤ h_ct h) (hz : CCu h gs m) (hg : CGr h 2 gs m) (ht : t < 2 ^ 31) (hst : h_i h 2 6 = nI t) (kb : x < 0 ∨ 2 < x → ∀ h', Gw (Wlz 12 20 h) h h' → CCu h' gs m → Q (some (.int (-1))) h') (k : ¬ (x < 0 ∨ 2 < x) → ∀ o, IsCu x gs m o → ∀ h', Gw (Wlz 12 20 h) h h' → CCu h' gs m → Q (some (.int (oN o))) h') : wpm (d + 9) 148 [.ref 0, .int x] h Q := by
  refine wpm_in P_Ow_cure rfl (by decide) (by show ¬ 2 < 2; decide) (B_Ow_cure_0 hO.1 ?_)
  refine ow_cures hO hc hz ht hst (fun c g hG hr hS hA hn => ?_)
  have hO1 := hG.ow hc hO
  have hg1 : CGr g 2 gs m := hg.gw hG (by omega) (fun _ _ z => z.elim)
  have fin : ∀ {h' : PH}, Fr (fun x _ => c ≤ x ∧ x ≤ c + 20) g h' → Gw (Wlz 12 20 h) h h' := fun {h'} hf => (Gw.lz2 (W := fun _ _ => False) hc hG (hf.gw.up (fun x k z => Or.inl z)) (fun _ _ z => z.elim) hr hn).up (fun x k z => z.elim id False.elim)
  refine B_Ow_cure_4 hO1.1 (or_groups hO1) hS.1 ?_
  by_cases hb : x < 0 ∨ 2 < x
  · refine wpm_in P_Cu_fewest rfl (by decide) (by show ¬ 5 < 3; decide) ?_
    have done : ∀ v3 v4 : Value, wpx (d + 7) P_Cu_fewest 9 [.ref c, .ref 2, .int x, v3, v4] [] g (fun r h' => wpx (d + 8) P_Ow_cure 12 [.ref 0, .int x] (r.toList ++ []) h' Q) := fun v3 v4 => B_Cu_fewest_9 (B_Ow_cure_12 (kb hb g (fin (Fr.rf _ _)) (CCu.of hr hS hA)))
    refine B_Cu_fewest_0 (fun _ => done _ _) (fun z => B_Cu_fewest_4 (fun z' => ?_) (fun _ => done _ _))
    exfalso
    rcases hb with y | y
    · exact z y
    · rw [Int32.lt_iff_toInt_lt] at y z'
      have e2 : (2 : Int32).toInt = 2 := by decide
      have e3 : (3 : Int32).toInt = 3 := by decide
      omega
  · have hx : ∃ w, w < 3 ∧ x = nI w := by
      rcases way3 x with y | y | y | y
      · exact absurd y hb
      · exact ⟨0, by omega, y⟩
      · exact ⟨1, by omega, y⟩
      · exact ⟨2, by omega, y⟩
    obtain ⟨w, hw, e⟩ := hx
    subst e
    refine cu_fewest hS (GrS_2 hO1) hg1 hw hA (fun o ho h' hA' hf => B_Ow_cure_12 (k hb o ho h' (fin hf) (CCu.of (by rw [hf.2.1]; exact hr) (hS.fr hf) hA')))
