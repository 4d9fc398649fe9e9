/-! spell on the class's side, closed; readings are at most 2 to the letters where groups are unlike -/
theorem sm_one {P : Nat → Bool} {v : Nat} : ∀ n, (∀ i j, i < n → j < n → P i = true → P j = true → i = j) → sm (fun k => if P k = true then v else 0) n ≤ v
  | 0, _ => Nat.zero_le _
  | n + 1, h => by
    show sm (fun k => if P k = true then v else 0) n + (if P n = true then v else 0) ≤ v
    by_cases q : P n = true
    · rw [sm_congr (g := fun _ => 0) n (fun k hk => if_neg (fun z => by
        have := h k n (by omega) (by omega) z q
        omega)), sm_zero, if_pos q]
      omega
    · rw [if_neg q]
      exact sm_one n (fun i j hi hj => h i j (by omega) (by omega))
theorem sm_mono {f g : Nat → Nat} : ∀ n, (∀ k, k < n → f k ≤ g k) → sm f n ≤ sm g n
  | 0, _ => Nat.le_refl _
  | n + 1, h => Nat.add_le_add (sm_mono n (fun k hk => h k (by omega))) (h n (by omega))
theorem sm_pick {l v : Nat} : ∀ n, l < n → sm (fun i => if i = l then v else 0) n = v
  | 0, h => by omega
  | n + 1, h => by
    show sm (fun i => if i = l then v else 0) n + (if n = l then v else 0) = v
    by_cases q : n = l
    · rw [if_pos q, sm_congr (g := fun _ => 0) n (fun k hk => if_neg (by omega)), sm_zero, Nat.zero_add]
    · rw [if_neg q, sm_pick n (by omega), Nat.add_zero]
theorem sm_pow : ∀ n, sm (fun l => 2 ^ (n - 1 - l)) n ≤ 2 ^ n - 1
  | 0 => Nat.le_refl _
  | n + 1 => by
    have e : ∀ m, sm (fun l => 2 ^ (n - l)) (m + 1) = 2 ^ n + sm (fun l => 2 ^ (n - 1 - l)) m := by
      intro m
      induction m with
      | zero =>
        show 0 + 2 ^ (n - 0) = 2 ^ n + 0
        rw [Nat.sub_zero]
        omega
      | succ m ih =>
        show sm (fun l => 2 ^ (n - l)) (m + 1) + 2 ^ (n - (m + 1)) = 2 ^ n + (sm (fun l => 2 ^ (n - 1 - l)) m + 2 ^ (n - 1 - m))
        rw [ih, show n - (m + 1) = n - 1 - m by omega]
        omega
    have e1 := e n
    show sm (fun l => 2 ^ (n + 1 - 1 - l)) (n + 1) ≤ _
    rw [show n + 1 - 1 = n by omega, e1]
    have := sm_pow n
    have hp := Nat.two_pow_pos n
    rw [Nat.pow_succ]
    omega
def unlk (gs : List (List Nat)) : Prop := ∀ i j : Nat, i < gs.length → j < gs.length → gs.getD i [] = gs.getD j [] → i = j
theorem rdc_pow {gs : List (List Nat)} {m : Nat} (ho : okg gs m) (hu : unlk gs) : ∀ (n : Nat) (w : List Nat), w.length ≤ n → rdc gs m w ≤ 2 ^ w.length
  | n, [], _ => by
    rw [rdc_nil]
    exact Nat.le_refl _
  | 0, x :: w, h => by
    have : (x :: w).length = w.length + 1 := rfl
    omega
  | n + 1, x :: w0, h => by
    have hlen : (x :: w0).length = w0.length + 1 := rfl
    generalize x :: w0 = w at h hlen ⊢
    rw [rdc_first ho (by omega)]
    have l0 := gl0 ho
    have h1 : sm (fun k => if preB gs m w k = true then rdc gs m (w.drop (gs.getD k []).length) else 0) gs.length ≤ sm (fun k => sm (fun l => if preB gs m w k = true ∧ (gs.getD k []).length = l + 1 then 2 ^ (w.length - 1 - l) else 0) w.length) gs.length := by
      refine sm_mono _ (fun k hk => ?_)
      have hk0 := l0 k hk
      by_cases q : preB gs m w k = true
      · have hkl := (preB_i.mp q).2.1
        rw [if_pos q]
        have e : sm (fun l => if preB gs m w k = true ∧ (gs.getD k []).length = l + 1 then 2 ^ (w.length - 1 - l) else 0) w.length = sm (fun l => if l = (gs.getD k []).length - 1 then 2 ^ (w.length - (gs.getD k []).length) else 0) w.length := by
          refine sm_congr _ (fun l hl => ?_)
          by_cases z : l = (gs.getD k []).length - 1
          · rw [if_pos z, if_pos ⟨q, by omega⟩]
            congr 1
            omega
          · rw [if_neg z, if_neg (fun u => z (by have := u.2; omega))]
        rw [e, sm_pick _ (by omega)]
        have := rdc_pow ho hu n (w.drop (gs.getD k []).length) (by rw [List.length_drop]; omega)
        rw [List.length_drop] at this
        exact this
      · rw [if_neg q]
        exact Nat.zero_le _
    rw [sm_swap] at h1
    refine Nat.le_trans h1 (Nat.le_trans (sm_mono (g := fun l => 2 ^ (w.length - 1 - l)) _ (fun l hl => ?_)) (Nat.le_trans (sm_pow _) (Nat.sub_le _ _)))
    have e : sm (fun k => if preB gs m w k = true ∧ (gs.getD k []).length = l + 1 then 2 ^ (w.length - 1 - l) else 0) gs.length = sm (fun k => if (preB gs m w k && decide ((gs.getD k []).length = l + 1)) = true then 2 ^ (w.length - 1 - l) else 0) gs.length := by
      refine sm_congr _ (fun k hk => ?_)
      by_cases z : preB gs m w k = true ∧ (gs.getD k []).length = l + 1
      · rw [if_pos z, if_pos (by rw [Bool.and_eq_true, decide_eq_true_iff]; exact z)]
      · rw [if_neg z, if_neg (by rw [Bool.and_eq_true, decide_eq_true_iff]; exact z)]
    rw [e]
    refine sm_one _ (fun i j hi hj zi zj => hu i j hi hj ?_)
    rw [Bool.and_eq_true, decide_eq_true_iff] at zi zj
    rw [(preB_i.mp zi.1).2.2, (preB_i.mp zj.1).2.2, zi.2, zj.2]
def Wlz (f n : Nat) (h : PH) (x k : Nat) : Prop := ∃ c, h_r h 0 f = some c ∧ c ≤ x ∧ x ≤ c + n
theorem Gw.lz {h g h1 : PH} {f n c : Nat} {W : Nat → Nat → Prop} (a : Gw (fun _ _ => False) h g) (b : Gw (fun x k => (c ≤ x ∧ x ≤ c + n) ∨ W x k) g h1) (e1 : ∀ c', h_r h 0 f = some c' → c' = c) (e2 : h_r h 0 f = none → c = h_ct h) : Gw (fun x k => Wlz f n h x k ∨ W x k) h h1 := by
  obtain ⟨a1, a2, a3, a4, a5, a6, a7⟩ := a
  obtain ⟨b1, b2, b3, b4, b5, b6, b7⟩ := b
  refine ⟨b1.trans a1, by omega, by omega, by omega, fun c hc => (b5 c (by omega)).trans (a5 c hc), fun c k hc => ?_, fun x k hx hw => ?_⟩
  · rcases a6 c k hc with p | p
    · rcases b6 c k (by omega) with q | q
      · exact Or.inl (q.trans p)
      · exact Or.inr ⟨q.1, p ▸ q.2⟩
    · exact Or.inr p
  · have y := b7 x k (by omega) (fun z => by
      rcases z with z | z
      · cases hr : h_r h 0 f with
        | none =>
          have := e2 hr
          omega
        | some c' =>
          have := e1 c' hr
          exact hw (Or.inl ⟨c', hr, by omega, by omega⟩)
      · exact hw (Or.inr z))
    have z := a7 x k hx (fun u => u)
    exact ⟨y.1.trans z.1, y.2.trans z.2⟩
theorem ow_spell {d : Nat} {h : PH} {Q : PQ} {gs : List (List Nat)} {m S : Nat} {so : Nat → Int32} {x0 x1 x2 x3 : Int32} (hO : OwS h) (hc : 63 ≤ h_ct h) (hz : ∀ c, h_r h 0 9 = some c → SpS h c) (hg : CGr h 2 gs m) (hso : CSo h 2 gs.length so) (hs : h_i h 2 4 = nI S) (k1 : spV gs m so (nI S) [x0, x1, x2, x3] = none → ∀ h', Gw (fun x k => Wlz 9 5 h x k ∨ Wcd x k) h h' → (∀ x k, Wcd x k → h_i h' x k = h_i h x k) → (∀ c, h_r h' 0 9 = some c → SpS h' c) → Q (some (.int (-1))) h') (k2 : ∀ v, spV gs m so (nI S) [x0, x1, x2, x3] = some v → (catG gs v).length ≤ 28 → ∀ h', CWd h' (catG gs v) → Gw (fun x k => Wlz 9 5 h x k ∨ Wcd x k) h h' → (∀ c, h_r h' 0 9 = some c → SpS h' c) → Q (some (.int (nI (catG gs v).length))) h') : wpm (d + 11) 141 [.ref 0, .int x0, .int x1, .int x2, .int x3] h Q := by
  refine wpm_in P_Ow_spell rfl (by decide) (by show ¬ 5 < 5; decide) ?_
  refine ow_theSpeller (d := d + 8) hO hc hz (fun c g hG hr hS e1 e2 => ?_)
  have hO1 := hG.ow hc hO
  have hg1 : CGr g 2 gs m := hg.gw hG (by omega) (fun _ _ z => z.elim)
  have hso1 : CSo g 2 gs.length so := fun k hk => (hG.i (by omega) (fun z => z)).trans (hso k hk)
  have hs1 : h_i g 2 4 = nI S := (hG.i (by omega) (fun z => z)).trans hs
  have hc63 : 63 ≤ c := hS.2.2.2.2.2.2.1
  have fin : ∀ {W : Nat → Nat → Prop} {h' : PH}, Fr W g h' → (∀ x k, W x k → (c ≤ x ∧ x ≤ c + 5) ∨ Wcd x k) → Gw (fun x k => Wlz 9 5 h x k ∨ Wcd x k) h h' ∧ ∀ c', h_r h' 0 9 = some c' → SpS h' c' := fun {W h'} hf hw => by
    refine ⟨hG.lz (hf.gw.up hw) (fun c' e => (e1 c' e).1) e2, fun c' hc' => ?_⟩
    have hr' := hf.gw.rs (by have := hG.2.1; omega) hr
    rw [hr'] at hc'
    exact Option.some.inj hc' ▸ hS.fr hf
  have old : ∀ {h' : PH}, Fr (Wsp c) g h' → ∀ x k, Wcd x k → h_i h' x k = h_i h x k := fun {h'} hf x k hx => by
    have hxx : x < 63 := by unfold Wcd at hx; omega
    rw [hf.i _ _ (fun z => by unfold Wsp at z; omega), hG.i (by omega) (fun z => z)]
  refine B_Ow_spell_18 hO1.1 hr (or_groups hO1) hS.1 (sp_ask (d := d + 9) hS hO1 hs1 (fun hn h' hf => ?_) (fun A hA hA4 hA0 h' hcn hen hf => ?_))
  · obtain ⟨f1, f2⟩ := fin hf (fun x k q => Or.inl q)
    refine B_Ow_spell_34 (fun _ => B_Ow_spell_51 (k1 ?_ h' f1 (old hf) f2)) (fun z => absurd rfl z)
    unfold spV
    rw [hn]
  · have hO2 := hf.ow hO1
    have hS2 := hS.fr hf
    have hg2 : CGr h' 2 gs m := hg1.fr hf (fun a k q => by unfold Wsp at q; omega)
    have hso2 : CSo h' 2 gs.length so := hso1.fr' hf (fun k q => by unfold Wsp at q; omega)
    have hr2 : h_r h' 0 9 = some c := hf.gw.rs (by have := hG.2.1; omega) hr
    have eV : spV gs m so (nI S) [x0, x1, x2, x3] = spF gs m so A [] none := by
      unfold spV
      rw [hA]
    refine B_Ow_spell_34 (fun z => absurd z (by decide)) (fun _ => B_Ow_spell_37 hO2.1 hr2 (or_groups hO2) hS2.1 (sp_search (d := d + 1) hA4 hA0 hS2 hO2 hg2 hso2 hcn hen (fun hn h2 hf2 => ?_) (fun v hv h2 hf2 hvl hv28 hcn2 hen2 => ?_)))
    · obtain ⟨f1, f2⟩ := fin (hf.tr hf2) (fun x k q => Or.inl q)
      exact B_Ow_spell_48 (fun z => absurd rfl z) (fun _ => B_Ow_spell_51 (k1 (eV.trans hn) h2 f1 (old (hf.tr hf2)) f2))
    · have hF := hf.tr hf2
      have hO3 := hF.ow hO1
      have hS3 := hS.fr hF
      have hg3 : CGr h2 2 gs m := hg1.fr hF (fun a k q => by unfold Wsp at q; omega)
      have hr3 : h_r h2 0 9 = some c := hF.gw.rs (by have := hG.2.1; omega) hr
      refine B_Ow_spell_48 (fun _ => B_Ow_spell_53 hO3.1 hr3 (or_groups hO3) (or_theWord hO3) hS3.1 (sp_copyTo (d := d + 7) (by omega) hS3 hO3 hg3 hv28 (by rw [hcn2, hvl]) hen2 (fun h3 hw3 hf3 => ?_))) (fun z => absurd z (by decide))
      have hF3 : Fr (fun x k => Wsp c x k ∨ Wcd x k) g h3 := (hF.up (fun x k q => Or.inl q)).tr (hf3.up (fun x k q => Or.inr q))
      obtain ⟨f1, f2⟩ := fin hF3 (fun x k q => q)
      have hO4 := hf3.ow hO3
      refine B_Ow_spell_68 hO4.1 (or_theWord hO4) (os_theWord hO4) ?_
      rw [hw3.2.1]
      exact k2 v (eV.trans hv) hv28 h3 hw3 f1 f2
