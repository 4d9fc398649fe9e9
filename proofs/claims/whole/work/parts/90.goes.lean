/-! goes on both sides -/
theorem ow_lower {d : Nat} {h : PH} {Q : PQ} {r n c : Nat} (hs : h_sh h r = some (3, n)) (hc : c ≤ n) (hn : n < 2 ^ 31) (k : ∀ h', (∀ i, i < c → h_i h' r i = 0) → (∀ i, c ≤ i → h_i h' r i = h_i h r i) → Fr (fun a _ => a = r) h h' → Q none h') : wpm (d + 1) 161 [.ref r, .int (nI c)] h Q := by
  refine wpm_in P_Ow_lower rfl (by decide) (by show ¬ 3 < 2; decide) (B_Ow_lower_0 ?_)
  have loop : ∀ (e j : Nat) (g : PH), c - j = e → j ≤ c → Fr (fun a _ => a = r) h g → (∀ i, i < j → h_i g r i = 0) → (∀ i, j ≤ i → h_i g r i = h_i h r i) → wpx d P_Ow_lower 2 [.ref r, .int (nI c), .int (nI j)] [] g Q := by
    intro e
    induction e with
    | zero =>
      intro j g he hj hf h1 h2
      have ej : j = c := by omega
      subst ej
      exact B_Ow_lower_2 (fun _ => B_Ow_lower_23 (k g h1 h2 hf)) (fun q => absurd ((nI_leI (by omega) (by omega)).mpr (Nat.le_refl _)) q)
    | succ e ih =>
      intro j g he hj hf h1 h2
      have hs' : h_sh g r = some (3, n) := by rw [hf.1]; exact hs
      refine B_Ow_lower_2 (fun q => ?_) (fun _ => B_Ow_lower_7 hs' (fun q => ?_) (fun _ => B_Ow_lower_13 hs' (vp_in_nI (by omega) hn) ?_))
      · rw [nI_leI (by omega) (by omega)] at q
        omega
      · have := (nI_leI (a := n) (b := j) (by omega) (by omega)).mp q
        omega
      · rw [nI_1, nI_clamp (by omega)]
        refine ih (j + 1) _ (by omega) (by omega) (hf.tr (Fr.wi _ _ rfl)) (fun i hi => ?_) (fun i hi => ?_)
        · by_cases e1 : i = j
          · subst e1
            rw [wi_eq]
            decide
          · rw [wi_ne _ _ (by omega)]
            exact h1 i (by omega)
        · rw [wi_ne _ _ (by omega)]
          exact h2 i (by omega)
  exact loop _ 0 h rfl (Nat.zero_le _) (Fr.rf _ _) (fun i hi => absurd hi (by omega)) (fun i _ => rfl)
def g1 (gs : List (List Nat)) (m : Nat) (w : List Nat) (p : Nat) (s : Nat × (Nat → Bool)) (k : Nat) : Nat × (Nat → Bool) := if inm m k then (max s.1 (p + cpl (gs.getD k []) (w.drop p)), if cpl (gs.getD k []) (w.drop p) = (gs.getD k []).length then (fun i => if i = p + (gs.getD k []).length then true else s.2 i) else s.2) else s
def gN (gs : List (List Nat)) (m : Nat) (w : List Nat) (p : Nat) (s : Nat × (Nat → Bool)) : Nat → Nat × (Nat → Bool)
  | 0 => s
  | k + 1 => g1 gs m w p (gN gs m w p s k) k
def gP (gs : List (List Nat)) (m : Nat) (w : List Nat) : Nat → Nat × (Nat → Bool)
  | 0 => (0, fun i => decide (i = 0))
  | p + 1 => if (gP gs m w p).2 p = true then gN gs m w p (gP gs m w p) gs.length else gP gs m w p
def goR (gs : List (List Nat)) (m : Nat) (w : List Nat) : Int32 := nI (gP gs m w w.length).1
theorem g1_le {gs : List (List Nat)} {m : Nat} {w : List Nat} {p k : Nat} {s : Nat × (Nat → Bool)} (hp : p ≤ w.length) (hs : s.1 ≤ w.length) : (g1 gs m w p s k).1 ≤ w.length := by
  unfold g1
  split
  · have := cpl_leR (gs.getD k []) (w.drop p)
    rw [List.length_drop] at this
    show max _ _ ≤ _
    omega
  · exact hs
theorem gN_le {gs : List (List Nat)} {m : Nat} {w : List Nat} {p : Nat} {s : Nat × (Nat → Bool)} (hp : p ≤ w.length) (hs : s.1 ≤ w.length) : ∀ k, (gN gs m w p s k).1 ≤ w.length
  | 0 => hs
  | k + 1 => g1_le hp (gN_le hp hs k)
theorem gP_le {gs : List (List Nat)} {m : Nat} {w : List Nat} : ∀ p, p ≤ w.length → (gP gs m w p).1 ≤ w.length
  | 0, _ => Nat.zero_le _
  | p + 1, hp => by
    unfold gP
    split
    · exact gN_le (by omega) (gP_le p (by omega)) _
    · exact gP_le p (by omega)
theorem g1_up {gs : List (List Nat)} {m : Nat} {w : List Nat} {p k i : Nat} {s : Nat × (Nat → Bool)} (hs : s.2 i = true) : (g1 gs m w p s k).2 i = true := by
  unfold g1
  split
  · show (if _ then _ else s.2 : Nat → Bool) i = true
    split
    · show (if _ then true else s.2 i) = true
      split
      · rfl
      · exact hs
    · exact hs
  · exact hs
theorem gN_up {gs : List (List Nat)} {m : Nat} {w : List Nat} {p i : Nat} {s : Nat × (Nat → Bool)} (hs : s.2 i = true) : ∀ k, (gN gs m w p s k).2 i = true
  | 0 => hs
  | k + 1 => g1_up (gN_up hs k)
/-- what is reached is not above the best -/
def gok (s : Nat × (Nat → Bool)) : Prop := ∀ i, s.2 i = true → i ≤ s.1
theorem g1_ok {gs : List (List Nat)} {m : Nat} {w : List Nat} {p k : Nat} {s : Nat × (Nat → Bool)} (hs : gok s) : gok (g1 gs m w p s k) := by
  intro i hi
  unfold g1 at hi ⊢
  by_cases q : inm m k
  · rw [if_pos q] at hi ⊢
    show i ≤ max s.1 (p + cpl (gs.getD k []) (w.drop p))
    have hi' : (if cpl (gs.getD k []) (w.drop p) = (gs.getD k []).length then (fun i => if i = p + (gs.getD k []).length then true else s.2 i) else s.2) i = true := hi
    by_cases q2 : cpl (gs.getD k []) (w.drop p) = (gs.getD k []).length
    · rw [if_pos q2] at hi'
      by_cases q3 : i = p + (gs.getD k []).length
      · omega
      · have hi2 : (if i = p + (gs.getD k []).length then true else s.2 i) = true := hi'
        rw [if_neg q3] at hi2
        have := hs i hi2
        omega
    · rw [if_neg q2] at hi'
      have := hs i hi'
      omega
  · rw [if_neg q] at hi ⊢
    exact hs i hi
theorem gN_ok {gs : List (List Nat)} {m : Nat} {w : List Nat} {p : Nat} {s : Nat × (Nat → Bool)} (hs : gok s) : ∀ k, gok (gN gs m w p s k)
  | 0 => hs
  | k + 1 => g1_ok (gN_ok hs k)
theorem gP_ok {gs : List (List Nat)} {m : Nat} {w : List Nat} : ∀ p, gok (gP gs m w p)
  | 0 => fun i hi => by
    have : i = 0 := of_decide_eq_true hi
    omega
  | p + 1 => by
    unfold gP
    split
    · exact gN_ok (gP_ok p) _
    · exact gP_ok p
def Rch (h : PH) (r n : Nat) (f : Nat → Bool) : Prop := ∀ i, i ≤ n → h_i h r i = if f i = true then 1 else 0
theorem b11 : ((1 : Int32) &&& 1) = 1 := by decide
theorem max_nI {a b : Nat} (ha : a < 2 ^ 31) (hb : b < 2 ^ 31) : (if nI a < nI b then nI b else nI a) = nI (max a b) := by
  by_cases q : a < b
  · rw [if_pos ((nI_ltI ha hb).mpr q)]
    congr 1
    omega
  · rw [if_neg (fun z => q ((nI_ltI ha hb).mp z))]
    congr 1
    omega
theorem wo_goes {d : Nat} {h : PH} {Q : PQ} {gs : List (List Nat)} {m : Nat} {w : List Nat} (hO : OwS h) (hw : CWd h w) (hg : CGr h 2 gs m) (k : ∀ h', Fr (fun c _ => c = 16) h h' → Q (some (.int (goR gs m w))) h') : wpm (d + 4) 116 [.ref 13, .ref 2] h Q := by
  refine wpm_in P_Wo_longestBeginning rfl (by decide) (by show ¬ 6 < 2; decide) ?_
  have h8 := hw.1.1
  have h14 := hg.1.1
  have outer : ∀ (c p : Nat) (g : PH) (v4 v5 : Value), w.length - p = c → p ≤ w.length → Fr (fun c _ => c = 16) h g → Rch g 16 w.length (gP gs m w p).2 → wpx (d + 3) P_Wo_longestBeginning 24 [.ref 13, .ref 2, .int (nI (gP gs m w p).1), .int (nI p), v4, v5] [] g Q := by
    intro c
    induction c with
    | zero =>
      intro p g v4 v5 hc hp hf hr
      have hO' := hf.ow hO
      have hw' : CWd g w := hw.fr hf (fun c k q => by omega)
      have ep : p = w.length := by omega
      refine B_Wo_longestBeginning_24 (os_theWord hO') (fun _ => B_Wo_longestBeginning_126 ?_) (fun q => ?_)
      · rw [ep]
        exact k g hf
      · rw [hw'.2.1, nI_leI (by omega) (by omega)] at q
        omega
    | succ c ih =>
      intro p g v4 v5 hc hp hf hr
      have hO' := hf.ow hO
      have hw' : CWd g w := hw.fr hf (fun c k q => by omega)
      have hg' : CGr g 2 gs m := hg.fr hf (fun c k q => by omega)
      refine B_Wo_longestBeginning_24 (os_theWord hO') (fun q => ?_) (fun _ => B_Wo_longestBeginning_32 ?_)
      · rw [hw'.2.1, nI_leI (by omega) (by omega)] at q
        omega
      · by_cases qr : (gP gs m w p).2 p = true
        · have inner : ∀ (e j : Nat) (g : PH) (v5 : Value), gs.length - j = e → j ≤ gs.length → Fr (fun c _ => c = 16) h g → Rch g 16 w.length (gN gs m w p (gP gs m w p) j).2 → wpx (d + 3) P_Wo_longestBeginning 35 [.ref 13, .ref 2, .int (nI (gN gs m w p (gP gs m w p) j).1), .int (nI p), .int (nI j), v5] [] g Q := by
            intro e
            induction e with
            | zero =>
              intro j g v5 he hj hf hr
              have hO' := hf.ow hO
              have hg' : CGr g 2 gs m := hg.fr hf (fun c k q => by omega)
              have hG := GrS_2 hO'
              have ej : j = gs.length := by omega
              refine B_Wo_longestBeginning_35 hG.1 (fun _ => B_Wo_longestBeginning_120 ?_) (fun q => ?_)
              · rw [nI_1]
                have e2 : gP gs m w (p + 1) = gN gs m w p (gP gs m w p) j := by
                  rw [ej]
                  show (if _ then _ else _) = _
                  rw [if_pos qr]
                rw [← e2] at hr ⊢
                exact ih (p + 1) g _ _ (by omega) (by omega) hf hr
              · rw [hg'.2.1, nI_leI (by omega) (by omega)] at q
                omega
            | succ e ihe =>
              intro j g v5 he hj hf hr
              have hO' := hf.ow hO
              have hw' : CWd g w := hw.fr hf (fun c k q => by omega)
              have hg' : CGr g 2 gs m := hg.fr hf (fun c k q => by omega)
              have hG := GrS_2 hO'
              have gj : gs[j]? = some gs[j] := List.getElem?_eq_getElem (by omega)
              generalize gs[j] = l at gj
              have el : gs.getD j [] = l := by rw [List.getD_eq_getElem?_getD, gj]; rfl
              obtain ⟨a1, a2, a3⟩ := hg.1.at gj
              have h7 := a1.2
              have va : vp_in (nI j) 14 := vp_in_nI a3 (by omega)
              have hcl := cpl_leR l (w.drop p)
              rw [List.length_drop] at hcl
              have hsl := gN_le (gs := gs) (m := m) (w := w) (p := p) (s := gP gs m w p) (by omega) (gP_le p (by omega)) j
              refine B_Wo_longestBeginning_35 hG.1 (fun q => ?_) (fun _ => ?_)
              · rw [hg'.2.1, nI_leI (by omega) (by omega)] at q
                omega
              · refine B_Wo_longestBeginning_44 (os_theWord hO') (or_w_reached hO') (os_w_reached hO') (vp_in_nI (by omega) (by omega)) (fun q => ?_) (fun _ => ?_)
                · rw [nI_clamp (by omega), hr p (by omega), if_pos (gN_up qr j)] at q
                  exact absurd q (by decide)
                · refine B_Wo_longestBeginning_53 hG.1 (gr_isIn hG hg' (by omega) (fun q => ?_) (fun q => ?_))
                  · refine B_Wo_longestBeginning_59 (fun z => absurd z (by decide)) (fun _ => ?_)
                    refine B_Wo_longestBeginning_62 hG.1 hG.2.1.1 hG.2.1.2 va hG.2.2.1.1 hG.2.2.1.2 va (os_theWord hO') ?_
                    rw [nI_clamp (by omega), (hg'.2.2.2 j l gj).1, (hg'.2.2.2 j l gj).2]
                    refine wo_standing hO' hw' a1 (by omega) ?_
                    have e1 : (gN gs m w p (gP gs m w p) (j + 1)).1 = max (gN gs m w p (gP gs m w p) j).1 (p + cpl l (w.drop p)) := by
                      show (g1 gs m w p _ j).1 = _
                      unfold g1
                      rw [if_pos q, el]
                    refine B_Wo_longestBeginning_81 hG.1 hG.2.2.1.1 hG.2.2.1.2 va (fun z => ?_) (fun z => ?_)
                    · rw [nI_clamp (by omega), (hg'.2.2.2 j l gj).2, nI_eq (by omega) (by omega)] at z
                      have e2 : (gN gs m w p (gP gs m w p) (j + 1)).2 = (gN gs m w p (gP gs m w p) j).2 := by
                        show (g1 gs m w p _ j).2 = _
                        unfold g1
                        rw [if_pos q, el]
                        show (if _ then _ else _) = _
                        rw [if_neg z]
                      refine B_Wo_longestBeginning_114 ?_
                      rw [nI_1, nI_add, max_nI (by omega) (by omega), ← e1]
                      refine ihe (j + 1) g _ (by omega) (by omega) hf ?_
                      rw [e2]
                      exact hr
                    · rw [nI_clamp (by omega), (hg'.2.2.2 j l gj).2, nI_eq (by omega) (by omega)] at z
                      have e2 : (gN gs m w p (gP gs m w p) (j + 1)).2 = fun i => if i = p + l.length then true else (gN gs m w p (gP gs m w p) j).2 i := by
                        show (g1 gs m w p _ j).2 = _
                        unfold g1
                        rw [if_pos q, el]
                        show (if _ then _ else _) = _
                        rw [if_pos z]
                      refine B_Wo_longestBeginning_104 (os_theWord hO') (or_w_reached hO') (os_w_reached hO') (by rw [nI_add]; exact vp_in_nI (by omega) (by omega)) (B_Wo_longestBeginning_114 ?_)
                      rw [nI_1, nI_add, max_nI (by omega) (by omega), ← e1, nI_clamp (by omega), b11]
                      refine ihe (j + 1) _ _ (by omega) (by omega) (hf.tr (Fr.wi _ _ rfl)) (fun i hi => ?_)
                      rw [e2]
                      by_cases e3 : i = p + l.length
                      · rw [e3, z, wi_eq, if_pos]
                        show (if _ then _ else _) = true
                        rw [if_pos rfl]
                      · rw [wi_ne _ _ (by omega), hr i hi]
                        show (if _ then _ else _) = (if (if _ then _ else _) = true then _ else _)
                        rw [if_neg e3]
                  · refine B_Wo_longestBeginning_59 (fun _ => B_Wo_longestBeginning_114 ?_) (fun z => absurd rfl z)
                    have e1 : gN gs m w p (gP gs m w p) (j + 1) = gN gs m w p (gP gs m w p) j := by
                      show g1 gs m w p _ j = _
                      unfold g1
                      rw [if_neg q]
                    rw [nI_1, ← e1]
                    refine ihe (j + 1) g _ (by omega) (by omega) hf ?_
                    rw [e1]
                    exact hr
          exact inner _ 0 g v5 rfl (Nat.zero_le _) hf hr
        · have e2 : gP gs m w (p + 1) = gP gs m w p := by
            show (if _ then _ else _) = _
            rw [if_neg qr]
          have hG := GrS_2 hO'
          have last : ∀ v4 v5 : Value, wpx (d + 3) P_Wo_longestBeginning 120 [.ref 13, .ref 2, .int (nI (gP gs m w p).1), .int (nI p), .int 0, v5] [] g Q := fun v4 v5 => by
            refine B_Wo_longestBeginning_120 ?_
            rw [nI_1]
            rw [← e2] at hr ⊢
            exact ih (p + 1) g _ _ (by omega) (by omega) hf hr
          refine B_Wo_longestBeginning_35 hG.1 (fun _ => last v4 v5) (fun _ => ?_)
          refine B_Wo_longestBeginning_44 (os_theWord hO') (or_w_reached hO') (os_w_reached hO') (vp_in_nI (by omega) (by omega)) (fun _ => last v4 v5) (fun q => ?_)
          rw [nI_clamp (by omega), hr p (by omega), if_neg qr] at q
          exact absurd rfl q
  refine B_Wo_longestBeginning_0 (os_theWord hO) (or_w_reached hO) ?_
  rw [hw.2.1, nI_1]
  refine ow_lower (os_w_reached hO) (by omega) (by omega) (fun h1 h2 h3 hf => ?_)
  have hO' := hf.ow hO
  refine B_Wo_longestBeginning_13 (os_theWord hO') (or_w_reached hO') (os_w_reached hO') (vp_in_nI (n := 0) (by omega) (by omega)) ?_
  rw [b11]
  refine outer _ 0 _ _ _ rfl (Nat.zero_le _) (hf.tr (Fr.wi _ _ rfl)) (fun i hi => ?_)
  by_cases e : i = 0
  · subst e
    rw [wi_eq]
    rfl
  · rw [wi_ne _ _ (by omega), h2 i (by omega), if_neg]
    intro z
    exact e (of_decide_eq_true z)
theorem ow_goes {d : Nat} {h : PH} {Q : PQ} {gs : List (List Nat)} {m : Nat} {w : List Nat} (hO : OwS h) (hw : CWd h w) (hg : CGr h 2 gs m) (k : ∀ h', Fr (fun c _ => c = 16) h h' → Q (some (.int (goR gs m w))) h') : wpm (d + 5) 140 [.ref 0] h Q := by
  refine wpm_in P_Ow_goes rfl (by decide) (by show ¬ 1 < 1; decide) ?_
  refine B_Ow_goes_0 hO.1 (or_theWord hO) (or_groups hO) (os_theWord hO) (wo_goes hO hw hg (fun h' hf => ?_))
  exact B_Ow_goes_11 (k h' hf)
