/-! whether all parts now, on the reference's side: the answer -/
theorem md_partsNow {d : Nat} {h : PH} {Q : PQ} {gs : List (List Nat)} {m : Nat} (hM : MdS h) (hg : MGr h gs m) (hu : unlk gs) (kt : Prt gs m → ∀ h', Fr Wpn h h' → Q (some (.int 1)) h') (kf : ¬ Prt gs m → ∀ h', Fr Wpn h h' → Q (some (.int 0)) h') : wpm (d + 4) 271 [.ref 17] h Q := by
  refine wpm_in P_Md_partsNow rfl (by decide) (by show ¬ 6 < 1; decide) (B_Md_partsNow_0 hM.1 ?_)
  have ho := hg.1
  have h14 := ho.1
  have mg : ∀ {g : PH}, Fr Wpn h g → MGr g gs m := fun hf => MGr.fr hf (fun c k z y => by unfold Wpn at z; omega) hg
  -- from end to end
  have phaseB : ∀ (e p : Nat) (g : PH) (K : List Nat) (v2 v3 v4 v5 : Value), 112 - p = e → p ≤ K.length → Fr Wpn h g → CLi g K → OKK gs m K → (∀ a b, a < gs.length → b < gs.length → abC m a b → gs.getD a [] = (gs.getD b []).take (gs.getD a []).length → (8 * b + (gs.getD a []).length) ∈ K) → (∀ j k, j < p → K[j]? = some k → ∀ b, b < gs.length → stK gs m k b K) → wpx (d + 3) P_Md_partsNow 108 [.ref 17, .int (nI p), v2, v3, v4, v5] [] g Q := by
    intro e
    induction e with
    | zero =>
      intro p g K v2 v3 v4 v5 he hp hf hc hK h1 h2
      have kl := hc.len
      refine B_Md_partsNow_108 (hf.md hM).1 (fun _ => B_Md_partsNow_269 (kt (fun r ⟨j, hj⟩ hgr => ?_) g hf)) (fun q => ?_)
      · obtain ⟨k, k1, k2⟩ := Kcl ho hK h1 (fun k hk b hb => by
          obtain ⟨j', hj'⟩ := List.mem_iff_getElem?.mp hk
          exact h2 j' k (by have := (List.getElem?_eq_some_iff.mp hj').1; omega) hj' b hb) j r hj
        obtain ⟨b, b1, b2⟩ := hgr
        obtain ⟨j', hj'⟩ := List.mem_iff_getElem?.mp k1
        exact (h2 j' k (by have := (List.getElem?_eq_some_iff.mp hj').1; omega) hj' b (gL b1) b2).1 (by rw [gD b1, k2])
      · rw [hc.1, nI_leI (by omega) (by omega)] at q
        omega
    | succ e ih =>
      intro p g K v2 v3 v4 v5 he hp hf hc hK h1 h2
      have kl := hc.len
      have hMg := hf.md hM
      refine B_Md_partsNow_108 hMg.1 (fun q => B_Md_partsNow_269 (kt (fun r ⟨j, hj⟩ hgr => ?_) g hf)) (fun q => ?_)
      · rw [hc.1, nI_leI (by omega) (by omega)] at q
        obtain ⟨k, k1, k2⟩ := Kcl ho hK h1 (fun k hk b hb => by
          obtain ⟨j', hj'⟩ := List.mem_iff_getElem?.mp hk
          exact h2 j' k (by have := (List.getElem?_eq_some_iff.mp hj').1; omega) hj' b hb) j r hj
        obtain ⟨b, b1, b2⟩ := hgr
        obtain ⟨j', hj'⟩ := List.mem_iff_getElem?.mp k1
        exact (h2 j' k (by have := (List.getElem?_eq_some_iff.mp hj').1; omega) hj' b (gL b1) b2).1 (by rw [gD b1, k2])
      rw [hc.1, nI_leI (by omega) (by omega)] at q
      have gk : K[p]? = some K[p] := List.getElem?_eq_getElem (by omega)
      generalize K[p] = k at gk
      have k112 := hc.2.2.2.2 k (List.mem_of_getElem? gk)
      obtain ⟨⟨o1, o2, o3, o4⟩, dk⟩ := hK k (List.mem_of_getElem? gk)
      have gg := gS o1
      have g7 := ((ho.at gg).1).2
      have rl : (rwK gs k).length = (gs.getD (k / 8) []).length - k % 8 := by
        unfold rwK
        rw [List.length_drop]
      have kk : k = 8 * (k / 8) + k % 8 := by omega
      have hk60 := hc.2.1 p k gk
      refine B_Md_partsNow_116 hMg.1 (mr_line hMg) (ms_line hMg) (vp_in_nI (by omega) (by omega)) ?_
      rw [nI_clamp (by omega), hk60, (dv8 k k112).2, (dv8 k k112).1]
      have inner : ∀ (c b : Nat) (g : PH) (K : List Nat) (v5 : Value), gs.length - b = c → b ≤ gs.length → Fr Wpn h g → CLi g K → OKK gs m K → p < K.length → K[p]? = some k → (∀ a b, a < gs.length → b < gs.length → abC m a b → gs.getD a [] = (gs.getD b []).take (gs.getD a []).length → (8 * b + (gs.getD a []).length) ∈ K) → (∀ j k, j < p → K[j]? = some k → ∀ b, b < gs.length → stK gs m k b K) → (∀ b', b' < b → stK gs m k b' K) → wpx (d + 3) P_Md_partsNow 139 [.ref 17, .int (nI p), .int (nI (k / 8)), .int (nI (k % 8)), .int (nI b), v5] [] g Q := by
        intro c
        induction c with
        | zero =>
          intro b g K v5 hcb hb hf hc hK hpl gk h1 h2 h3
          have kl := hc.len
          refine B_Md_partsNow_139 (hf.md hM).1 (fun _ => B_Md_partsNow_263 ?_) (fun q => ?_)
          · rw [nI_1]
            refine ih (p + 1) g K _ _ _ _ (by omega) (by omega) hf hc hK h1 (fun j k' hj hk' b' hb' => ?_)
            by_cases w : j = p
            · rw [w, gk] at hk'
              rw [← Option.some.inj hk']
              exact h3 b' (by omega)
            · exact h2 j k' (by omega) hk' b' hb'
          · rw [(mg hf).2.1, nI_leI (by omega) (by omega)] at q
            omega
        | succ c ihc =>
          intro b g K v5 hcb hb hf hc hK hpl gk h1 h2 h3
          have hMg := hf.md hM
          have hgg := mg hf
          have gb := gS (gs := gs) (k := b) (by omega)
          obtain ⟨b1, b2, b3⟩ := ho.at gb
          have b7 := b1.2
          -- the next group
          have next : ∀ (g' : PH) (K' : List Nat) (x5 : Int32), Fr Wpn h g' → CLi g' K' → (∃ N, K' = K ++ N) → OKK gs m K' → stK gs m k b K' → wpx (d + 3) P_Md_partsNow 257 [.ref 17, .int (nI p), .int (nI (k / 8)), .int (nI (k % 8)), .int (nI b), .int x5] [] g' Q := fun g' K' x5 f' c' ⟨N, hN⟩ ok' st' => by
            have up : ∀ x ∈ K, x ∈ K' := fun x hx => by rw [hN]; exact List.mem_append_left _ hx
            refine B_Md_partsNow_257 ?_
            rw [nI_1]
            refine ihc (b + 1) g' K' _ (by omega) (by omega) f' c' ok' (by rw [hN, List.length_append]; omega) (by rw [hN, List.getElem?_append_left hpl]; exact gk) (fun a b a1 a2 a3 a4 => up _ (h1 a b a1 a2 a3 a4)) (fun j k' hj hk' b' hb' => ?_) (fun b' hb' => ?_)
            · rw [hN, List.getElem?_append_left (by omega)] at hk'
              exact stK_up (h2 j k' hj hk' b' hb') up
            · by_cases w : b' = b
              · rw [w]
                exact st'
              · exact stK_up (h3 b' (by omega)) up
          have same : stK gs m k b K → ∀ x5, wpx (d + 3) P_Md_partsNow 257 [.ref 17, .int (nI p), .int (nI (k / 8)), .int (nI (k % 8)), .int (nI b), .int x5] [] g Q := fun st x5 => next g K x5 hf hc ⟨[], (List.append_nil _).symm⟩ hK st
          refine B_Md_partsNow_139 hMg.1 (fun q => ?_) (fun _ => B_Md_partsNow_148 hMg.1 ?_)
          · rw [hgg.2.1, nI_leI (by omega) (by omega)] at q
            omega
          rw [hgg.2.2.1]
          refine md_isOf ho.m31 (by omega) (fun qb => B_Md_partsNow_157 (fun z => absurd z (by decide)) (fun _ => B_Md_partsNow_160 hMg.1 (md_alike hMg hgg gb gg (i := 0) (Nat.zero_le _) (by omega) (B_Md_partsNow_169 ?_)))) (fun qb => B_Md_partsNow_157 (fun _ => B_Md_partsNow_172 (B_Md_partsNow_173 (fun z => absurd rfl z) (fun _ => B_Md_partsNow_180 (same (fun z => absurd z qb) _)))) (fun z => absurd rfl z))
          rw [List.drop_zero]
          have er : (gs.getD (k / 8) []).drop (k % 8) = rwK gs k := rfl
          rw [er]
          have c1 := cpl_len (gs.getD b []) (rwK gs k)
          have c2 := cpl_len (rwK gs k) (gs.getD b [])
          rw [cpl_comm (rwK gs k) (gs.getD b [])] at c2
          have c3 := cpl_le (gs.getD b []) (rwK gs k)
          have c4 := cpl_le (rwK gs k) (gs.getD b [])
          rw [cpl_comm (rwK gs k) (gs.getD b [])] at c4
          generalize cpl (gs.getD b []) (rwK gs k) = n at c1 c2 c3 c4 ⊢
          have szb : h_i g 19 (nI b).toNatClampNeg = nI (gs.getD b []).length := by
            rw [nI_clamp (by omega)]
            exact (hgg.2.2.2 _ _ gb).1
          have szg : h_i g 19 (nI (k / 8)).toNatClampNeg - nI (k % 8) = nI (rwK gs k).length := by
            rw [nI_clamp (by omega), (hgg.2.2.2 _ _ gg).1, nI_subN (by omega), rl]
          have vb : vp_in (nI b) 14 := vp_in_nI b3 (by omega)
          have vg : vp_in (nI (k / 8)) 14 := vp_in_nI (by omega) (by omega)
          refine B_Md_partsNow_173 (fun z => ?_) (fun z => B_Md_partsNow_180 (same (fun _ => ?_) _))
          · -- not both
            have rest : ¬ (n = (gs.getD b []).length ∧ n = (rwK gs k).length) → wpx (d + 3) P_Md_partsNow 210 [.ref 17, .int (nI p), .int (nI (k / 8)), .int (nI (k % 8)), .int (nI b), .int (nI n)] [] g Q := fun hno => by
              have ne : gs.getD b [] ≠ rwK gs k := fun y => by
                have q1 := c1.mpr (by rw [← y, List.take_length])
                exact hno ⟨q1, by rw [q1, y]⟩
              refine B_Md_partsNow_210 hMg.1 (mr_size hMg) (ms_size hMg) vb (fun y => ?_) (fun y => B_Md_partsNow_222 hMg.1 ?_)
              · rw [szb, nI_eq (by omega) (by omega)] at y
                refine B_Md_partsNow_235 hMg.1 (mr_size hMg) (ms_size hMg) vg (fun w => ?_) (fun w => B_Md_partsNow_248 hMg.1 ?_)
                · rw [szg, nI_eq (by omega) (by omega)] at w
                  exact same (fun _ => ⟨ne, fun u => absurd (c1.mpr u) y, fun u => absurd (c2.mpr u) w⟩) _
                · rw [szg, nI_eq (by omega) (by omega)] at w
                  have ep := c2.mp w
                  have ll : (rwK gs k).length < (gs.getD b []).length := by omega
                  refine md_comesIn hMg hc (by omega) (fun g' c' f' => B_Md_partsNow_256 (next g' _ _ (hf.tr f') c' (addK_p _ _) (fun x hx => ?_) (fun _ => ⟨ne, fun u => absurd (c1.mpr u) y, fun _ => addK_m.mpr (Or.inr (by rw [w]))⟩)))
                  rcases addK_m.mp hx with u | u
                  · exact hK x u
                  · rw [u, w]
                    refine ⟨⟨by omega, by rw [show (8 * b + (rwK gs k).length) / 8 = b by omega]; exact qb, by omega, by rw [show (8 * b + (rwK gs k).length) / 8 = b by omega]; omega⟩, DvR_nx dk ?_⟩
                    rw [rwK_at (by omega)]
                    refine ⟨fun v => ?_, _, ⟨b, gb, qb⟩, Or.inl (tak_app ep)⟩
                    have := congrArg List.length v
                    rw [List.length_drop] at this
                    have h0 : ([] : List Nat).length = 0 := rfl
                    omega
              · rw [szb, nI_eq (by omega) (by omega)] at y
                have ep := c1.mp y
                have ll : (gs.getD b []).length < (rwK gs k).length := by omega
                rw [nI_add]
                refine md_comesIn hMg hc (by omega) (fun g' c' f' => B_Md_partsNow_231 (next g' _ _ (hf.tr f') c' (addK_p _ _) (fun x hx => ?_) (fun _ => ⟨ne, fun _ => addK_m.mpr (Or.inr (by rw [← y]; omega)), fun u => absurd (c2.mpr u) (by omega)⟩)))
                rcases addK_m.mp hx with u | u
                · exact hK x u
                · rw [u, y]
                  refine ⟨⟨by omega, by rw [show (8 * (k / 8) + (k % 8 + (gs.getD b []).length)) / 8 = k / 8 by omega]; exact o2, by omega, by rw [show (8 * (k / 8) + (k % 8 + (gs.getD b []).length)) / 8 = k / 8 by omega]; omega⟩, DvR_nx dk ?_⟩
                  rw [rwK_at (by omega), ← List.drop_drop, er]
                  refine ⟨fun v => ?_, _, ⟨b, gb, qb⟩, Or.inr (tak_app ep)⟩
                  have := congrArg List.length v
                  rw [List.length_drop] at this
                  have h0 : ([] : List Nat).length = 0 := rfl
                  omega
            refine B_Md_partsNow_183 hMg.1 (mr_size hMg) (ms_size hMg) vb (fun y => ?_) (fun y => B_Md_partsNow_195 hMg.1 (mr_size hMg) (ms_size hMg) vg (fun w => ?_) (fun w => B_Md_partsNow_208 (kf (fun hp => ?_) g hf)))
            · rw [szb, nI_eq (by omega) (by omega)] at y
              exact rest (fun w => y w.1)
            · rw [szg, nI_eq (by omega) (by omega)] at w
              exact rest (fun y => w y.2)
            · rw [szb, nI_eq (by omega) (by omega)] at y
              rw [szg, nI_eq (by omega) (by omega)] at w
              have ep := c1.mp y
              rw [List.take_of_length_le (by omega)] at ep
              exact hp _ dk ⟨b, by rw [gb, ep], qb⟩
          · have n0 : n = 0 := (nI_eq (b := 0) (by omega) (by omega)).mp z
            refine ⟨fun y => ?_, fun y => ?_, fun y => ?_⟩
            · have := c1.mpr (by rw [← y, List.take_length])
              omega
            · have := c1.mpr y
              omega
            · have := c2.mpr y
              omega
      exact inner gs.length 0 g K _ rfl (Nat.zero_le _) hf hc hK (by omega) gk h1 h2 (fun b' hb' => absurd hb' (Nat.not_lt_zero _))
  -- the first round
  have inner : ∀ (a : Nat), a < gs.length → ∀ (c b : Nat) (g : PH) (K : List Nat) (v3 v4 v5 : Value), gs.length - b = c → b ≤ gs.length → Fr Wpn h g → CLi g K → OKK gs m K → (∀ a' b', a' < gs.length → b' < gs.length → (a' < a ∨ (a' = a ∧ b' < b)) → abC m a' b' → gs.getD a' [] = (gs.getD b' []).take (gs.getD a' []).length → (8 * b' + (gs.getD a' []).length) ∈ K) → (∀ g K x2, Fr Wpn h g → CLi g K → OKK gs m K → (∀ a' b', a' < gs.length → b' < gs.length → a' < a + 1 → abC m a' b' → gs.getD a' [] = (gs.getD b' []).take (gs.getD a' []).length → (8 * b' + (gs.getD a' []).length) ∈ K) → wpx (d + 3) P_Md_partsNow 100 [.ref 17, .int (nI a), .int x2, v3, v4, v5] [] g Q) → wpx (d + 3) P_Md_partsNow 38 [.ref 17, .int (nI a), .int (nI b), v3, v4, v5] [] g Q := by
    intro a ha c
    have ga := gS ha
    have a7 := ((ho.at ga).1).2
    induction c with
    | zero =>
      intro b g K v3 v4 v5 hc hb hf hC hK h1 kk
      refine B_Md_partsNow_38 (hf.md hM).1 (fun _ => kk g K _ hf hC hK (fun a' b' x1 x2 x3 => h1 a' b' x1 x2 (by omega))) (fun q => ?_)
      rw [(mg hf).2.1, nI_leI (by omega) (by omega)] at q
      omega
    | succ c ih =>
      intro b g K v3 v4 v5 hc hb hf hC hK h1 kk
      have hMg := hf.md hM
      have hgg := mg hf
      have gb := gS (gs := gs) (k := b) (by omega)
      have b7 := ((ho.at gb).1).2
      have next : ∀ (g' : PH) (K' : List Nat), Fr Wpn h g' → CLi g' K' → (∀ x ∈ K, x ∈ K') → OKK gs m K' → (abC m a b → gs.getD a [] = (gs.getD b []).take (gs.getD a []).length → (8 * b + (gs.getD a []).length) ∈ K') → wpx (d + 3) P_Md_partsNow 94 [.ref 17, .int (nI a), .int (nI b), v3, v4, v5] [] g' Q := fun g' K' f' c' up ok' st' => by
        refine B_Md_partsNow_94 ?_
        rw [nI_1]
        refine ih (b + 1) g' K' _ _ _ (by omega) (by omega) f' c' ok' (fun a' b' x1 x2 x3 x4 x5 => ?_) kk
        by_cases w : a' = a ∧ b' = b
        · rw [w.1, w.2] at x4 x5 ⊢
          exact st' x4 x5
        · exact up _ (h1 a' b' x1 x2 (by omega) x4 x5)
      have no : (abC m a b → ¬ gs.getD a [] = (gs.getD b []).take (gs.getD a []).length) → wpx (d + 3) P_Md_partsNow 94 [.ref 17, .int (nI a), .int (nI b), v3, v4, v5] [] g Q := fun hn => next g K hf hC (fun _ hx => hx) hK (fun x y => absurd y (hn x))
      refine B_Md_partsNow_38 hMg.1 (fun q => ?_) (fun _ => B_Md_partsNow_46 (fun q => no (fun y => absurd ((nI_eq (by omega) (by omega)).mp q) y.1)) (fun q0 => B_Md_partsNow_51 hMg.1 ?_))
      · rw [hgg.2.1, nI_leI (by omega) (by omega)] at q
        omega
      rw [hgg.2.2.1]
      refine md_isOf ho.m31 (by omega) (fun qa => B_Md_partsNow_59 (fun z => absurd z (by decide)) (fun _ => B_Md_partsNow_62 hMg.1 ?_)) (fun qa => B_Md_partsNow_59 (fun _ => no (fun y => absurd y.2.1 qa)) (fun z => absurd rfl z))
      rw [hgg.2.2.1]
      refine md_isOf ho.m31 (by omega) (fun qb => B_Md_partsNow_70 (fun z => absurd z (by decide)) (fun _ => B_Md_partsNow_73 hMg.1 (md_begins hMg hgg ga gb ?_))) (fun qb => B_Md_partsNow_70 (fun _ => no (fun y => absurd y.2.2 qb)) (fun z => absurd rfl z))
      by_cases y : gs.getD a [] = (gs.getD b []).take (gs.getD a []).length
      · rw [if_pos y]
        have hab : abC m a b := ⟨fun w => q0 (by rw [w]), qa, qb⟩
        obtain ⟨ll, dv⟩ := fs_Dv ho hu ha (by omega) hab y
        refine B_Md_partsNow_79 (fun z => absurd z (by decide)) (fun _ => B_Md_partsNow_82 hMg.1 (mr_size hMg) (ms_size hMg) (vp_in_nI (by omega) (by omega)) ?_)
        rw [nI_clamp (by omega), (hgg.2.2.2 _ _ ga).1]
        refine md_comesIn hMg hC (by omega) (fun g' c' f' => B_Md_partsNow_93 (next g' _ (hf.tr f') c' (fun x hx => addK_m.mpr (Or.inl hx)) (fun x hx => ?_) (fun _ _ => addK_m.mpr (Or.inr rfl))))
        rcases addK_m.mp hx with u | u
        · exact hK x u
        · rw [u]
          refine ⟨⟨by omega, by rw [show (8 * b + (gs.getD a []).length) / 8 = b by omega]; exact qb, by have := (ho.at ga).2.1; omega, by rw [show (8 * b + (gs.getD a []).length) / 8 = b by omega]; omega⟩, ?_⟩
          rw [rwK_at (by omega)]
          exact dv
      · rw [if_neg y]
        exact B_Md_partsNow_79 (fun _ => no (fun _ => y)) (fun z => absurd rfl z)
  have outer : ∀ (c a : Nat) (g : PH) (K : List Nat) (v2 v3 v4 v5 : Value), gs.length - a = c → a ≤ gs.length → Fr Wpn h g → CLi g K → OKK gs m K → (∀ a' b', a' < gs.length → b' < gs.length → a' < a → abC m a' b' → gs.getD a' [] = (gs.getD b' []).take (gs.getD a' []).length → (8 * b' + (gs.getD a' []).length) ∈ K) → wpx (d + 3) P_Md_partsNow 28 [.ref 17, .int (nI a), v2, v3, v4, v5] [] g Q := by
    intro c
    induction c with
    | zero =>
      intro a g K v2 v3 v4 v5 hc ha hf hC hK h1
      refine B_Md_partsNow_28 (hf.md hM).1 (fun _ => B_Md_partsNow_106 (phaseB 112 0 g K v2 v3 v4 v5 rfl (Nat.zero_le _) hf hC hK (fun a b x1 x2 x3 x4 => h1 a b x1 x2 (by omega) x3 x4) (fun j k hj => absurd hj (Nat.not_lt_zero _)))) (fun q => ?_)
      rw [(mg hf).2.1, nI_leI (by omega) (by omega)] at q
      omega
    | succ c ih =>
      intro a g K v2 v3 v4 v5 hc ha hf hC hK h1
      refine B_Md_partsNow_28 (hf.md hM).1 (fun q => ?_) (fun _ => B_Md_partsNow_36 (inner a (by omega) gs.length 0 g K v3 v4 v5 rfl (Nat.zero_le _) hf hC hK (fun a' b' x1 x2 x3 => h1 a' b' x1 x2 (by omega)) (fun g' K' x2 f' c' k' h' => B_Md_partsNow_100 ?_)))
      · rw [(mg hf).2.1, nI_leI (by omega) (by omega)] at q
        omega
      · rw [nI_1]
        exact ih (a + 1) g' K' _ _ _ _ (by omega) (by omega) f' c' k' h'
  -- nothing is in
  have f0 : Fr Wpn h (w_i h 17 74 0) := Fr.wi h _ (Or.inr (Or.inr ⟨rfl, rfl⟩))
  have zero : ∀ (c p : Nat) (g : PH) (v2 v3 v4 v5 : Value), 112 - p = c → p ≤ 112 → Fr Wpn h g → h_i g 17 74 = 0 → (∀ k, k < p → h_i g 61 k = 0) → wpx (d + 3) P_Md_partsNow 7 [.ref 17, .int (nI p), v2, v3, v4, v5] [] g Q := by
    intro c
    induction c with
    | zero =>
      intro p g v2 v3 v4 v5 hc hp hf h0 hz
      refine B_Md_partsNow_7 (fun _ => B_Md_partsNow_26 (outer gs.length 0 g [] v2 v3 v4 v5 rfl (Nat.zero_le _) hf ⟨h0, fun j k hj => (by cases hj), fun k hk => ?_, List.nodup_nil, fun k hk => (by cases hk)⟩ (fun k hk => by cases hk) (fun a' b' _ _ x => absurd x (Nat.not_lt_zero _)))) (fun q => ?_)
      · rw [if_neg List.not_mem_nil]
        exact hz k (by omega)
      · rw [show (112 : Int32) = nI 112 from rfl, nI_leI (by omega) (by omega)] at q
        omega
    | succ c ih =>
      intro p g v2 v3 v4 v5 hc hp hf h0 hz
      have hMg := hf.md hM
      refine B_Md_partsNow_7 (fun q => ?_) (fun _ => B_Md_partsNow_13 hMg.1 (mr_isIn hMg) (ms_isIn hMg) (vp_in_nI (by omega) (by omega)) ?_)
      · rw [show (112 : Int32) = nI 112 from rfl, nI_leI (by omega) (by omega)] at q
        omega
      · rw [nI_clamp (by omega), nI_1]
        refine ih (p + 1) _ _ _ _ _ (by omega) (by omega) (hf.tr (Fr.wi g _ (Or.inr (Or.inl rfl)))) ((wi_ne _ _ (by omega)).trans h0) (fun k hk => ?_)
        by_cases w : k = p
        · rw [w, wi_eq]
          rfl
        · exact (wi_ne _ _ (by omega)).trans (hz k (by omega))
  exact zero 112 0 _ _ _ _ _ rfl (Nat.zero_le _) f0 (wi_eq _ _ _ _) (fun k hk => absurd hk (Nat.not_lt_zero _))
