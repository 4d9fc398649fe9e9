/-! borders on the reference's side: layer by layer, and both calls -/
def Wbz (x k : Nat) : Prop := Wbm x k ∨ (x = 17 ∧ k = 70)
def MBz (h : PH) (gs : List (List Nat)) (m : Nat) : Prop := ∀ n, 1 ≤ n → n ≤ 4 → h_i h 17 70 = nI n → BB h (bor gs m n)
theorem md2 : ∀ b, b < 5 → nI b - nI b / (2 : Int32) * (2 : Int32) = nI (b % 2) := by decide
theorem lb_k {d a b c : Nat} {h0 : PH} {Q : PQ} {gs : List (List Nat)} {m : Nat} {L R TO TB : List (List Nat)} {x1 : Int32} (hM : MdS h0) (hg : MGr h0 gs m) (ha : a < 2) (hb : b < 4) (hc : c < 27) (hLr : ∀ r ∈ L, r.length = b ∧ ∀ x ∈ r, 0 < x ∧ x < 28) (hLl : L.length ≤ 20000) (hTO : TO.length ≤ 20000) (hTB : TB.length ≤ 20000) (k : ∀ g O B x5 v6, BO g a O → BO g (1 - a) L → BB g B → O ++ fltP (fun r => iE gs m r ∧ iW gs m r) R = TO → B ++ fltP (fun r => iE gs m r ∧ ¬ iW gs m r) R = TB → Fr Wbm h0 g → wpx (d + 3) P_Md_layBorders 142 [.ref 17, .int x1, .int (nI (b + 1)), .int (nI a), .int (nI c), .int x5, v6] [] g Q) : ∀ (e q : Nat) (g : PH) (O B : List (List Nat)) (v6 : Value), L.length - q = e → q ≤ L.length → BO g a O → BO g (1 - a) L → BB g B → O ++ fltP (fun r => iE gs m r ∧ iW gs m r) (cndL (L.drop q) c ++ R) = TO → B ++ fltP (fun r => iE gs m r ∧ ¬ iW gs m r) (cndL (L.drop q) c ++ R) = TB → Fr Wbm h0 g → wpx (d + 3) P_Md_layBorders 64 [.ref 17, .int x1, .int (nI (b + 1)), .int (nI a), .int (nI c), .int (nI q), v6] [] g Q := by
  intro e
  induction e with
  | zero =>
    intro q g O B v6 he hq hO hL hB eO eB hf
    have hMg := hf.md hM
    have eq' : q = L.length := by omega
    subst eq'
    rw [List.drop_length] at eO eB
    have ea : (1 : Int32) - nI a = nI (1 - a) := one_sub a ha
    refine B_Md_layBorders_64 hMg.1 (mr_openMany hMg) (ms_openMany hMg) (by rw [ea]; exact vp_in_nI (by omega) (by omega)) (fun _ => k g O B _ _ hO hL hB eO eB hf) (fun w => ?_)
    rw [ea, nI_clamp (by omega), hL.1, nI_leI (by omega) (by omega)] at w
    omega
  | succ e ih =>
    intro q g O B v6 he hq hO hL hB eO eB hf
    have hMg := hf.md hM
    have hgg := hg.fr hf (fun x k z => by unfold Wbm at z; omega)
    have ea : (1 : Int32) - nI a = nI (1 - a) := one_sub a ha
    have gx : L[q]? = some (L[q]'(by omega)) := List.getElem?_eq_getElem (by omega)
    have edr : L.drop q = L[q]'(by omega) :: L.drop (q + 1) := List.drop_eq_getElem_cons (by omega)
    generalize L[q]'(by omega) = r at gx edr
    obtain ⟨r1, r2⟩ := hLr r (List.mem_of_getElem? gx)
    have eix : (20000 : Int32) * nI (1 - a) + nI q = nI (20000 * (1 - a) + q) := by rw [show (20000 : Int32) = nI 20000 from rfl, nI_mulN, nI_add]
    rw [edr] at eO eB
    refine B_Md_layBorders_64 hMg.1 (mr_openMany hMg) (ms_openMany hMg) (by rw [ea]; exact vp_in_nI (by omega) (by omega)) (fun w => ?_) (fun _ => B_Md_layBorders_77 hMg.1 (mr_open hMg) (ms_open hMg) (by rw [ea, eix]; exact vp_in_nI (by omega) (by omega)) ?_)
    · rw [ea, nI_clamp (by omega), hL.1, nI_leI (by omega) (by omega)] at w
      omega
    · rw [ea, eix, nI_clamp (show 20000 * (1 - a) + q < 2 ^ 31 by omega), hL.2 q r gx, md_rowcode hc r1 hb r2]
      refine md_lbRow (c := c) (R := cndL (L.drop (q + 1)) c ++ R) (TO := TO) (TB := TB) hMg hgg ha hb (by rw [List.length_cons, r1]) (fun x hx => ?_) hO hL hB hLl eO eB hTO hTB (fun g2 O' B' hO' hL' hB' eO' eB' f2' => B_Md_layBorders_136 ?_)
      · rcases List.mem_cons.mp hx with z | z
        · omega
        · exact r2 x z
      · rw [nI_1]
        exact ih (q + 1) g2 O' B' _ (by omega) (by omega) hO' hL' hB' eO' eB' (hf.tr f2')
theorem lb_c {d a b : Nat} {h0 : PH} {Q : PQ} {gs : List (List Nat)} {m : Nat} {L TO TB : List (List Nat)} {x1 : Int32} (hM : MdS h0) (hg : MGr h0 gs m) (ha : a < 2) (hb : b < 4) (hLr : ∀ r ∈ L, r.length = b ∧ ∀ x ∈ r, 0 < x ∧ x < 28) (hLl : L.length ≤ 20000) (hTO : TO.length ≤ 20000) (hTB : TB.length ≤ 20000) (k : ∀ g v5 v6 x4, BO g a TO → BB g TB → Fr Wbm h0 g → wpx (d + 3) P_Md_layBorders 148 [.ref 17, .int x1, .int (nI (b + 1)), .int (nI a), .int x4, v5, v6] [] g Q) : ∀ (e c : Nat) (g : PH) (O B : List (List Nat)) (v5 v6 : Value), 27 - c = e → c ≤ 27 → BO g a O → BO g (1 - a) L → BB g B → O ++ fltP (fun r => iE gs m r ∧ iW gs m r) (cndR L c (27 - c)) = TO → B ++ fltP (fun r => iE gs m r ∧ ¬ iW gs m r) (cndR L c (27 - c)) = TB → Fr Wbm h0 g → wpx (d + 3) P_Md_layBorders 54 [.ref 17, .int x1, .int (nI (b + 1)), .int (nI a), .int (nI c), v5, v6] [] g Q := by
  intro e
  induction e with
  | zero =>
    intro c g O B v5 v6 he hc hO hL hB eO eB hf
    have ec : c = 27 := by omega
    subst ec
    have eO : O ++ [] = TO := eO
    have eB : B ++ [] = TB := eB
    rw [List.append_nil] at eO eB
    rw [eO] at hO
    rw [eB] at hB
    exact B_Md_layBorders_54 (fun _ => k g _ _ _ hO hB hf) (fun w => absurd (by decide) w)
  | succ e ih =>
    intro c g O B v5 v6 he hc hO hL hB eO eB hf
    have hMg := hf.md hM
    have hgg := hg.fr hf (fun x k z => by unfold Wbm at z; omega)
    rw [show 27 - c = (27 - (c + 1)) + 1 by omega, cndR_s] at eO eB
    refine B_Md_layBorders_54 (fun w => ?_) (fun _ => B_Md_layBorders_61 ?_)
    · rw [show (27 : Int32) = nI 27 from rfl, nI_leI (by omega) (by omega)] at w
      omega
    · refine lb_k (R := cndR L (c + 1) (27 - (c + 1))) (TO := TO) (TB := TB) hMg hgg ha hb (show c < 27 by omega) hLr hLl hTO hTB (fun g2 O' B' x5 v6' hO' hL' hB' eO' eB' f2' => B_Md_layBorders_142 ?_) _ 0 g O B _ rfl (Nat.zero_le _) hO hL hB eO eB (Fr.rf _ _)
      rw [nI_1]
      exact ih (c + 1) g2 O' B' _ _ (by omega) (by omega) hO' hL' hB' eO' eB' (hf.tr f2')
theorem md_layBorders {d n : Nat} {h : PH} {Q : PQ} {gs : List (List Nat)} {m : Nat} (hM : MdS h) (hg : MGr h gs m) (hz : MBz h gs m) (h1 : 1 ≤ n) (h4 : n ≤ 4) (k : ∀ h', BB h' (bor gs m n) → h_i h' 17 70 = nI n → Fr Wbz h h' → Q none h') : wpm (d + 4) 266 [.ref 17, .int (nI n)] h Q := by
  refine wpm_in P_Md_layBorders rfl (by decide) (by show ¬ 7 < 2; decide) ?_
  refine B_Md_layBorders_0 hM.1 (fun _ => ?_) (fun z => B_Md_layBorders_8 (k h (hz n h1 h4 z) z (Fr.rf _ _)))
  have v0 : vp_in (0 : Int32) 2 := vp_in_nI (n := 0) (by omega) (by omega)
  have v00 : vp_in (0 : Int32) 40000 := vp_in_nI (n := 0) (by omega) (by omega)
  refine B_Md_layBorders_9 hM.1 (mr_openMany hM) (ms_openMany hM) v0 (mr_open hM) (ms_open hM) v00 ?_
  have F1 : Fr Wbz h (w_i h 17 70 (nI n)) := Fr.wi _ _ (Or.inr ⟨rfl, rfl⟩)
  have F2 : Fr Wbz h (w_i (w_i h 17 70 (nI n)) 56 0 1) := F1.tr (Fr.wi _ _ (Or.inl (Or.inl (by omega))))
  have F3 : Fr Wbz h (w_i (w_i (w_i h 17 70 (nI n)) 56 0 1) 55 0 0) := F2.tr (Fr.wi _ _ (Or.inl (Or.inl (by omega))))
  have O0 : BO (w_i (w_i (w_i h 17 70 (nI n)) 56 0 1) 55 0 0) 0 (opn gs m 0) := by
    refine ⟨?_, fun q r hq => ?_⟩
    · rw [wi_ne _ _ (by omega), wi_eq]
      rfl
    · have ql := (List.getElem?_eq_some_iff.mp hq).1
      have ql' : q < 1 := ql
      have q0 : q = 0 := by omega
      subst q0
      have : ([] : List Nat) = r := Option.some.inj hq
      rw [wi_eq, ← this]
      rfl
  have e70 : h_i (w_i (w_i (w_i h 17 70 (nI n)) 56 0 1) 55 0 0) 17 70 = nI n := by
    rw [wi_ne _ _ (by omega), wi_ne _ _ (by omega), wi_eq]
  generalize w_i (w_i (w_i h 17 70 (nI n)) 56 0 1) 55 0 0 = g0 at F3 O0 e70 ⊢
  have loop : ∀ (e b : Nat) (g : PH) (v3 v4 v5 v6 : Value), n - b = e → b ≤ n → BO g (b % 2) (opn gs m b) → (0 < b → BB g (bor gs m b)) → h_i g 17 70 = nI n → Fr Wbz h g → wpx (d + 3) P_Md_layBorders 30 [.ref 17, .int (nI n), .int (nI (b + 1)), v3, v4, v5, v6] [] g Q := by
    intro e
    induction e with
    | zero =>
      intro b g v3 v4 v5 v6 he hb hO hB h70 hf
      have eb : b = n := by omega
      subst eb
      refine B_Md_layBorders_30 (fun _ => B_Md_layBorders_154 (k g (hB (by omega)) h70 hf)) (fun w => absurd ?_ w)
      rw [nI_ltI (by omega) (by omega)]
      omega
    | succ e ih =>
      intro b g v3 v4 v5 v6 he hb hO hB h70 hf
      have hMg := hf.md hM
      have hgg := hg.fr hf (fun x k z => by unfold Wbz Wbm at z; omega)
      refine B_Md_layBorders_30 (fun w => ?_) (fun _ => B_Md_layBorders_35 hMg.1 (mr_openMany hMg) (ms_openMany hMg) (by rw [md2 (b + 1) (by omega)]; exact vp_in_nI (by omega) (by omega)) ?_)
      · rw [nI_ltI (by omega) (by omega)] at w
        omega
      · rw [md2 (b + 1) (by omega), nI_clamp (show (b + 1) % 2 < 2 ^ 31 by omega)]
        have f1 : Fr Wbm g (w_i g 56 ((b + 1) % 2) 0) := Fr.wi _ _ (Or.inl (by omega))
        have f2 : Fr Wbm g (w_i (w_i g 56 ((b + 1) % 2) 0) 17 71 0) := f1.tr (Fr.wi _ _ (Or.inr ⟨rfl, rfl⟩))
        have O1 : BO (w_i (w_i g 56 ((b + 1) % 2) 0) 17 71 0) ((b + 1) % 2) [] := by
          refine ⟨?_, fun q r hq => by cases hq⟩
          rw [wi_ne _ _ (by omega), wi_eq]
          rfl
        have B1 : BB (w_i (w_i g 56 ((b + 1) % 2) 0) 17 71 0) [] := by
          refine ⟨?_, fun q r hq => by cases hq⟩
          rw [wi_eq]
          rfl
        have eb2 : 1 - (b + 1) % 2 = b % 2 := by omega
        have L1 : BO (w_i (w_i g 56 ((b + 1) % 2) 0) 17 71 0) (1 - (b + 1) % 2) (opn gs m b) := by
          rw [eb2]
          refine ⟨?_, fun q r hq => ?_⟩
          · rw [wi_ne _ _ (by omega), wi_ne _ _ (by omega)]
            exact hO.1
          · rw [wi_ne _ _ (by omega), wi_ne _ _ (by omega)]
            exact hO.2 q r hq
        have e70' : h_i (w_i (w_i g 56 ((b + 1) % 2) 0) 17 71 0) 17 70 = nI n := by
          rw [wi_ne _ _ (by omega), wi_ne _ _ (by omega)]
          exact h70
        generalize w_i (w_i g 56 ((b + 1) % 2) 0) 17 71 0 = g1 at f2 O1 B1 L1 e70' ⊢
        have F := hf.tr (f2.up (fun x k z => Or.inl z))
        have hM1 := F.md hM
        have hg1 := hg.fr F (fun x k z => by unfold Wbz Wbm at z; omega)
        have oo := opn_O (gs := gs) (m := m) b
        refine lb_c (b := b) (L := opn gs m b) (TO := opn gs m (b + 1)) (TB := bor gs m (b + 1)) hM1 hg1 (by omega) (by omega) (fun r hr => oo.2 r hr) (opn_20k hg.1 (by omega)) (opn_20k hg.1 (by omega)) (bor_20k hg.1 (by omega) (by omega)) (fun g2 v5' v6' x4 O2 B2 f3 => B_Md_layBorders_148 ?_) _ 0 g1 [] [] _ _ rfl (by omega) O1 L1 B1 rfl rfl (Fr.rf _ _)
        rw [nI_1]
        exact ih (b + 1) g2 _ _ _ _ (by omega) (by omega) O2 (fun _ => B2) (by rw [f3.i _ _ (fun z => by unfold Wbm at z; omega)]; exact e70') (F.tr (f3.up (fun x k z => Or.inl z)))
  exact loop _ 0 g0 _ _ _ _ rfl (Nat.zero_le _) O0 (fun z => absurd z (by omega)) e70 F3
/-- both calls -/
def Wbo (x k : Nat) : Prop := Wbz x k ∨ (x = 17 ∧ k = 0)
noncomputable def bosR (gs : List (List Nat)) (m : Nat) (x : Int32) : Int32 := if x < 1 ∨ (4 : Int32) < x then -1 else nI (bor gs m x.toNatClampNeg).length
theorem nI_of1 {x : Int32} (h1 : ¬ x < 1) (h4 : ¬ (4 : Int32) < x) : ∃ n, 1 ≤ n ∧ n ≤ 4 ∧ x = nI n := by
  have h0 : ¬ x < 0 := fun z => h1 (Int32.lt_trans z (by decide))
  obtain ⟨n, hn, e⟩ := nI_ofN (n := 4) h0 h4 (by decide)
  refine ⟨n, ?_, hn, e⟩
  rw [e, show (1 : Int32) = nI 1 from rfl, nI_ltI (by omega) (by omega)] at h1
  omega
theorem md_borders {d : Nat} {h : PH} {Q : PQ} {gs : List (List Nat)} {m : Nat} {x1 : Int32} (hM : MdS h) (hg : MGr h gs m) (hz : MBz h gs m) (k : ∀ h', MBz h' gs m → Fr Wbo h h' → Q (some (.int (bosR gs m x1))) h') : wpm (d + 5) 268 [.ref 17, .int x1] h Q := by
  refine wpm_in P_Md_borders rfl (by decide) (by show ¬ 2 < 2; decide) ?_
  refine B_Md_borders_0 hM.1 ?_
  have hf0 : Fr (fun x k => x = 17 ∧ k = 0) h (w_i h 17 0 0) := Fr.wi _ _ ⟨rfl, rfl⟩
  generalize w_i h 17 0 0 = g at hf0 ⊢
  have hMg := hf0.md hM
  have hgg := hg.fr hf0 (fun x k z => by omega)
  have hzg : MBz g gs m := fun n n1 n4 z => by
    rw [hf0.i _ _ (by omega)] at z
    exact (hz n n1 n4 z).fr hf0 (fun x k z => by omega)
  refine md_in ?_
  by_cases b1 : x1 < 1 ∨ (4 : Int32) < x1
  · rw [if_pos b1]
    refine B_Md_borders_11 (fun q => absurd rfl q) (fun _ => B_Md_borders_14 ?_)
    have kk := k g hzg (hf0.up (fun x k z => Or.inr z))
    unfold bosR at kk
    rw [if_pos b1] at kk
    exact kk
  · rw [if_neg b1]
    obtain ⟨n, n1, n4, e⟩ := nI_of1 (fun z => b1 (Or.inl z)) (fun z => b1 (Or.inr z))
    subst e
    refine B_Md_borders_11 (fun _ => B_Md_borders_16 hMg.1 (md_layBorders hMg hgg hzg n1 n4 (fun g2 hB h70 f2' => ?_))) (fun q => absurd q (by decide))
    have hM2 := f2'.md hMg
    refine B_Md_borders_21 hM2.1 ?_
    rw [hB.1]
    have kk := k g2 (fun n' a1 a4 z => by
      rw [h70, nI_eq (by omega) (by omega)] at z
      rw [← z]
      exact hB) ((hf0.up (fun x k z => Or.inr z)).tr (f2'.up (fun x k z => Or.inl z)))
    unfold bosR at kk
    rw [if_neg b1, nI_clamp (by omega)] at kk
    exact kk
/-- a letter of a border -/
noncomputable def borR (gs : List (List Nat)) (m : Nat) (x1 x2 x3 : Int32) : Int32 := if x1 < 1 ∨ (4 : Int32) < x1 then -1 else if x3 < 0 ∨ x1 - (1 : Int32) < x3 then -1 else if x2 < 0 ∨ nI (bor gs m x1.toNatClampNeg).length - (1 : Int32) < x2 then -1 else nI ((((bor gs m x1.toNatClampNeg).getD x2.toNatClampNeg []).getD x3.toNatClampNeg 0) + 96)
theorem md_border {d : Nat} {h : PH} {Q : PQ} {gs : List (List Nat)} {m : Nat} {x1 x2 x3 : Int32} (hM : MdS h) (hg : MGr h gs m) (hz : MBz h gs m) (k : ∀ h', MBz h' gs m → Fr Wbo h h' → Q (some (.int (borR gs m x1 x2 x3))) h') : wpm (d + 5) 269 [.ref 17, .int x1, .int x2, .int x3] h Q := by
  refine wpm_in P_Md_border rfl (by decide) (by show ¬ 4 < 4; decide) ?_
  refine B_Md_border_0 hM.1 ?_
  have hf0 : Fr (fun x k => x = 17 ∧ k = 0) h (w_i h 17 0 0) := Fr.wi _ _ ⟨rfl, rfl⟩
  generalize w_i h 17 0 0 = g at hf0 ⊢
  have hMg := hf0.md hM
  have hgg := hg.fr hf0 (fun x k z => by omega)
  have hzg : MBz g gs m := fun n n1 n4 z => by
    rw [hf0.i _ _ (by omega)] at z
    exact (hz n n1 n4 z).fr hf0 (fun x k z => by omega)
  have kg := k g hzg (hf0.up (fun x k z => Or.inr z))
  unfold borR at kg
  refine md_in ?_
  by_cases b1 : x1 < 1 ∨ (4 : Int32) < x1
  · rw [if_pos b1] at kg ⊢
    exact B_Md_border_11 (fun _ => B_Md_border_25 kg) (fun q => absurd rfl q)
  · rw [if_neg b1] at kg ⊢
    obtain ⟨n, n1, n4, e⟩ := nI_of1 (fun z => b1 (Or.inl z)) (fun z => b1 (Or.inr z))
    subst e
    refine B_Md_border_11 (fun q => absurd q (by decide)) (fun _ => B_Md_border_14 (md_in ?_))
    by_cases b3 : x3 < 0 ∨ nI n - (1 : Int32) < x3
    · rw [if_pos b3] at kg ⊢
      exact B_Md_border_22 (fun q => absurd rfl q) (fun _ => B_Md_border_25 kg)
    · rw [if_neg b3]
      clear kg
      refine B_Md_border_22 (fun _ => B_Md_border_27 hMg.1 (md_layBorders hMg hgg hzg n1 n4 (fun g2 hB h70 f2' => ?_))) (fun q => absurd q (by decide))
      have hM2 := f2'.md hMg
      have hz2 : MBz g2 gs m := fun n' a1 a4 z => by
        rw [h70, nI_eq (by omega) (by omega)] at z
        rw [← z]
        exact hB
      have F2 : Fr Wbo h g2 := (hf0.up (fun x k z => Or.inr z)).tr (f2'.up (fun x k z => Or.inl z))
      refine B_Md_border_32 hM2.1 (md_in ?_)
      rw [hB.1]
      have bl := bor_20k (gs := gs) (m := m) hg.1 n1 n4
      by_cases b2 : x2 < 0 ∨ nI (bor gs m n).length - (1 : Int32) < x2
      · rw [if_pos b2]
        have kk := k g2 hz2 F2
        unfold borR at kk
        rw [if_neg b1, if_neg b3, nI_clamp (by omega), if_pos b2] at kk
        exact B_Md_border_43 (fun q => absurd rfl q) (fun _ => B_Md_border_46 kk)
      · rw [if_neg b2]
        obtain ⟨i, hi, ei⟩ := nI_of (fun z => b3 (Or.inl z))
        obtain ⟨q, hq, eq'⟩ := nI_of (fun z => b2 (Or.inl z))
        subst ei
        subst eq'
        have il : i < n := by
          have this : ¬ (nI n - (1 : Int32) < nI i) := fun z => b3 (Or.inr z)
          rw [show (1 : Int32) = nI 1 from rfl, nI_subN (by omega), nI_ltI (by omega) hi] at this
          omega
        have ql : q < (bor gs m n).length := by
          have hb : ¬ (nI (bor gs m n).length - (1 : Int32) < nI q) := fun z => b2 (Or.inr z)
          by_cases y : (bor gs m n).length = 0
          · rw [y] at hb
            exact absurd (by rw [show nI 0 - (1 : Int32) = -1 from by decide]; exact Int32.lt_of_lt_of_le (b := 0) (by decide) (Int32.not_lt.mp (nI_pos hq))) hb
          · rw [show (1 : Int32) = nI 1 from rfl, nI_subN (by omega), nI_ltI (by omega) hq] at hb
            omega
        have gr : (bor gs m n)[q]? = some ((bor gs m n)[q]'ql) := List.getElem?_eq_getElem ql
        generalize (bor gs m n)[q]'ql = r at gr
        obtain ⟨r1, r2⟩ := bor_row (by omega) (List.mem_of_getElem? gr)
        have gx : r[i]? = some (r[i]'(by omega)) := List.getElem?_eq_getElem (by omega)
        generalize r[i]'(by omega) = x at gx
        refine B_Md_border_43 (fun _ => B_Md_border_48 hM2.1 (mr_border hM2) (ms_border hM2) (vp_in_nI (by omega) (by omega)) ?_) (fun w => absurd w (by decide))
        rw [nI_clamp (show q < 2 ^ 31 by omega), hB.2 q r gr]
        refine md_unpack hM2 r1 n4 r2 (fun g3 hI3 f3 => ?_)
        have hM3 := f3.md hM2
        refine B_Md_border_59 hM3.1 (mr_its hM3) (ms_its hM3) (vp_in_nI (by omega) (by omega)) ?_
        rw [nI_clamp (show i < 2 ^ 31 by omega), hI3 i x gx]
        have kk := k g3 (fun n' a1 a4 z => by
          rw [f3.i _ _ (by omega)] at z
          exact (hz2 n' a1 a4 z).fr f3 (fun x k z => by omega)) (F2.tr (f3.up (fun x k z => by unfold Wbo Wbz Wbm; omega)))
        unfold borR at kk
        rw [if_neg b1, if_neg b3, nI_clamp (show n < 2 ^ 31 by omega), if_neg b2, nI_clamp (show q < 2 ^ 31 by omega), nI_clamp (show i < 2 ^ 31 by omega), gD gr] at kk
        have ex : r.getD i 0 = x := by
          rw [List.getD_eq_getElem?_getD, gx]
          rfl
        rw [ex] at kk
        exact kk
