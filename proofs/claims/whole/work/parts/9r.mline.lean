/-! table on the reference's side: signs that must be, lines -/
theorem md_mustBeB {d : Nat} {h : PH} {Q : PQ} {c : Int32} (hM : MdS h) (hb : ¬ h_i h 17 19 = 0) (k : Q none h) : wpm (d + 3) 193 [.ref 17, .int c] h Q := by
  refine wpm_in P_Md_mustBe rfl (by decide) (by show ¬ 2 < 2; decide) ?_
  exact B_Md_mustBe_0 hM.1 (md_isGood hM (fun z => absurd z hb) (fun _ => B_Md_mustBe_4 (fun _ => B_Md_mustBe_20 hM.1 (md_goOnB hM hb (B_Md_mustBe_24 k))) (fun z => absurd rfl z)))
theorem md_mustBe {d : Nat} {h : PH} {Q : PQ} {B : List Nat} {q c n : Nat} {s : PSt} {a : Nat × Nat × PSt} (hM : MdS h) (hB : MBy h B) (hg : PG B h s q a) (hc : c < 256) (acc : tkK B q = 2 → B.getD q 0 = c → (stepS s (B.getD q 0)).1 = 0 ∧ (stepS s (B.getD q 0)).2.1 = n ∧ (stepS s (B.getD q 0)).2.2 = s.2) (rej : ¬ (tkK B q = 2 ∧ B.getD q 0 = c) → a.1 = (if tkK B q = 3 then 1 else 2) ∧ a.2.1 = q) (k : ∀ h', Out B a n q h' → Fr Wps h h' → Q none h') : wpm (d + 4) 193 [.ref 17, .int (nI c)] h Q := by
  refine wpm_in P_Md_mustBe rfl (by decide) (by show ¬ 2 < 2; decide) ?_
  obtain ⟨hs, ht, h19, ha, ho⟩ := hg
  refine B_Md_mustBe_0 hM.1 (md_isGood hM (fun _ => B_Md_mustBe_4 (fun z => absurd z (by decide)) (fun _ => B_Md_mustBe_7 hM.1 (md_isSign (d := d + 1) hM hB ht hc (fun z1 z2 => ?_) (fun z => ?_)))) (fun z => absurd h19 z))
  · obtain ⟨s1, s2, s3⟩ := tkK_sign z1
    obtain ⟨c1, c2, c3⟩ := acc z1 z2
    have hAN := ha.sign z1 ht.2.1 c1
    have hoS := stepS_ok ho c1
    have hs' : MPs h (stepS s (B.getD q 0)).2 := by
      obtain ⟨b1, b2, b3, b4, b5⟩ := hs
      unfold MPs
      rw [c3]
      exact ⟨b1, b2, b3, b4, b5⟩
    refine B_Md_mustBe_12 (fun _ => B_Md_mustBe_20 hM.1 (md_goOn (d := d) hM hB hs' (p := q + 1) (by rw [ht.2.2.2.1, s2]) h19 hAN hoS (fun g2 q2 hg2 hq2 hf2 => B_Md_mustBe_24 (k g2 (Or.inl ⟨_, q2, c2, by omega, hg2⟩) hf2)))) (fun z => absurd z (by decide))
  · obtain ⟨e1, e2⟩ := rej z
    refine B_Md_mustBe_12 (fun y => absurd rfl y) (fun _ => B_Md_mustBe_15 hM.1 (md_fails (d := d + 2) (e := 2) hM ht h19 (by omega) (by omega) e1 e2 (fun g hb hf => B_Md_mustBe_20 (hf.md hM).1 (md_goOnB (d := d + 1) (hf.md hM) hb.no (B_Md_mustBe_24 (k g (Or.inr hb) hf))))))
theorem row_bad {s : PSt} {l : List Nat} (h : s.1 = 2 ∨ s.1 = 4) : stepR s l = (2, s) := by
  unfold stepR
  rw [if_neg (by omega), if_neg (c := s.1 = 1) (by omega), if_neg (c := s.1 = 3) (by omega)]
  split <;> rfl
theorem rej24 {B : List Nat} {q : Nat} {s : PSt} {a : Nat × Nat × PSt} {g : PH} (ht : TKN g B q) (ha : AN B q s a) (h : s.1 = 2 ∨ s.1 = 4) (h2 : tkK B q = 2 → ¬ (stepS s (B.getD q 0)).1 = 0) : a.1 = (if tkK B q = 3 then 1 else 2) ∧ a.2.1 = q := by
  by_cases z1 : tkK B q = 1
  · have hAr := ha.row z1
    rw [row_bad h] at hAr
    obtain ⟨e1, e2⟩ := hAr.2 (by show ¬ 2 = 0; omega)
    exact ⟨by rw [if_neg (by omega)]; exact e1, e2⟩
  · exact ha.bad ht.2.1 z1 (fun _ => by omega) h2
theorem md_readLine {d : Nat} {h : PH} {Q : PQ} {B : List Nat} {q : Nat} {s : PSt} {a : Nat × Nat × PSt} (hM : MdS h) (hB : MBy h B) (hg : PG B h s q a) (h0 : s.1 = 0) (hk0 : ¬ tkK B q = 0) (k : ∀ h', Out B a 0 q h' → Fr Wps h h' → Q none h') : wpm (d + 5) 194 [.ref 17] h Q := by
  refine wpm_in P_Md_readLine rfl (by decide) (by show ¬ 1 < 1; decide) ?_
  obtain ⟨hs, ht, h19, ha, ho⟩ := hg
  -- behind a fault, from the end
  have b88 : ∀ g : PH, PB g a → Fr Wps h g → wpx (d + 4) P_Md_readLine 88 [.ref 17] [] g Q := fun g hb hf =>
    B_Md_readLine_88 (hf.md hM).1 (md_mustBeB (d := d + 1) (hf.md hM) hb.no (B_Md_readLine_94 (k g (Or.inr hb) hf)))
  have b61 : ∀ g : PH, PB g a → Fr Wps h g → wpx (d + 4) P_Md_readLine 61 [.ref 17] [] g Q := fun g hb hf =>
    B_Md_readLine_61 (hf.md hM).1 (md_isGood (hf.md hM) (fun z => absurd z hb.no) (fun _ => B_Md_readLine_65 (fun _ => b88 g hb hf) (fun z => absurd rfl z)))
  have b50 : ∀ g : PH, PB g a → Fr Wps h g → wpx (d + 4) P_Md_readLine 50 [.ref 17] [] g Q := fun g hb hf =>
    B_Md_readLine_50 (hf.md hM).1 (md_isGood (hf.md hM) (fun z => absurd z hb.no) (fun _ => B_Md_readLine_54 (fun _ => b61 g hb hf) (fun z => absurd rfl z)))
  have b44 : ∀ g : PH, PB g a → Fr Wps h g → wpx (d + 4) P_Md_readLine 44 [.ref 17] [] g Q := fun g hb hf =>
    B_Md_readLine_44 (hf.md hM).1 (md_mustBeB (d := d + 1) (hf.md hM) hb.no (b50 g hb hf))
  have b29 : ∀ g : PH, PB g a → Fr Wps h g → wpx (d + 4) P_Md_readLine 29 [.ref 17] [] g Q := fun g hb hf =>
    B_Md_readLine_29 (hf.md hM).1 (md_goOnB (d := d + 2) (hf.md hM) hb.no (B_Md_readLine_33 (hf.md hM).1 (md_isGood (hf.md hM) (fun z => absurd z hb.no) (fun _ => B_Md_readLine_37 (fun _ => b44 g hb hf) (fun z => absurd rfl z)))))
  -- behind a group
  have g61 : ∀ (e q1 : Nat) (s1 : PSt) (g : PH), B.length - q1 ≤ e → q < q1 → s1.1 = 4 → PG B g s1 q1 a → Fr Wps h g → wpx (d + 4) P_Md_readLine 61 [.ref 17] [] g Q := by
    intro e
    induction e with
    | zero =>
      intro q1 s1 g he hq hs4 hg hf
      have hM' := hf.md hM
      obtain ⟨gs1, gt1, g19, ga1, go1⟩ := hg
      have hk : tkK B q1 = 0 := by
        unfold tkK
        rw [if_pos (by omega)]
      refine B_Md_readLine_61 hM'.1 (md_isGood hM' (fun _ => B_Md_readLine_65 (fun z => absurd z (by decide)) (fun _ => B_Md_readLine_68 hM'.1 (md_isSign (d := d + 2) (c := 124) hM' (wps_by hf hB) gt1 (by omega) (fun z => by omega) (fun _ => B_Md_readLine_74 (fun _ => B_Md_readLine_88 hM'.1 ?_) (fun z => absurd rfl z))))) (fun z => absurd g19 z))
      refine md_mustBe (d := d) (c := 59) (n := 0) hM' (wps_by hf hB) ⟨gs1, gt1, g19, ga1, go1⟩ (by omega) (fun z => by omega) (fun _ => rej24 gt1 ga1 (Or.inr hs4) (fun z => by omega)) (fun g2 hout hf2 => B_Md_readLine_94 (k g2 ?_ (hf.tr hf2)))
      rcases hout with ⟨s', q', x1, x2, x3⟩ | x
      · exact Or.inl ⟨s', q', x1, by omega, x3⟩
      · exact Or.inr x
    | succ e ih =>
      intro q1 s1 g he hq hs4 hg hf
      have hM' := hf.md hM
      obtain ⟨gs1, gt1, g19, ga1, go1⟩ := hg
      refine B_Md_readLine_61 hM'.1 (md_isGood hM' (fun _ => B_Md_readLine_65 (fun z => absurd z (by decide)) (fun _ => B_Md_readLine_68 hM'.1 (md_isSign (d := d + 2) (c := 124) hM' (wps_by hf hB) gt1 (by omega) (fun z1 z2 => B_Md_readLine_74 (fun z => absurd z (by decide)) (fun _ => B_Md_readLine_77 hM'.1 ?_)) (fun z => B_Md_readLine_74 (fun _ => B_Md_readLine_88 hM'.1 ?_) (fun z => absurd rfl z))))) (fun z => absurd g19 z))
      · obtain ⟨t1, t2, t3⟩ := tkK_sign z1
        have eS : stepS s1 (B.getD q1 0) = (0, (3, s1.2)) := by
          unfold stepS
          rw [if_neg (fun u => u t3), if_neg (by omega), if_pos ⟨z2, hs4⟩]
        have hAN := ga1.sign z1 gt1.2.1 (by rw [eS])
        have hoS := stepS_ok go1 (c := B.getD q1 0) (by rw [eS])
        rw [eS] at hAN hoS
        refine md_next (d := d + 2) hM' (wps_by hf hB) (p := q1 + 1) (by rw [gt1.2.2.2.1, t2]) hAN (fun g2 q2 ht2 ha2 hq2 hf2 => B_Md_readLine_81 (hf2.md hM').1 ?_)
        have hf2' : Fr Wps g g2 := hf2.up (fun c k z => by unfold Wnx at z; unfold Wps; omega)
        have hs2 : MPs g2 (3, s1.2) := MPs.fr (s := (3, s1.2)) hf2 (fun c k z => by unfold Wnx at z; omega) gs1
        refine md_readGroup (d := d) (hf2.md hM') (wps_by (hf.tr hf2') hB) ⟨hs2, ht2, (hf2.i _ _ (fun z => by unfold Wnx at z; omega)).trans g19, ha2, hoS⟩ rfl (fun g3 hout hf3 => B_Md_readLine_85 ?_)
        rcases hout with ⟨s', q', x1, x2, x3⟩ | x
        · exact ih q' s' g3 (by omega) (by omega) x1 x3 (hf.tr (hf2'.tr hf3))
        · exact b61 g3 x (hf.tr (hf2'.tr hf3))
      · refine md_mustBe (d := d) (c := 59) (n := 0) hM' (wps_by hf hB) ⟨gs1, gt1, g19, ga1, go1⟩ (by omega) (fun z1 z2 => ?_) (fun z3 => rej24 gt1 ga1 (Or.inr hs4) (fun z1 => ?_)) (fun g2 hout hf2 => B_Md_readLine_94 (k g2 ?_ (hf.tr hf2)))
        · obtain ⟨t1, t2, t3⟩ := tkK_sign z1
          have eS : stepS s1 (B.getD q1 0) = (0, (0, s1.2)) := by
            unfold stepS
            rw [if_neg (fun u => u t3), if_neg (by omega), if_neg (by omega), if_pos ⟨z2, hs4⟩]
          rw [eS]
          exact ⟨rfl, rfl, rfl⟩
        · obtain ⟨t1, t2, t3⟩ := tkK_sign z1
          have n1 : ¬ B.getD q1 0 = 124 := fun u => z ⟨z1, u⟩
          have n2 : ¬ B.getD q1 0 = 59 := fun u => z3 ⟨z1, u⟩
          unfold stepS
          rw [if_neg (fun u => u t3), if_neg (by omega), if_neg (fun u => n1 u.1), if_neg (fun u => n2 u.1)]
          show ¬ 2 = 0
          omega
        · rcases hout with ⟨s', q', x1, x2, x3⟩ | x
          · exact Or.inl ⟨s', q', x1, by omega, x3⟩
          · exact Or.inr x
  -- behind '='
  have g50 : ∀ (q1 : Nat) (s1 : PSt) (g : PH), q < q1 → s1.1 = 3 → PG B g s1 q1 a → Fr Wps h g → wpx (d + 4) P_Md_readLine 50 [.ref 17] [] g Q := fun q1 s1 g hq hs3 hg hf => by
    have hM' := hf.md hM
    refine B_Md_readLine_50 hM'.1 (md_isGood hM' (fun _ => B_Md_readLine_54 (fun z => absurd z (by decide)) (fun _ => B_Md_readLine_57 hM'.1 (md_readGroup (d := d) hM' (wps_by hf hB) hg hs3 (fun g3 hout hf3 => ?_)))) (fun z => absurd hg.2.2.1 z))
    rcases hout with ⟨s', q', x1, x2, x3⟩ | x
    · exact g61 _ q' s' g3 (Nat.le_refl _) (by omega) x1 x3 (hf.tr hf3)
    · exact b61 g3 x (hf.tr hf3)
  -- behind a name
  have g44 : ∀ (q1 : Nat) (s1 : PSt) (g : PH), q < q1 → s1.1 = 2 → PG B g s1 q1 a → Fr Wps h g → wpx (d + 4) P_Md_readLine 44 [.ref 17] [] g Q := fun q1 s1 g hq hs2 hg hf => by
    have hM' := hf.md hM
    refine B_Md_readLine_44 hM'.1 (md_mustBe (d := d) (c := 61) (n := 3) hM' (wps_by hf hB) hg (by omega) (fun z1 z2 => ?_) (fun z3 => rej24 hg.2.1 hg.2.2.2.1 (Or.inl hs2) (fun z1 => ?_)) (fun g2 hout hf2 => ?_))
    · obtain ⟨t1, t2, t3⟩ := tkK_sign z1
      have eS : stepS s1 (B.getD q1 0) = (0, (3, s1.2)) := by
        unfold stepS
        rw [if_neg (fun u => u t3), if_pos ⟨z2, hs2⟩]
      rw [eS]
      exact ⟨rfl, rfl, rfl⟩
    · obtain ⟨t1, t2, t3⟩ := tkK_sign z1
      have n1 : ¬ B.getD q1 0 = 61 := fun u => z3 ⟨z1, u⟩
      unfold stepS
      rw [if_neg (fun u => u t3), if_neg (fun u => n1 u.1), if_neg (by omega), if_neg (by omega)]
      show ¬ 2 = 0
      omega
    · rcases hout with ⟨s', q', x1, x2, x3⟩ | x
      · exact g50 q' s' g2 (by omega) x1 x3 (hf.tr hf2)
      · exact b50 g2 x (hf.tr hf2)
  -- behind 'sound'
  have g33 : ∀ (q1 : Nat) (s1 : PSt) (g : PH), q < q1 → s1.1 = 1 → PG B g s1 q1 a → Fr Wps h g → wpx (d + 4) P_Md_readLine 33 [.ref 17] [] g Q := fun q1 s1 g hq hs1 hg hf => by
    have hM' := hf.md hM
    refine B_Md_readLine_33 hM'.1 (md_isGood hM' (fun _ => B_Md_readLine_37 (fun z => absurd z (by decide)) (fun _ => B_Md_readLine_40 hM'.1 (md_readName (d := d) hM' (wps_by hf hB) hg hs1 (fun g3 hout hf3 => ?_)))) (fun z => absurd hg.2.2.1 z))
    rcases hout with ⟨s', q', x1, x2, x3⟩ | x
    · exact g44 q' s' g3 (by omega) x1 x3 (hf.tr hf3)
    · exact b44 g3 x (hf.tr hf3)
  refine B_Md_readLine_0 hM.1 (md_isSound (d := d + 1) hM hB ht (fun z1 z2 => B_Md_readLine_4 (fun _ => B_Md_readLine_15 hM.1 (fun z => ?_) (fun z => ?_)) (fun z => absurd z (by decide))) (fun z => B_Md_readLine_4 (fun y => absurd rfl y) (fun _ => B_Md_readLine_7 hM.1 ?_)))
  · have h10 := ho.2.1
    have z' : s.2.1.length < 10 := by
      rcases Nat.lt_or_ge s.2.1.length 10 with y | y
      · exact y
      · exact absurd (by rw [hs.1, show s.2.1.length = 10 by omega]; rfl) z
    obtain ⟨r1, r2, r3⟩ := tkK_row z1
    have eR : stepR s (rowAt B q) = (0, (1, s.2)) := by
      unfold stepR
      rw [if_pos h0, if_neg (fun u => u z2), if_neg (fun u => u z')]
    have hAr := ha.row z1
    have hoS := stepR_ok ho (l := rowAt B q) rowAt_ok (by rw [rowAt_len]; omega) (by rw [eR])
    rw [eR] at hAr hoS
    have hs1 : MPs h (1, s.2) := hs
    exact B_Md_readLine_29 hM.1 (md_goOn (d := d + 1) hM hB hs1 (p := q + rlen B q) (by rw [ht.2.2.2.1, r3]) h19 (hAr.1 rfl) hoS (fun g2 q2 hg2 hq2 hf2 => g33 q2 _ g2 (by omega) rfl hg2 hf2))
  · rw [hs.1] at z
    have h10 := ho.2.1
    have z' := (nI_eq (b := 10) (by omega) (by omega)).mp z
    have eR : stepR s (rowAt B q) = (4, s) := by
      unfold stepR
      rw [if_pos h0, if_neg (fun u => u z2), if_pos (by omega)]
    have hAr := ha.row z1
    rw [eR] at hAr
    obtain ⟨e1, e2⟩ := hAr.2 (by show ¬ 4 = 0; omega)
    exact B_Md_readLine_24 hM.1 (md_fails (d := d + 3) (e := 4) hM ht h19 (by omega) (by omega) (by rw [if_neg (by omega)]; exact e1) e2 (fun g hb hf => b29 g hb hf))
  · have e12 : a.1 = (if tkK B q = 3 then 1 else 2) ∧ a.2.1 = q := by
      by_cases z1 : tkK B q = 1
      · have eR : stepR s (rowAt B q) = (2, s) := by
          unfold stepR
          rw [if_pos h0, if_pos (fun u => z ⟨z1, u⟩)]
        have hAr := ha.row z1
        rw [eR] at hAr
        obtain ⟨e1, e2⟩ := hAr.2 (by show ¬ 2 = 0; omega)
        exact ⟨by rw [if_neg (by omega)]; exact e1, e2⟩
      · refine ha.bad ht.2.1 z1 (fun y => absurd y hk0) (fun z2 => ?_)
        obtain ⟨_, _, s3⟩ := tkK_sign z2
        unfold stepS
        rw [if_neg (fun u => u s3), if_neg (by omega), if_neg (by omega), if_neg (by omega)]
        show ¬ 2 = 0
        omega
    exact md_fails (d := d + 3) (e := 2) hM ht h19 (by omega) (by omega) e12.1 e12.2 (fun g hb hf => B_Md_readLine_12 (b29 g hb hf))
