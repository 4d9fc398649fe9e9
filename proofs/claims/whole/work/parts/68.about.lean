/-! about on both sides -/
noncomputable def bz (P : Prop) : Int32 := @ite Int32 P (Classical.propDecidable P) 1 0
theorem bz_t {P : Prop} (h : P) : bz P = 1 := if_pos h
theorem bz_f {P : Prop} (h : ¬ P) : bz P = 0 := if_neg h
noncomputable def aboL (sc : Int32) (gs : List (List Nat)) (m : Nat) (w : List Nat) (ac tp : Int32) : List Int32 := [sc, nI gs.length, nI m, unlR gs m, nI w.length, ac, tp, bz (freeP bgR gs m), bz (freeP enR gs m)]
def aboR (l : List Int32) (x : Int32) : Int32 := if x.toInt < 0 ∨ 0 + ((9 : Nat) : Int) ≤ x.toInt then -1 else l.getD (x.toInt - 0).toNat (-1)
theorem ow_about {d : Nat} {h : PH} {Q : PQ} {gs : List (List Nat)} {m : Nat} {w : List Nat} {x : Int32} (hO : OwS h) (hg : CGr h 2 gs m) (hw : CWd h w) (k : Q (some (.int (aboR (aboL (h_i h 2 4) gs m w (h_i h 2 9) (h_i h 0 1)) x))) h) : wpm (d + 4) 123 [.ref 0, .int x] h Q := by
  refine wpm_in P_Ow_about rfl (by decide) (by show ¬ 2 < 2; decide) ?_
  unfold aboR at k
  refine B_Ow_about_0 (lo := 0) (tg := [52, 60, 68, 76, 84, 92, 100, 105, 121]) (df := 137) rfl (fun z => ?_) (fun t z e => ?_)
  all_goals have hs := GrS_2 hO
  · replace z : x.toInt < 0 ∨ 0 + ((9 : Nat) : Int) ≤ x.toInt := z
    rw [if_pos z] at k
    exact B_Ow_about_137 k
  · replace z : ¬ (x.toInt < 0 ∨ 0 + ((9 : Nat) : Int) ≤ x.toInt) := z
    rw [if_neg z] at k
    generalize (x.toInt - 0).toNat = n at e k
    have hn : n < 9 := (List.getElem?_eq_some_iff.mp e).1
    have hc : n = 0 ∨ n = 1 ∨ n = 2 ∨ n = 3 ∨ n = 4 ∨ n = 5 ∨ n = 6 ∨ n = 7 ∨ n = 8 := by omega
    rcases hc with rfl | rfl | rfl | rfl | rfl | rfl | rfl | rfl | rfl
    · have et : t = 52 := (Option.some.inj e).symm
      subst et
      exact B_Ow_about_52 hO.1 (or_groups hO) (os_groups hO) k
    · have et : t = 60 := (Option.some.inj e).symm
      subst et
      refine B_Ow_about_60 hO.1 (or_groups hO) (os_groups hO) ?_
      rw [hg.2.1]
      exact k
    · have et : t = 68 := (Option.some.inj e).symm
      subst et
      refine B_Ow_about_68 hO.1 (or_groups hO) (os_groups hO) ?_
      rw [hg.2.2.1]
      exact k
    · have et : t = 76 := (Option.some.inj e).symm
      subst et
      exact B_Ow_about_76 hO.1 (or_groups hO) (os_groups hO) (gr_unlikeLetters hs hg (B_Ow_about_83 k))
    · have et : t = 84 := (Option.some.inj e).symm
      subst et
      refine B_Ow_about_84 hO.1 (or_theWord hO) (os_theWord hO) ?_
      rw [hw.2.1]
      exact k
    · have et : t = 92 := (Option.some.inj e).symm
      subst et
      exact B_Ow_about_92 hO.1 (or_groups hO) (os_groups hO) k
    · have et : t = 100 := (Option.some.inj e).symm
      subst et
      exact B_Ow_about_100 hO.1 k
    · have et : t = 105 := (Option.some.inj e).symm
      subst et
      replace k : Q (some (.int (bz (freeP bgR gs m)))) h := k
      refine B_Ow_about_105 hO.1 (or_groups hO) (os_groups hO) (gr_noneBeginsAnother hs hg (fun f => ?_) (fun f => ?_))
      · rw [bz_t f] at k
        exact B_Ow_about_112 (fun z => absurd z (by decide)) (fun _ => B_Ow_about_115 (B_Ow_about_120 k))
      · rw [bz_f f] at k
        exact B_Ow_about_112 (fun _ => B_Ow_about_119 (B_Ow_about_120 k)) (fun z => absurd rfl z)
    · have et : t = 121 := (Option.some.inj e).symm
      subst et
      replace k : Q (some (.int (bz (freeP enR gs m)))) h := k
      refine B_Ow_about_121 hO.1 (or_groups hO) (os_groups hO) (gr_noneEndsAnother hs hg (fun f => ?_) (fun f => ?_))
      · rw [bz_t f] at k
        exact B_Ow_about_128 (fun z => absurd z (by decide)) (fun _ => B_Ow_about_131 (B_Ow_about_136 k))
      · rw [bz_f f] at k
        exact B_Ow_about_128 (fun _ => B_Ow_about_135 (B_Ow_about_136 k)) (fun z => absurd rfl z)
theorem md_about {d : Nat} {h : PH} {Q : PQ} {gs : List (List Nat)} {m : Nat} {w : List Nat} {x : Int32} (hM : MdS h) (hg : MGr h gs m) (hw : MWd h w) (k : Q (some (.int (aboR (aboL (h_i h 17 5) gs m w (h_i h 17 76) (h_i h 17 12)) x))) (w_i h 17 0 0)) : wpm (d + 5) 204 [.ref 17, .int x] h Q := by
  refine wpm_in P_Md_about rfl (by decide) (by show ¬ 2 < 2; decide) ?_
  unfold aboR at k
  refine B_Md_about_0 (lo := 0) (tg := [56, 61, 66, 71, 76, 81, 86, 91, 105]) (df := 119) hM.1 rfl (fun z => ?_) (fun t z e => ?_)
  all_goals
    have hM := (th_fr h).md hM
    have hg := hg.fr (th_fr h) wth_g
    have hw := hw.fr (th_fr h) wth_w
    rw [← (th_fr h).i 17 5 (fun q => by cases q.2), ← (th_fr h).i 17 76 (fun q => by cases q.2), ← (th_fr h).i 17 12 (fun q => by cases q.2)] at k
    generalize w_i h 17 0 0 = h at k hM hg hw ⊢
  · replace z : x.toInt < 0 ∨ 0 + ((9 : Nat) : Int) ≤ x.toInt := z
    rw [if_pos z] at k
    exact B_Md_about_119 k
  · replace z : ¬ (x.toInt < 0 ∨ 0 + ((9 : Nat) : Int) ≤ x.toInt) := z
    rw [if_neg z] at k
    generalize (x.toInt - 0).toNat = n at e k
    have hn : n < 9 := (List.getElem?_eq_some_iff.mp e).1
    have hc : n = 0 ∨ n = 1 ∨ n = 2 ∨ n = 3 ∨ n = 4 ∨ n = 5 ∨ n = 6 ∨ n = 7 ∨ n = 8 := by omega
    rcases hc with rfl | rfl | rfl | rfl | rfl | rfl | rfl | rfl | rfl
    · have et : t = 56 := (Option.some.inj e).symm
      subst et
      exact B_Md_about_56 hM.1 k
    · have et : t = 61 := (Option.some.inj e).symm
      subst et
      refine B_Md_about_61 hM.1 ?_
      rw [hg.2.1]
      exact k
    · have et : t = 66 := (Option.some.inj e).symm
      subst et
      refine B_Md_about_66 hM.1 ?_
      rw [hg.2.2.1]
      exact k
    · have et : t = 71 := (Option.some.inj e).symm
      subst et
      exact B_Md_about_71 hM.1 (md_unlike hM hg (B_Md_about_75 k))
    · have et : t = 76 := (Option.some.inj e).symm
      subst et
      refine B_Md_about_76 hM.1 ?_
      rw [hw.2.1]
      exact k
    · have et : t = 81 := (Option.some.inj e).symm
      subst et
      exact B_Md_about_81 hM.1 k
    · have et : t = 86 := (Option.some.inj e).symm
      subst et
      exact B_Md_about_86 hM.1 k
    · have et : t = 91 := (Option.some.inj e).symm
      subst et
      replace k : Q (some (.int (bz (freeP bgR gs m)))) h := k
      refine B_Md_about_91 hM.1 (md_isFree_b hM hg (fun f => ?_) (fun f => ?_))
      · rw [bz_t f] at k
        exact B_Md_about_96 (fun z => absurd z (by decide)) (fun _ => B_Md_about_99 (B_Md_about_104 k))
      · rw [bz_f f] at k
        exact B_Md_about_96 (fun _ => B_Md_about_103 (B_Md_about_104 k)) (fun z => absurd rfl z)
    · have et : t = 105 := (Option.some.inj e).symm
      subst et
      replace k : Q (some (.int (bz (freeP enR gs m)))) h := k
      refine B_Md_about_105 hM.1 (md_isFree_e hM hg (fun f => ?_) (fun f => ?_))
      · rw [bz_t f] at k
        exact B_Md_about_110 (fun z => absurd z (by decide)) (fun _ => B_Md_about_113 (B_Md_about_118 k))
      · rw [bz_f f] at k
        exact B_Md_about_110 (fun _ => B_Md_about_117 (B_Md_about_118 k)) (fun z => absurd rfl z)
