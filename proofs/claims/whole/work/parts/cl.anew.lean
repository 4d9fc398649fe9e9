/-! words on the reference's side: the first state -/
theorem st0_dg {g : PH} {N gs : List (List Nat)} {m : Nat} (hN : okN N) : DgA (w_l (w_l (w_l (w_l g 51 0 1) 51 1 0) 51 2 0) 51 3 0) 51 (stD N gs m []) := by
  refine ⟨fun q hq => ?_, fun i => stD_le i⟩
  have e0 : pq (stD N gs m []) (32 * 0) 32 = 1 := stD_pq1 hN
  by_cases q3 : q = 3
  · subst q3
    rw [stD_pq0 hN (by decide), h_l_wl, if_pos ⟨rfl, rfl⟩]
    rfl
  by_cases q2 : q = 2
  · subst q2
    rw [stD_pq0 hN (by decide), h_l_wl, if_neg (by decide), h_l_wl, if_pos ⟨rfl, rfl⟩]
    rfl
  by_cases q1 : q = 1
  · subst q1
    rw [stD_pq0 hN (by decide), h_l_wl, if_neg (by decide), h_l_wl, if_neg (by decide), h_l_wl, if_pos ⟨rfl, rfl⟩]
    rfl
  have q0 : q = 0 := by omega
  subst q0
  rw [e0, h_l_wl, if_neg (by decide), h_l_wl, if_neg (by decide), h_l_wl, if_neg (by decide), h_l_wl, if_pos ⟨rfl, rfl⟩]
  rfl
theorem md_startsAnew {d : Nat} {h : PH} {Q : PQ} {gs : List (List Nat)} {m : Nat} (hM : MdS h) (hg : MGr h gs m) (hF : h_i h 17 26 ≠ 0 → ∃ N, CNd h N gs m) (k : ∀ h' N, CNd h' N gs m → h_i h' 17 26 ≠ 0 → DgA h' 51 (stD N gs m []) → Fr (fun x k => Wnd x k ∨ x = 51) h h' → Q none h') : wpm (d + 4) 256 [.ref 17] h Q := by
  refine wpm_in P_Md_startsAnew rfl (by decide) (by show ¬ 1 < 1; decide) ?_
  refine B_Md_startsAnew_0 hM.1 (md_layNodes hM hg hF (fun g N hC h26 hf => ?_))
  have hMg := hf.md hM
  have v0 : vp_in (0 : Int32) 4 := vp_in_nI (n := 0) (by omega) (by omega)
  have v1 : vp_in (1 : Int32) 4 := vp_in_nI (n := 1) (by omega) (by omega)
  have v2 : vp_in (2 : Int32) 4 := vp_in_nI (n := 2) (by omega) (by omega)
  have v3 : vp_in (3 : Int32) 4 := vp_in_nI (n := 3) (by omega) (by omega)
  refine B_Md_startsAnew_4 hMg.1 (mr_from hMg) (ms_from hMg) v0 v1 v2 v3 ?_
  have D := st0_dg (g := g) (gs := gs) (m := m) hC.1.1
  have F1 : Fr (fun x _ => x = 51) g (w_l g 51 0 1) := Fr.wl _ _ rfl
  have F2 : Fr (fun x _ => x = 51) g (w_l (w_l g 51 0 1) 51 1 0) := F1.tr (Fr.wl _ _ rfl)
  have F3 : Fr (fun x _ => x = 51) g (w_l (w_l (w_l g 51 0 1) 51 1 0) 51 2 0) := F2.tr (Fr.wl _ _ rfl)
  have F : Fr (fun x _ => x = 51) g (w_l (w_l (w_l (w_l g 51 0 1) 51 1 0) 51 2 0) 51 3 0) := F3.tr (Fr.wl _ _ rfl)
  generalize w_l (w_l (w_l (w_l g 51 0 1) 51 1 0) 51 2 0) 51 3 0 = g' at D F ⊢
  refine k g' N (hC.fr F (fun x k z => by omega)) ?_ D ((hf.up (fun x k z => Or.inl z)).tr (F.up (fun x k z => Or.inr z)))
  rw [F.i _ _ (by omega)]
  exact h26
