/-! words on the reference's side: at most 10192 states whose deepest node has 6 letters or fewer -/
noncomputable def kyM (N gs : List (List Nat)) (m : Nat) (v : List Nat) : Nat := nix N (lsD v (dpM N gs m v 7)) * 16384 + pq (fun e => dR gs m v (lsD v (e + 1))) 0 (dpM N gs m v 7)
theorem kyM_inj {N gs : List (List Nat)} {m : Nat} {v v' : List Nat} (ho : okg gs m) (hu : unlk gs) (hN : okN N) (hm : ∀ x, x ∈ N ↔ x = [] ∨ isI gs m x ∨ isG gs m x) (h1 : dpM N gs m v 7 ≠ 0) (h2 : dpM N gs m v' 7 ≠ 0) (h : kyM N gs m v = kyM N gs m v') : stD N gs m v = stD N gs m v' := by
  obtain ⟨a1, a2, _⟩ := dpM_is (N := N) (gs := gs) (m := m) (v := v) 7
  obtain ⟨b1, b2, _⟩ := dpM_is (N := N) (gs := gs) (m := m) (v := v') 7
  have a4 := a2 h1
  have b4 := b2 h2
  have pw : ∀ d, d ≤ 7 → 4 ^ d ≤ 16384 := by decide
  have l1 := pq_lt (D := fun e => dR gs m v (lsD v (e + 1))) (o := 0) (dpM N gs m v 7) (fun i _ => by have := dR_le (gs := gs) (m := m) v (lsD v (0 + i + 1)); show dR gs m v (lsD v (0 + i + 1)) < 4; omega)
  have l2 := pq_lt (D := fun e => dR gs m v' (lsD v' (e + 1))) (o := 0) (dpM N gs m v' 7) (fun i _ => by have := dR_le (gs := gs) (m := m) v' (lsD v' (0 + i + 1)); show dR gs m v' (lsD v' (0 + i + 1)) < 4; omega)
  have p1 := pw _ a1
  have p2 := pw _ b1
  unfold kyM at h
  generalize hp : pq (fun e => dR gs m v (lsD v (e + 1))) 0 (dpM N gs m v 7) = x at h l1
  generalize hq : pq (fun e => dR gs m v' (lsD v' (e + 1))) 0 (dpM N gs m v' 7) = y at h l2
  have e1 : nix N (lsD v (dpM N gs m v 7)) = nix N (lsD v' (dpM N gs m v' 7)) := by omega
  have e2 : x = y := by omega
  have e3 : lsD v (dpM N gs m v 7) = lsD v' (dpM N gs m v' 7) := by
    have g1 := nix_get a4.2.1
    have g2 := nix_get b4.2.1
    rw [e1, g2] at g1
    exact (Option.some.inj g1).symm
  have e4 : dpM N gs m v' 7 = dpM N gs m v 7 := by
    have := congrArg List.length e3
    rw [lsD_len a4.1, lsD_len b4.1] at this
    exact this.symm
  rw [e4] at e3 hq
  refine stD_same ho hu hN hm (Nat.pos_of_ne_zero h1) rfl e4 e3 (fun e he => ?_)
  have f1 := pq_dig (D := fun e => dR gs m v (lsD v (e + 1))) (o := 0) he (fun i _ => by have := dR_le (gs := gs) (m := m) v (lsD v (0 + i + 1)); show dR gs m v (lsD v (0 + i + 1)) < 4; omega)
  have f2 := pq_dig (D := fun e => dR gs m v' (lsD v' (e + 1))) (o := 0) he (fun i _ => by have := dR_le (gs := gs) (m := m) v' (lsD v' (0 + i + 1)); show dR gs m v' (lsD v' (0 + i + 1)) < 4; omega)
  rw [hp, e2] at f1
  rw [hq] at f2
  have f3 := f1.symm.trans f2
  simp only [Nat.zero_add] at f3
  exact f3
def candM (N gs : List (List Nat)) : List Nat := (List.range 14).flatMap (fun g => (List.range 6).flatMap (fun j => (dlT j).map (fun s => nix N ((gs.getD g []).take (j + 1)) * 16384 + s)))
theorem candM_len (N gs : List (List Nat)) : (candM N gs).length = 10192 := by
  unfold candM
  have e : ∀ g : Nat, ((List.range 6).flatMap (fun j => (dlT j).map (fun s => nix N ((gs.getD g []).take (j + 1)) * 16384 + s))).length = 728 := fun g => by
    rw [List.length_flatMap]
    have e2 : (List.map (fun j => ((dlT j).map (fun s => nix N ((gs.getD g []).take (j + 1)) * 16384 + s)).length) (List.range 6)) = List.map (fun j => (dlT j).length) (List.range 6) := List.map_congr_left (fun j _ => List.length_map ..)
    rw [e2]
    decide +kernel
  rw [List.length_flatMap, List.map_congr_left (fun g _ => e g)]
  decide +kernel
theorem kyM_cand {N gs : List (List Nat)} {m : Nat} {v : List Nat} (ho : okg gs m) (hm : ∀ x, x ∈ N ↔ x = [] ∨ isI gs m x ∨ isG gs m x) (h1 : dpM N gs m v 7 ≠ 0) (h6 : dpM N gs m v 7 ≤ 6) : kyM N gs m v ∈ candM N gs := by
  obtain ⟨a1, a2, _⟩ := dpM_is (N := N) (gs := gs) (m := m) (v := v) 7
  have a4 := a2 h1
  unfold kyM
  generalize dpM N gs m v 7 = d at h1 h6 a4 ⊢
  have ll := lsD_len a4.1
  have hX : ∃ g, g < 14 ∧ lsD v d = (gs.getD g []).take d := by
    rcases (hm _).mp a4.2.1 with e | ⟨l, ⟨k, gk, _⟩, j, hj, e⟩ | ⟨k, gk, _⟩
    · rw [e] at ll
      exact absurd ll.symm h1
    · refine ⟨k, (ho.at gk).2.2, ?_⟩
      rw [gD gk]
      have l2 := congrArg List.length e
      rw [List.length_take, ll] at l2
      rw [show d = j by omega] at e ⊢
      exact e
    · refine ⟨k, (ho.at gk).2.2, ?_⟩
      rw [gD gk]
      exact (List.take_of_length_le (by omega)).symm
  obtain ⟨g, g1, g2⟩ := hX
  obtain ⟨j, rfl⟩ : ∃ j, d = j + 1 := ⟨d - 1, by omega⟩
  refine List.mem_flatMap.mpr ⟨g, List.mem_range.mpr g1, List.mem_flatMap.mpr ⟨j, List.mem_range.mpr (by omega), List.mem_map.mpr ⟨sm (fun e => dR gs m v (lsD v (e + 1)) * 4 ^ e) (j + 1), ?_, ?_⟩⟩⟩
  · exact dlT_mem (f := fun e => dR gs m v (lsD v (e + 1))) (fun d _ => dR_le v _) a4.2.2 (dR_le v _)
  · rw [← g2]
    congr 1
    unfold pq
    refine sm_congr _ (fun k _ => ?_)
    show _ = dR gs m v (lsD v (0 + k + 1)) * 4 ^ k
    rw [Nat.zero_add]
theorem few6 {N gs : List (List Nat)} {m : Nat} {V : List (List Nat)} (ho : okg gs m) (hu : unlk gs) (hN : okN N) (hm : ∀ x, x ∈ N ↔ x = [] ∨ isI gs m x ∨ isG gs m x) (hn : (V.map (stD N gs m)).Nodup) (h0 : ∀ v ∈ V, dpM N gs m v 7 ≠ 0 ∧ dpM N gs m v 7 ≤ 6) : V.length ≤ 10192 := by
  have hk : (V.map (kyM N gs m)).Nodup := by
    have h1 : V.Pairwise (fun a b => stD N gs m a ≠ stD N gs m b) := List.pairwise_map.mp hn
    refine List.pairwise_map.mpr (h1.imp_of_mem (fun {a b} ha hb hne e => hne ?_))
    exact kyM_inj ho hu hN hm (h0 a ha).1 (h0 b hb).1 e
  have h1 : V.map (kyM N gs m) ⊆ candM N gs := fun x y => by
    obtain ⟨q, hq, e⟩ := List.mem_map.mp y
    rw [← e]
    exact kyM_cand ho hm (h0 q hq).1 (h0 q hq).2
  have h2 := hk.length_le_of_subset h1
  rw [candM_len, List.length_map] at h2
  exact h2
