/-! the law's run over the invariant: the start, all calls, THE CLAIM out of the bound -/
theorem ops_all (hB : HBnd) {L : Nat} {xs : Nat → Int32} : Ops (Inv L xs) 20 := fun n hn =>
  ⟨fun a b c d e => op_feed a b c d e, fun a => op_end a, op_table hn, fun a => op_fault a, fun a b => op_group a b, fun a => op_about a, fun a b => op_meets a b, op_parts hn, fun a => op_tails a hn, fun a b c => op_tail a b c hn, op_doubt hn, op_witness hB hn, op_look hn, fun a => op_share a, op_word, fun a => op_letter a, op_readings, fun a b => op_reading a b, op_sounds, fun a => op_reads a, fun a b => op_took a b, fun a => op_fool a, op_goes, fun a b c d => op_spell a b c d, fun a b => op_drawn a b, fun a b => op_words a b hn, fun a b => op_nth a b hn, op_place hn, fun a => op_borders a hn, fun a b c => op_border a b c hn, fun a => op_cure a hn, fun a => op_mend a hn, fun a b _ => op_out a b hn, op_undo hn⟩
theorem rest_0 {h : PH} (er : ∀ f, f ∈ [5, 6, 7, 8, 9, 10, 11, 12] → h_r h 0 f = none) : 64 * (63 + restC h) ≤ 64 * 400 + 8 * (64 + 256 + 256) + 64 ∧ 387407 + restS h ≤ 420000 + (51 * 64 + 2 * 256 + 4 * 256) + 2 * 64 := by
  unfold restC restS rcf rsf
  rw [if_pos (er 5 (by decide)), if_pos (er 6 (by decide)), if_pos (er 7 (by decide)), if_pos (er 8 (by decide)), if_pos (er 9 (by decide)), if_pos (er 10 (by decide)), if_pos (er 11 (by decide)), if_pos (er 12 (by decide))]
  rw [if_pos (er 5 (by decide)), if_pos (er 6 (by decide)), if_pos (er 7 (by decide)), if_pos (er 8 (by decide)), if_pos (er 9 (by decide)), if_pos (er 10 (by decide)), if_pos (er 11 (by decide)), if_pos (er 12 (by decide))]
  exact ⟨by decide +kernel, by decide +kernel⟩
theorem inv_0 {L : Nat} {xs : Nat → Int32} {h : PH} (s : Start L xs h) : Inv L xs 0 h := by
  have e0 : ∀ c k, ¬ (c = 17 ∧ k = 18) → ¬ (c = 8 ∧ k = 8) → h_i h c k = 0 := fun c k a b => by
    rw [s.2.2.2.2.2.1 c k, E_md_eq, if_neg a, if_neg b]
  have er : ∀ f, f ∈ [5, 6, 7, 8, 9, 10, 11, 12] → h_r h 0 f = none := fun f hf => (s.2.2.2.2.1 0 f).trans (lazy_none f hf)
  have no : ∀ f, f ∈ [5, 6, 7, 8, 9, 10, 11, 12] → ∀ c, ¬ h_r h 0 f = some c := fun f hf c e => by
    rw [er f hf] at e
    cases e
  have og : okg [] 0 := ⟨by decide, by decide, fun l hl => (by cases hl)⟩
  have hu : unlD [] := ⟨fun i j hi => absurd hi (Nat.not_lt_zero _), fun l hl => (by cases hl)⟩
  refine ⟨s.2.2.1, by rw [s.1]; decide, [], [], 0, fun _ => 0, 0, -1, 0, [], [], 0, fun _ => 0, 64, 256, 256, 0, 64, ?_, ?_, ?_, ?_, ⟨fun f => ?_, fun f g x _ a => ?_⟩, ?_, ?_⟩
  · exact ⟨OwS_start s, ctp_nil (e0 0 1 (by omega) (by omega)), ⟨og, e0 2 3 (by omega) (by omega), e0 2 5 (by omega) (by omega), fun k l e => (by cases e)⟩, fun k hk => absurd hk (Nat.not_lt_zero _), ⟨e0 8 7 (by omega) (by omega), (s.2.2.2.2.2.1 8 8).trans (E_md_eq 8 8), e0 2 4 (by omega) (by omega)⟩, ⟨⟨by decide, fun x hx => (by cases hx)⟩, e0 13 1 (by omega) (by omega), fun k x e => (by cases e)⟩, ⟨e0 2 9 (by omega) (by omega), by decide, fun k x e => (by cases e)⟩, e0 2 6 (by omega) (by omega)⟩
  · exact ⟨MdS_start s, mtp_nil (e0 17 12 (by omega) (by omega)), ⟨og, e0 17 4 (by omega) (by omega), e0 17 6 (by omega) (by omega), fun k l e => (by cases e)⟩, fun k hk => absurd hk (Nat.not_lt_zero _), ⟨e0 17 17 (by omega) (by omega), (s.2.2.2.2.2.1 17 18).trans (E_md_eq 17 18), e0 17 5 (by omega) (by omega)⟩, mkp_nil (e0 17 76 (by omega) (by omega))⟩
  · exact ⟨⟨by decide, fun x hx => (by cases hx)⟩, e0 17 24 (by omega) (by omega), fun k x e => (by cases e)⟩
  · have ly : ∀ l, LTk h l [] := fun l => ⟨e0 50 l (by omega) (by omega), List.nodup_nil, fun i p e => (by cases e), fun p _ => ⟨fun q => (by cases q), fun _ => e0 48 _ (by omega) (by omega)⟩⟩
    exact ⟨fun q => absurd (e0 17 25 (by omega) (by omega)) q, fun q => absurd (e0 17 26 (by omega) (by omega)) q, fun n n1 n4 q => by
      rw [e0 17 70 (by omega) (by omega), show (0 : Int32) = nI 0 from rfl, nI_eq (by omega) (by omega)] at q
      omega, ⟨[], ly 0⟩, ⟨[], ly 1⟩⟩
  · exact ⟨fun e c hc => by subst e; exact absurd hc (no 5 (by decide) c), fun e c hc => by subst e; exact absurd hc (no 6 (by decide) c), fun e c hc => by subst e; exact absurd hc (no 7 (by decide) c), fun e c hc => by subst e; exact absurd hc (no 8 (by decide) c), fun e c hc => by subst e; exact absurd hc (no 9 (by decide) c), fun e => ⟨⟨⟨0, by decide, rfl⟩, ⟨8, by decide, by decide, rfl⟩, ⟨0, by decide, rfl⟩⟩, fun _ => ⟨rfl, rfl, rfl⟩, fun c hc => absurd hc (no 10 (by decide) c)⟩, fun e => ⟨⟨0, by decide, rfl⟩, fun _ => rfl, fun c hc => absurd hc (no 11 (by decide) c)⟩, fun e c hc => absurd hc (no 12 (by decide) c)⟩
  · exfalso
    obtain ⟨c, e, q⟩ := a
    have hf : f ∈ [5, 6, 7, 8, 9, 10, 11, 12] := by
      have : f = 5 ∨ f = 6 ∨ f = 7 ∨ f = 8 ∨ f = 9 ∨ f = 10 ∨ f = 11 ∨ f = 12 := by omega
      rcases this with e | e | e | e | e | e | e | e <;> subst e <;> decide
    exact no f hf c e
  · unfold Rm
    rw [s.1, s.2.1]
    exact rest_0 er
  · exact ⟨okt_nil, hu, True.intro, by decide, by decide, Nat.le_refl _, Bd.short hu (by decide)⟩
/-- THE CLAIM but for the bound -/
theorem law_of (hB : HBnd) : LawRuns := law_runs Inv 18 (by decide) (fun _ _ _ _ s => inv_0 s) (fun _ _ _ _ i => i.base) (fun _ _ _ _ _ i => i.room) (fun _ _ _ _ i => i.up) (fun _ _ _ => ops_all hB)
