/-! words on the reference's side: a new state in a layer -/
theorem LT.new {h h' : PH} {L m p j : Nat} {N gs V : List (List Nat)} {P : List Nat} {cs : Nat → Nat} {w : List Nat} (hT : LT h L N gs m V P cs) (hp : p < 16384) (hn : ¬ p ∈ P) (hj : p = (hsD (stD N gs m w) + j) % 16384) (hc : ∀ t, t < j → (hsD (stD N gs m w) + t) % 16384 ∈ P) (e50 : h_i h' 50 L = nI (P.length + 1)) (e49 : ∀ k, h_i h' 49 k = if k = 16384 * L + P.length then nI (16384 * L + p) else h_i h 49 k) (e48 : ∀ k, h_i h' 48 k = if k = 16384 * L + p then 1 else h_i h 48 k) (e47 : ∀ k, h_l h' 47 k = if k = 16384 * L + p then 0 else h_l h 47 k) (eK : KyA h' (16384 * L + p) (stD N gs m w)) (e46 : ∀ k, k / 4 ≠ 16384 * L + p → h_l h' 46 k = h_l h 46 k) : LT h' L N gs m (V ++ [w]) (P ++ [p]) (updD cs P.length 0) := by
  obtain ⟨⟨t1, t2, t3, t4⟩, t5, t6⟩ := hT
  refine ⟨⟨by rw [e50, List.length_append]; rfl, List.nodup_append.mpr ⟨t2, List.nodup_cons.mpr ⟨fun q => (by cases q), List.nodup_nil⟩, fun a ha b hb e => hn (by rw [← List.mem_singleton.mp hb, ← e]; exact ha)⟩, fun i q hq => ?_, fun q hq => ?_⟩, by rw [List.length_append, List.length_append, t5]; rfl, fun i q v hq hv => ?_⟩
  · by_cases l : i < P.length
    · rw [List.getElem?_append_left l] at hq
      rw [e49, if_neg (by omega)]
      exact t3 i q hq
    · rw [List.getElem?_append_right (by omega)] at hq
      have hi := (List.getElem?_eq_some_iff.mp hq).1
      have hi' : i - P.length < 1 := hi
      have ei : i = P.length := by omega
      rw [ei, Nat.sub_self] at hq
      have eq : p = q := Option.some.inj hq
      rw [← eq, ei, e49, if_pos rfl]
      exact ⟨hp, rfl⟩
  · rw [e48]
    by_cases y : q = p
    · rw [if_pos (by omega)]
      exact ⟨fun _ => rfl, fun z => absurd (by rw [y]; exact List.mem_append_right _ (List.mem_singleton.mpr rfl)) z⟩
    · rw [if_neg (by omega)]
      refine ⟨fun z => (t4 q hq).1 ?_, fun z => (t4 q hq).2 (fun z' => z (List.mem_append_left _ z'))⟩
      rcases List.mem_append.mp z with z | z
      · exact z
      · exact absurd (List.mem_singleton.mp z) y
  · by_cases l : i < P.length
    · rw [List.getElem?_append_left l] at hq
      rw [List.getElem?_append_left (by omega)] at hv
      obtain ⟨s1, s2, jj, s3, s4⟩ := t6 i q v hq hv
      have ne : q ≠ p := fun e => hn (by rw [← e]; exact List.mem_of_getElem? hq)
      refine ⟨fun k hk => ?_, ?_, jj, s3, fun t ht => List.mem_append_left _ (s4 t ht)⟩
      · rw [e46 _ (by omega)]
        exact s1 k hk
      · rw [e47, if_neg (by omega), updD_ne _ _ (by omega)]
        exact s2
    · rw [List.getElem?_append_right (by omega)] at hq
      have hi := (List.getElem?_eq_some_iff.mp hq).1
      have hi' : i - P.length < 1 := hi
      have ei : i = P.length := by omega
      rw [ei, Nat.sub_self] at hq
      have eq : p = q := Option.some.inj hq
      rw [List.getElem?_append_right (by omega), ei, t5, Nat.sub_self] at hv
      have ev : w = v := Option.some.inj hv
      rw [← eq, ← ev, ei, updD_at, e47, if_pos rfl]
      exact ⟨eK, rfl, j, hj, fun t ht => List.mem_append_left _ (hc t ht)⟩
