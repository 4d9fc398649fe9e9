/-! the tape holds bytes; how the row of acts goes on -/
theorem okt_b4 (a : Int32) : okt (b4 a) := fun v hv => by
  unfold b4 at hv
  have key : ∀ s : Int32, ∃ n, n < 256 ∧ TB a s = nI n := fun s => and255 _
  rcases List.mem_cons.mp hv with q | hv
  · rw [q]; exact key 24
  rcases List.mem_cons.mp hv with q | hv
  · rw [q]; exact key 16
  rcases List.mem_cons.mp hv with q | hv
  · rw [q]; exact key 8
  rcases List.mem_cons.mp hv with q | hv
  · rw [q]; exact key 0
  cases hv
theorem okt_app {l l' : List Int32} (h : okt l) (h' : okt l') : okt (l ++ l') := fun v hv => (List.mem_append.mp hv).elim (h v) (h' v)
theorem okt_feed {tp : List Int32} (h : okt tp) (a b c d e : Int32) : okt (feedT tp a b c d e) := by
  unfold feedT
  split
  · exact okt_app (okt_app (okt_app (okt_app (okt_app h (okt_b4 a)) (okt_b4 b)) (okt_b4 c)) (okt_b4 d)) (okt_b4 e)
  · exact h
theorem okt_end {tp : List Int32} (h : okt tp) (n : Int32) : okt (endT tp n) := by
  unfold endT
  split
  · exact h
  · exact fun v hv => h v (List.mem_of_mem_take hv)
theorem acL_snoc (L : List Act) (a : Act) : acL (L ++ [a]) = (a.1, nI a.2.1) :: acL L := by
  unfold acL
  rw [List.map_append, List.reverse_append]
  rfl
theorem snL_snoc (L : List Act) (a : Act) : snL (L ++ [a]) = (a.2.2.1, a.2.2.2) :: snL L := by
  unfold snL
  rw [List.map_append, List.reverse_append]
  rfl
theorem acd_take {L : List Act} (h : L.length ≤ 12) : acd (acL L) = acL (L.take 11) := by
  unfold acd
  rw [kp_len.1]
  by_cases e : L.length = 12
  · rw [if_pos e]
    rcases nil_or_last L with q | ⟨L', a, rfl⟩
    · rw [q] at e; cases e
    · have h11 : L'.length = 11 := by rw [List.length_append] at e; have : [a].length = 1 := rfl; omega
      rw [acL_snoc, List.take_left' h11]
      rfl
  · rw [if_neg e, List.take_of_length_le (by omega)]
theorem kpd_take {L : List Act} (h : L.length ≤ 12) : kpd (snL L) = snL (L.take 11) := by
  unfold kpd
  rw [kp_len.2]
  by_cases e : L.length = 12
  · rw [if_pos e]
    rcases nil_or_last L with q | ⟨L', a, rfl⟩
    · rw [q] at e; cases e
    · have h11 : L'.length = 11 := by rw [List.length_append] at e; have : [a].length = 1 := rfl; omega
      rw [snL_snoc, List.take_left' h11]
      rfl
  · rw [if_neg e, List.take_of_length_le (by omega)]
theorem Chn.take : ∀ {L : List Act} {gs : List (List Nat)} {m : Nat} (n : Nat), Chn gs m L → Chn gs m (L.take n)
  | [], gs, m, n, _ => by rw [List.take_nil]; exact True.intro
  | (x, s, g0, m0) :: r, gs, m, 0, _ => True.intro
  | (x, s, g0, m0) :: r, gs, m, n + 1, h => ⟨h.1, h.2.1, h.2.2.1, Chn.take n h.2.2.2⟩
/-- the row of acts when a group was left out or taken in again -/
theorem Chn.out {L : List Act} {gs : List (List Nat)} {m k : Nat} (ho : okg gs m) (hk : k < gs.length) (h : Chn gs m L) : Chn gs (m ^^^ 2 ^ k) ((2, 2 ^ k, gs, m) :: L.take 11) := ⟨ho, Nat.pow_lt_pow_right (by decide) hk, Or.inl ⟨rfl, rfl, rfl⟩, h.take 11⟩
/-- the row of acts when groups were marked -/
theorem Chn.mark {L : List Act} {gs : List (List Nat)} {m s : Nat} {x : Int32} (ho : okg gs m) (hs : s < 2 ^ gs.length) (hx : ¬ x = 2) (h7 : ∀ t l, gs[t]? = some l → inm s t → l.length < 7) (h : Chn gs m L) : Chn (mkg x s gs) m ((x, s, gs, m) :: L.take 11) := ⟨ho, hs, Or.inr ⟨hx, rfl, rfl, h7⟩, h.take 11⟩
