/-! words on the reference's side: a layer's words, each weighed by what is behind it -/
def SW (f : Nat → Nat) (gs : List (List Nat)) (m r : Nat) (V : List (List Nat)) (cs : Nat → Nat) : Nat := sm (fun i => cs i * cnF f gs m r (V.getD i [])) V.length
theorem sm_updD {cs g : Nat → Nat} {i a : Nat} : ∀ n, i < n → sm (fun k => updD cs i (cs i + a) k * g k) n = sm (fun k => cs k * g k) n + a * g i
  | 0, h => absurd h (by omega)
  | n + 1, h => by
    show sm (fun k => updD cs i (cs i + a) k * g k) n + updD cs i (cs i + a) n * g n = sm (fun k => cs k * g k) n + cs n * g n + a * g i
    by_cases y : i = n
    · rw [y, updD_at, Nat.add_mul]
      have e : sm (fun k => updD cs n (cs n + a) k * g k) n = sm (fun k => cs k * g k) n := sm_congr n (fun k hk => by rw [updD_ne _ _ (by omega)])
      rw [e, Nat.add_assoc]
    · rw [sm_updD n (by omega), updD_ne _ _ (fun z => y z.symm)]
      omega
theorem SW_old {f : Nat → Nat} {gs V : List (List Nat)} {m r i n : Nat} {v : List Nat} {cs : Nat → Nat} (hi : V[i]? = some v) : SW f gs m r V (updD cs i (cs i + n)) = SW f gs m r V cs + n * cnF f gs m r v := by
  have l := (List.getElem?_eq_some_iff.mp hi).1
  unfold SW
  rw [sm_updD (g := fun i => cnF f gs m r (V.getD i [])) V.length l, gD hi]
theorem SW_new {f : Nat → Nat} {gs V : List (List Nat)} {m r l n : Nat} {w : List Nat} {cs : Nat → Nat} (hl : l = V.length) : SW f gs m r (V ++ [w]) (updD (updD cs l 0) l (0 + n)) = SW f gs m r V cs + n * cnF f gs m r w := by
  have e1 : (V ++ [w]).getD l [] = w := gD (by rw [hl, List.getElem?_append_right (Nat.le_refl _), Nat.sub_self]; rfl)
  unfold SW
  rw [List.length_append]
  show sm (fun i => updD (updD cs l 0) l (0 + n) i * cnF f gs m r ((V ++ [w]).getD i [])) V.length + updD (updD cs l 0) l (0 + n) V.length * cnF f gs m r ((V ++ [w]).getD V.length []) = _
  rw [← hl, updD_at, e1, Nat.zero_add]
  congr 1
  rw [hl]
  refine sm_congr _ (fun k hk => ?_)
  rw [updD_ne _ _ (by omega), updD_ne _ _ (by omega)]
  have : (V ++ [w]).getD k [] = V.getD k [] := by
    rw [List.getD_eq_getElem?_getD, List.getD_eq_getElem?_getD, List.getElem?_append_left hk]
  rw [this]
/-- two readings or more -/
def twN (n : Nat) : Nat := if 1 < n then 1 else 0
theorem f2_tw : f2 twN := ⟨rfl, fun a b h => by
  unfold twN
  by_cases y : 1 < a
  · rw [if_pos y, if_pos (by omega)]
  · rw [if_neg y, if_neg (by omega)], fun a => by
  unfold twN
  by_cases y : 1 < a
  · rw [if_pos y]
    exact Nat.le_refl _
  · rw [if_neg y]
    exact Nat.zero_le _⟩
theorem cnF_tw {gs : List (List Nat)} {m : Nat} : ∀ n v, cnF oneN gs m n v = cnF onlyN gs m n v + cnF twN gs m n v
  | 0, v => by
    show oneN (rdc gs m v) = onlyN (rdc gs m v) + twN (rdc gs m v)
    generalize rdc gs m v = a
    unfold oneN onlyN twN
    by_cases y : a = 0
    · rw [if_pos y, if_neg (by omega), if_neg (by omega)]
    · rw [if_neg y]
      by_cases z : a = 1
      · rw [if_pos z, if_neg (by omega)]
      · rw [if_neg z, if_pos (by omega)]
  | n + 1, v => by
    show sm _ 27 = sm _ 27 + sm _ 27
    rw [← sm_add]
    exact sm_congr 27 (fun i _ => cnF_tw n _)
theorem LT.fr {W : Nat → Nat → Prop} {h h' : PH} {L m : Nat} {N gs V : List (List Nat)} {P : List Nat} {cs : Nat → Nat} (hf : Fr W h h') (hw : ∀ x k, W x k → ¬ Wly L x k) (hV : V.length ≤ 16384) (hT : LT h L N gs m V P cs) : LT h' L N gs m V P cs := by
  obtain ⟨⟨t1, t2, t3, t4⟩, t5, t6⟩ := hT
  have li : ∀ x k, Wly L x k → h_i h' x k = h_i h x k := fun x k q => hf.i x k (fun z => hw x k z q)
  have ll : ∀ x k, Wly L x k → h_l h' x k = h_l h x k := fun x k q => hf.l x k (fun z => hw x k z q)
  refine ⟨⟨(li _ _ (Or.inr (Or.inr ⟨rfl, rfl⟩))).trans t1, t2, fun i p hp => ?_, fun p hp => ?_⟩, t5, fun i p v hp hv => ?_⟩
  · have l := (List.getElem?_eq_some_iff.mp hp).1
    exact ⟨(t3 i p hp).1, (li 49 _ (Or.inr (Or.inl ⟨Or.inr (Or.inr rfl), by omega, by omega⟩))).trans (t3 i p hp).2⟩
  · rw [li 48 _ (Or.inr (Or.inl ⟨Or.inr (Or.inl rfl), by omega, by omega⟩))]
    exact t4 p hp
  · have pl := (t3 i p hp).1
    obtain ⟨s1, s2, s3⟩ := t6 i p v hp hv
    refine ⟨fun k hk => ?_, ?_, s3⟩
    · rw [ll 46 _ (Or.inl ⟨rfl, by omega, by omega⟩)]
      exact s1 k hk
    · rw [ll 47 _ (Or.inr (Or.inl ⟨Or.inl rfl, by omega, by omega⟩))]
      exact s2
theorem LTk.fr {W : Nat → Nat → Prop} {h h' : PH} {L : Nat} {P : List Nat} (hf : Fr W h h') (hw : ∀ x k, W x k → ¬ Wly L x k) (hT : LTk h L P) : LTk h' L P := by
  have hlen := hT.len
  obtain ⟨t1, t2, t3, t4⟩ := hT
  have li : ∀ x k, Wly L x k → h_i h' x k = h_i h x k := fun x k q => hf.i x k (fun z => hw x k z q)
  refine ⟨(li _ _ (Or.inr (Or.inr ⟨rfl, rfl⟩))).trans t1, t2, fun i p hp => ?_, fun p hp => ?_⟩
  · have l := (List.getElem?_eq_some_iff.mp hp).1
    exact ⟨(t3 i p hp).1, (li 49 _ (Or.inr (Or.inl ⟨Or.inr (Or.inr rfl), by omega, by omega⟩))).trans (t3 i p hp).2⟩
  · rw [li 48 _ (Or.inr (Or.inl ⟨Or.inr (Or.inl rfl), by omega, by omega⟩))]
    exact t4 p hp
/-- a layer that is empty -/
theorem LT.nil {h : PH} {L m : Nat} {N gs : List (List Nat)} (hT : LTk h L []) : LT h L N gs m [] [] (fun _ => 0) := ⟨hT, rfl, fun _ _ _ hp => by cases hp⟩
/-- the words of a layer: all of one length, with unlike states, each with a node -/
def LyW (N gs : List (List Nat)) (m l : Nat) (V : List (List Nat)) : Prop := (V.map (stD N gs m)).Nodup ∧ ∀ v ∈ V, v.length = l ∧ dpM N gs m v 7 ≠ 0
theorem LyW.add {N gs V : List (List Nat)} {m l : Nat} {w : List Nat} (h : LyW N gs m l V) (hl : w.length = l) (hd : dpM N gs m w 7 ≠ 0) (hne : ∀ v ∈ V, stD N gs m v ≠ stD N gs m w) : LyW N gs m l (V ++ [w]) := by
  refine ⟨?_, fun v hv => ?_⟩
  · rw [List.map_append, List.nodup_append]
    refine ⟨h.1, List.nodup_cons.mpr ⟨List.not_mem_nil, List.nodup_nil⟩, fun a ha b hb => ?_⟩
    obtain ⟨v, hv, e⟩ := List.mem_map.mp ha
    have e2 := List.mem_singleton.mp hb
    rw [← e, e2]
    exact hne v hv
  · rcases List.mem_append.mp hv with z | z
    · exact h.2 v z
    · rw [List.mem_singleton.mp z]
      exact ⟨hl, hd⟩
