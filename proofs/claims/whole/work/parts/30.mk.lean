/-! constructors: fields' arrays made, numbers set -/
abbrev MkI : Type := Nat × ((Nat × Nat) ⊕ Int32)
def mk1 (h : PH) (o : Nat) (i : MkI) : PH := match i.2 with
  | .inl q => w_r (h_new h q q.2) o i.1 (some (h_ct h))
  | .inr v => w_i h o i.1 v
def mkO (h : PH) (o : Nat) : List MkI → PH
  | [] => h
  | i :: r => mkO (mk1 h o i) o r
def isA (i : MkI) : Bool := match i.2 with
  | .inl _ => true
  | .inr _ => false
def nA (L : List MkI) : Nat := (L.filter isA).length
def slI (i : MkI) : Nat := match i.2 with
  | .inl q => q.2
  | .inr _ => 0
def nS : List MkI → Nat
  | [] => 0
  | i :: r => slI i + nS r
/-- a cell that is as it was -/
def Same (h h' : PH) (c : Nat) : Prop := h_sh h' c = h_sh h c ∧ h_i h' c = h_i h c ∧ h_l h' c = h_l h c ∧ h_r h' c = h_r h c
theorem Same.rf (h : PH) (c : Nat) : Same h h c := ⟨rfl, rfl, rfl, rfl⟩
theorem Same.tr {h h1 h2 : PH} {c : Nat} (a : Same h h1 c) (b : Same h1 h2 c) : Same h h2 c := ⟨b.1.trans a.1, b.2.1.trans a.2.1, b.2.2.1.trans a.2.2.1, b.2.2.2.trans a.2.2.2⟩
theorem Same.new {h : PH} {q : Nat × Nat} {m c : Nat} (hc : c < h_ct h) : Same h (h_new h q m) c := by
  have hne : c ≠ h_ct h := Nat.ne_of_lt hc
  refine ⟨?_, upr_ne _ _ hne, upr_ne _ _ hne, upr_ne _ _ hne⟩
  show (if c = h_ct h then some q else h_sh h c) = _
  rw [if_neg hne]
theorem Same.wr {h : PH} {o f c : Nat} {v : Option Nat} (hc : c ≠ o) : Same h (w_r h o f v) c := ⟨rfl, rfl, rfl, up2_ne _ _ _ hc⟩
theorem Same.wi {h : PH} {o f c : Nat} {v : Int32} (hc : c ≠ o) : Same h (w_i h o f v) c := ⟨rfl, up2_ne _ _ _ hc, rfl, rfl⟩
theorem Same.wl {h : PH} {o f c : Nat} {v : Int64} (hc : c ≠ o) : Same h (w_l h o f v) c := ⟨rfl, rfl, up2_ne _ _ _ hc, rfl⟩
theorem sh_new_lt {h : PH} {q : Nat × Nat} {m c : Nat} (hc : c < h_ct h) : h_sh (h_new h q m) c = h_sh h c := (Same.new hc).1
theorem sh_new_eq (h : PH) (q : Nat × Nat) (m : Nat) : h_sh (h_new h q m) (h_ct h) = some q := if_pos rfl
theorem i_new_eq (h : PH) (q : Nat × Nat) (m k : Nat) : h_i (h_new h q m) (h_ct h) k = 0 := congrFun (upr_row _ _ _) k
theorem l_new_eq (h : PH) (q : Nat × Nat) (m k : Nat) : h_l (h_new h q m) (h_ct h) k = 0 := congrFun (upr_row _ _ _) k
theorem r_new_eq (h : PH) (q : Nat × Nat) (m k : Nat) : h_r (h_new h q m) (h_ct h) k = none := congrFun (upr_row _ _ _) k
theorem mk1_ct (h : PH) (o : Nat) (i : MkI) : h_ct (mk1 h o i) = h_ct h + nA [i] := by
  obtain ⟨f, q | v⟩ := i <;> rfl
theorem mk1_sl (h : PH) (o : Nat) (i : MkI) : h_sl (mk1 h o i) = h_sl h + slI i := by
  obtain ⟨f, q | v⟩ := i <;> rfl
theorem mk1_sc (h : PH) (o : Nat) (i : MkI) : h_sc (mk1 h o i) = h_sc h := by
  obtain ⟨f, q | v⟩ := i <;> rfl
theorem nA_cons (i : MkI) (L : List MkI) : nA (i :: L) = nA [i] + nA L := by
  simp only [nA, List.filter_cons, List.filter_nil]
  split <;> simp <;> omega
theorem mkO_ct (o : Nat) : ∀ (L : List MkI) (h : PH), h_ct (mkO h o L) = h_ct h + nA L
  | [], h => rfl
  | i :: r, h => by
    rw [nA_cons, ← Nat.add_assoc, ← mk1_ct h o i]
    exact mkO_ct o r _
theorem mkO_sl (o : Nat) : ∀ (L : List MkI) (h : PH), h_sl (mkO h o L) = h_sl h + nS L
  | [], h => rfl
  | i :: r, h => by
    show h_sl (mkO (mk1 h o i) o r) = _
    rw [mkO_sl o r, mk1_sl]
    simp only [nS]
    omega
theorem mkO_sc (o : Nat) : ∀ (L : List MkI) (h : PH), h_sc (mkO h o L) = h_sc h
  | [], h => rfl
  | i :: r, h => (mkO_sc o r _).trans (mk1_sc h o i)
theorem mk1_same {h : PH} {o c : Nat} {i : MkI} (hc : c < h_ct h) (ho : c ≠ o) : Same h (mk1 h o i) c := by
  obtain ⟨f, q | v⟩ := i
  · exact (Same.new hc).tr (Same.wr ho)
  · exact Same.wi ho
theorem mkO_same {o c : Nat} (ho : c ≠ o) : ∀ (L : List MkI) (h : PH), c < h_ct h → Same h (mkO h o L) c
  | [], h, _ => Same.rf h c
  | i :: r, h, hc => (mk1_same hc ho).tr (mkO_same ho r _ (by rw [mk1_ct]; omega))
/-- the object's own cell: its shape, its longs; fields that aren't named -/
theorem mk1_own {h : PH} {o : Nat} {i : MkI} (ho : o < h_ct h) : h_sh (mk1 h o i) o = h_sh h o ∧ h_l (mk1 h o i) o = h_l h o ∧ (∀ k, k ≠ i.1 → h_i (mk1 h o i) o k = h_i h o k ∧ h_r (mk1 h o i) o k = h_r h o k) := by
  obtain ⟨f, q | v⟩ := i
  · have e := Same.new (q := q) (m := q.2) ho
    refine ⟨e.1, e.2.2.1, fun k hk => ⟨congrFun e.2.1 k, ?_⟩⟩
    show up2 _ _ _ _ o k = _
    rw [up2_row]
    show (if k = f then _ else _) = _
    rw [if_neg hk]
    exact congrFun e.2.2.2 k
  · refine ⟨rfl, rfl, fun k hk => ⟨?_, rfl⟩⟩
    show up2 _ _ _ _ o k = _
    rw [up2_row]
    exact if_neg hk
theorem mkO_own {o : Nat} : ∀ (L : List MkI) (h : PH), o < h_ct h → h_sh (mkO h o L) o = h_sh h o ∧ h_l (mkO h o L) o = h_l h o ∧ (∀ k, k ∉ L.map (·.1) → h_i (mkO h o L) o k = h_i h o k ∧ h_r (mkO h o L) o k = h_r h o k)
  | [], h, _ => ⟨rfl, rfl, fun _ _ => ⟨rfl, rfl⟩⟩
  | i :: r, h, ho => by
    obtain ⟨a1, a2, a3⟩ := mk1_own (i := i) ho
    obtain ⟨b1, b2, b3⟩ := mkO_own (o := o) r (mk1 h o i) (by rw [mk1_ct]; omega)
    refine ⟨b1.trans a1, b2.trans a2, fun k hk => ?_⟩
    simp only [List.map_cons, List.mem_cons, not_or] at hk
    exact ⟨(b3 k hk.2).1.trans (a3 k hk.1).1, (b3 k hk.2).2.trans (a3 k hk.1).2⟩
/-- an array that a field got -/
theorem mkO_arr {o : Nat} (pre : List MkI) (f : Nat) (q : Nat × Nat) (post : List MkI) (h : PH) (ho : o < h_ct h) (hf : f ∉ post.map (·.1)) :
    h_r (mkO h o (pre ++ (f, .inl q) :: post)) o f = some (h_ct h + nA pre) ∧ h_sh (mkO h o (pre ++ (f, .inl q) :: post)) (h_ct h + nA pre) = some q ∧ (∀ k, h_i (mkO h o (pre ++ (f, .inl q) :: post)) (h_ct h + nA pre) k = 0) ∧ (∀ k, h_l (mkO h o (pre ++ (f, .inl q) :: post)) (h_ct h + nA pre) k = 0) := by
  induction pre generalizing h with
  | nil =>
    show h_r (mkO (mk1 h o (f, .inl q)) o post) o f = _ ∧ h_sh (mkO (mk1 h o (f, .inl q)) o post) _ = _ ∧ (∀ k, h_i (mkO (mk1 h o (f, .inl q)) o post) _ k = _) ∧ (∀ k, h_l (mkO (mk1 h o (f, .inl q)) o post) _ k = _)
    have hn : nA ([] : List MkI) = 0 := rfl
    rw [hn, Nat.add_zero]
    have ho' : o < h_ct (mk1 h o (f, .inl q)) := by rw [mk1_ct]; omega
    have s := mkO_same (o := o) (c := h_ct h) (by omega) post (mk1 h o (f, .inl q)) (by rw [mk1_ct]; exact Nat.lt_succ_self _)
    refine ⟨?_, ?_, fun k => ?_, fun k => ?_⟩
    · rw [((mkO_own post _ ho').2.2 f hf).2]
      show up2 _ _ _ _ o f = _
      rw [up2_row]
      exact if_pos rfl
    · rw [s.1]
      exact sh_new_eq h q q.2
    · rw [s.2.1]
      exact i_new_eq h q q.2 k
    · rw [s.2.2.1]
      exact l_new_eq h q q.2 k
  | cons i pre ih =>
    have := ih (mk1 h o i) (by rw [mk1_ct]; omega)
    rw [mk1_ct, Nat.add_assoc, ← nA_cons] at this
    exact this
theorem sh_mkO_new {h : PH} {o : Nat} {L : List MkI} {q : Nat × Nat} {m : Nat} (ho : o < h_ct h) : h_sh (h_new (mkO h o L) q m) o = h_sh h o :=
  (sh_new_lt (by rw [mkO_ct]; omega)).trans (mkO_own L h ho).1
theorem sh_mkO {h : PH} {o : Nat} {L : List MkI} (ho : o < h_ct h) : h_sh (mkO h o L) o = h_sh h o := (mkO_own L h ho).1
/-- a number that a field got -/
theorem mkO_num {o : Nat} (pre : List MkI) (f : Nat) (v : Int32) (post : List MkI) (h : PH) (ho : o < h_ct h) (hf : f ∉ post.map (·.1)) : h_i (mkO h o (pre ++ (f, .inr v) :: post)) o f = v := by
  induction pre generalizing h with
  | nil =>
    show h_i (mkO (mk1 h o (f, .inr v)) o post) o f = _
    rw [((mkO_own post _ (show o < h_ct (mk1 h o (f, .inr v)) by rw [mk1_ct]; omega)).2.2 f hf).1]
    show up2 _ _ _ _ o f = _
    rw [up2_row]
    exact if_pos rfl
  | cons i pre ih => exact ih (mk1 h o i) (by rw [mk1_ct]; omega)
theorem lt_mkO {h : PH} {o : Nat} (L : List MkI) (ho : o < h_ct h) : o < h_ct (mkO h o L) := by rw [mkO_ct]; omega
theorem mkO_app (o : Nat) : ∀ (A B : List MkI) (h : PH), mkO h o (A ++ B) = mkO (mkO h o A) o B
  | [], _, _ => rfl
  | i :: A, B, h => mkO_app o A B (mk1 h o i)

def L_Bo_init_28 : List MkI := [(4, .inl (1, 6)), (5, .inr (-1))]
theorem j_Bo_init_28 {d : Nat} {h : PH} {Q : PQ} {o : Nat} (ho : o < h_ct h) (hs : h_sh h o = some (0, 0)) (k : Q none (mkO h o L_Bo_init_28)) : wpx d P_Bo_init 28 [.ref o] [] h Q := by
  exact B_Bo_init_28 ((sh_mkO_new (L := []) ho).trans hs) k
def L_Bo_init : List MkI := [(0, .inl (4, 10)), (1, .inl (4, 10)), (2, .inl (1, 64))] ++ L_Bo_init_28
theorem j_Bo_init_0 {d : Nat} {h : PH} {Q : PQ} {o : Nat} (ho : o < h_ct h) (hs : h_sh h o = some (0, 0)) (k : Q none (mkO h o L_Bo_init)) : wpx d P_Bo_init 0 [.ref o] [] h Q := by
  refine B_Bo_init_0 ((sh_mkO_new (L := []) ho).trans hs) ((sh_mkO_new (L := [(0, .inl (4, 10))]) ho).trans hs) ((sh_mkO_new (L := [(0, .inl (4, 10)), (1, .inl (4, 10))]) ho).trans hs) ?_
  exact j_Bo_init_28 (h := mkO h o [(0, .inl (4, 10)), (1, .inl (4, 10)), (2, .inl (1, 64))]) (lt_mkO _ ho) ((sh_mkO ho).trans hs) (by rw [L_Bo_init, mkO_app] at k; exact k)
theorem i_Bo_init {d : Nat} {h : PH} {Q : PQ} {o : Nat} (ho : o < h_ct h) (hs : h_sh h o = some (0, 0)) (k : Q none (mkO h o L_Bo_init)) : wpm (d + 1) 0 [.ref o] h Q :=
  wpm_in P_Bo_init rfl (by decide) (by show ¬ 1 < 1; decide) (j_Bo_init_0 ho hs k)
def L_Ce_init_55 : List MkI := [(7, .inl (2, 256)), (8, .inl (1, 256)), (10, .inr (-1))]
theorem j_Ce_init_55 {d : Nat} {h : PH} {Q : PQ} {o : Nat} (ho : o < h_ct h) (hs : h_sh h o = some (0, 1)) (k : Q none (mkO h o L_Ce_init_55)) : wpx d P_Ce_init 55 [.ref o] [] h Q := by
  exact B_Ce_init_55 ((sh_mkO_new (L := []) ho).trans hs) ((sh_mkO_new (L := [(7, .inl (2, 256))]) ho).trans hs) k
def L_Ce_init_29 : List MkI := [(3, .inl (4, 704)), (5, .inl (1, 256)), (6, .inl (1, 65))] ++ L_Ce_init_55
theorem j_Ce_init_29 {d : Nat} {h : PH} {Q : PQ} {o : Nat} (ho : o < h_ct h) (hs : h_sh h o = some (0, 1)) (k : Q none (mkO h o L_Ce_init_29)) : wpx d P_Ce_init 29 [.ref o] [] h Q := by
  refine B_Ce_init_29 ((sh_mkO_new (L := []) ho).trans hs) ((sh_mkO_new (L := [(3, .inl (4, 704))]) ho).trans hs) ((sh_mkO_new (L := [(3, .inl (4, 704)), (5, .inl (1, 256))]) ho).trans hs) ?_
  exact j_Ce_init_55 (h := mkO h o [(3, .inl (4, 704)), (5, .inl (1, 256)), (6, .inl (1, 65))]) (lt_mkO _ ho) ((sh_mkO ho).trans hs) (by rw [L_Ce_init_29, mkO_app] at k; exact k)
def L_Ce_init : List MkI := [(0, .inl (1, 64)), (1, .inl (1, 64)), (2, .inl (4, 704))] ++ L_Ce_init_29
theorem j_Ce_init_0 {d : Nat} {h : PH} {Q : PQ} {o : Nat} (ho : o < h_ct h) (hs : h_sh h o = some (0, 1)) (k : Q none (mkO h o L_Ce_init)) : wpx d P_Ce_init 0 [.ref o] [] h Q := by
  refine B_Ce_init_0 ((sh_mkO_new (L := []) ho).trans hs) ((sh_mkO_new (L := [(0, .inl (1, 64))]) ho).trans hs) ((sh_mkO_new (L := [(0, .inl (1, 64)), (1, .inl (1, 64))]) ho).trans hs) ?_
  exact j_Ce_init_29 (h := mkO h o [(0, .inl (1, 64)), (1, .inl (1, 64)), (2, .inl (4, 704))]) (lt_mkO _ ho) ((sh_mkO ho).trans hs) (by rw [L_Ce_init, mkO_app] at k; exact k)
theorem i_Ce_init {d : Nat} {h : PH} {Q : PQ} {o : Nat} (ho : o < h_ct h) (hs : h_sh h o = some (0, 1)) (k : Q none (mkO h o L_Ce_init)) : wpm (d + 1) 14 [.ref o] h Q :=
  wpm_in P_Ce_init rfl (by decide) (by show ¬ 1 < 1; decide) (j_Ce_init_0 ho hs k)
def L_Gr_init_28 : List MkI := [(7, .inl (1, 12)), (8, .inl (1, 12))]
theorem j_Gr_init_28 {d : Nat} {h : PH} {Q : PQ} {o : Nat} (ho : o < h_ct h) (hs : h_sh h o = some (0, 3)) (k : Q none (mkO h o L_Gr_init_28)) : wpx d P_Gr_init 28 [.ref o] [] h Q := by
  exact B_Gr_init_28 ((sh_mkO_new (L := []) ho).trans hs) ((sh_mkO_new (L := [(7, .inl (1, 12))]) ho).trans hs) k
def L_Gr_init : List MkI := [(0, .inl (4, 14)), (1, .inl (1, 14)), (2, .inl (1, 14))] ++ L_Gr_init_28
theorem j_Gr_init_0 {d : Nat} {h : PH} {Q : PQ} {o : Nat} (ho : o < h_ct h) (hs : h_sh h o = some (0, 3)) (k : Q none (mkO h o L_Gr_init)) : wpx d P_Gr_init 0 [.ref o] [] h Q := by
  refine B_Gr_init_0 ((sh_mkO_new (L := []) ho).trans hs) ((sh_mkO_new (L := [(0, .inl (4, 14))]) ho).trans hs) ((sh_mkO_new (L := [(0, .inl (4, 14)), (1, .inl (1, 14))]) ho).trans hs) ?_
  exact j_Gr_init_28 (h := mkO h o [(0, .inl (4, 14)), (1, .inl (1, 14)), (2, .inl (1, 14))]) (lt_mkO _ ho) ((sh_mkO ho).trans hs) (by rw [L_Gr_init, mkO_app] at k; exact k)
theorem i_Gr_init {d : Nat} {h : PH} {Q : PQ} {o : Nat} (ho : o < h_ct h) (hs : h_sh h o = some (0, 3)) (k : Q none (mkO h o L_Gr_init)) : wpm (d + 1) 33 [.ref o] h Q :=
  wpm_in P_Gr_init rfl (by decide) (by show ¬ 1 < 1; decide) (j_Gr_init_0 ho hs k)
def L_Re_init_28 : List MkI := []
theorem j_Re_init_28 {d : Nat} {h : PH} {Q : PQ} {o : Nat} (ho : o < h_ct h) (hs : h_sh h o = some (0, 4)) (k : Q none (mkO h o L_Re_init_28)) : wpx d P_Re_init 28 [.ref o] [] h Q := by
  exact B_Re_init_28  k
def L_Re_init : List MkI := [(0, .inl (2, 14)), (2, .inl (2, 14)), (4, .inl (3, 8))] ++ L_Re_init_28
theorem j_Re_init_0 {d : Nat} {h : PH} {Q : PQ} {o : Nat} (ho : o < h_ct h) (hs : h_sh h o = some (0, 4)) (k : Q none (mkO h o L_Re_init)) : wpx d P_Re_init 0 [.ref o] [] h Q := by
  refine B_Re_init_0 ((sh_mkO_new (L := []) ho).trans hs) ((sh_mkO_new (L := [(0, .inl (2, 14))]) ho).trans hs) ((sh_mkO_new (L := [(0, .inl (2, 14)), (2, .inl (2, 14))]) ho).trans hs) ?_
  exact j_Re_init_28 (h := mkO h o [(0, .inl (2, 14)), (2, .inl (2, 14)), (4, .inl (3, 8))]) (lt_mkO _ ho) ((sh_mkO ho).trans hs) (by rw [L_Re_init, mkO_app] at k; exact k)
theorem i_Re_init {d : Nat} {h : PH} {Q : PQ} {o : Nat} (ho : o < h_ct h) (hs : h_sh h o = some (0, 4)) (k : Q none (mkO h o L_Re_init)) : wpm (d + 1) 48 [.ref o] h Q :=
  wpm_in P_Re_init rfl (by decide) (by show ¬ 1 < 1; decide) (j_Re_init_0 ho hs k)
def L_Sp_init_25 : List MkI := [(4, .inl (1, 4)), (6, .inl (1, 29))]
theorem j_Sp_init_25 {d : Nat} {h : PH} {Q : PQ} {o : Nat} (ho : o < h_ct h) (hs : h_sh h o = some (0, 5)) (k : Q none (mkO h o L_Sp_init_25)) : wpx d P_Sp_init 25 [.ref o] [] h Q := by
  exact B_Sp_init_25 ((sh_mkO_new (L := []) ho).trans hs) ((sh_mkO_new (L := [(4, .inl (1, 4))]) ho).trans hs) k
def L_Sp_init : List MkI := [(0, .inl (1, 4)), (2, .inl (1, 5)), (3, .inl (1, 4))] ++ L_Sp_init_25
theorem j_Sp_init_0 {d : Nat} {h : PH} {Q : PQ} {o : Nat} (ho : o < h_ct h) (hs : h_sh h o = some (0, 5)) (k : Q none (mkO h o L_Sp_init)) : wpx d P_Sp_init 0 [.ref o] [] h Q := by
  refine B_Sp_init_0 ((sh_mkO_new (L := []) ho).trans hs) ((sh_mkO_new (L := [(0, .inl (1, 4))]) ho).trans hs) ((sh_mkO_new (L := [(0, .inl (1, 4)), (2, .inl (1, 5))]) ho).trans hs) ?_
  exact j_Sp_init_25 (h := mkO h o [(0, .inl (1, 4)), (2, .inl (1, 5)), (3, .inl (1, 4))]) (lt_mkO _ ho) ((sh_mkO ho).trans hs) (by rw [L_Sp_init, mkO_app] at k; exact k)
theorem i_Sp_init {d : Nat} {h : PH} {Q : PQ} {o : Nat} (ho : o < h_ct h) (hs : h_sh h o = some (0, 5)) (k : Q none (mkO h o L_Sp_init)) : wpm (d + 1) 61 [.ref o] h Q :=
  wpm_in P_Sp_init rfl (by decide) (by show ¬ 1 < 1; decide) (j_Sp_init_0 ho hs k)
def L_Ta_init_63 : List MkI := [(11, .inl (1, 1372))]
theorem j_Ta_init_63 {d : Nat} {h : PH} {Q : PQ} {o : Nat} (ho : o < h_ct h) (hs : h_sh h o = some (0, 6)) (k : Q none (mkO h o L_Ta_init_63)) : wpx d P_Ta_init 63 [.ref o] [] h Q := by
  exact B_Ta_init_63 ((sh_mkO_new (L := []) ho).trans hs) k
def L_Ta_init_28 : List MkI := [(4, .inl (1, 100)), (6, .inr (-1)), (8, .inr (-1)), (9, .inl (1, 98)), (10, .inl (1, 1372))] ++ L_Ta_init_63
theorem j_Ta_init_28 {d : Nat} {h : PH} {Q : PQ} {o : Nat} (ho : o < h_ct h) (hs : h_sh h o = some (0, 6)) (k : Q none (mkO h o L_Ta_init_28)) : wpx d P_Ta_init 28 [.ref o] [] h Q := by
  refine B_Ta_init_28 ((sh_mkO_new (L := []) ho).trans hs) ((sh_mkO_new (L := [(4, .inl (1, 100)), (6, .inr (-1)), (8, .inr (-1))]) ho).trans hs) ((sh_mkO_new (L := [(4, .inl (1, 100)), (6, .inr (-1)), (8, .inr (-1)), (9, .inl (1, 98))]) ho).trans hs) ?_
  exact j_Ta_init_63 (h := mkO h o [(4, .inl (1, 100)), (6, .inr (-1)), (8, .inr (-1)), (9, .inl (1, 98)), (10, .inl (1, 1372))]) (lt_mkO _ ho) ((sh_mkO ho).trans hs) (by rw [L_Ta_init_28, mkO_app] at k; exact k)
def L_Ta_init : List MkI := [(0, .inl (4, 98)), (1, .inl (1, 98)), (2, .inl (1, 98))] ++ L_Ta_init_28
theorem j_Ta_init_0 {d : Nat} {h : PH} {Q : PQ} {o : Nat} (ho : o < h_ct h) (hs : h_sh h o = some (0, 6)) (k : Q none (mkO h o L_Ta_init)) : wpx d P_Ta_init 0 [.ref o] [] h Q := by
  refine B_Ta_init_0 ((sh_mkO_new (L := []) ho).trans hs) ((sh_mkO_new (L := [(0, .inl (4, 98))]) ho).trans hs) ((sh_mkO_new (L := [(0, .inl (4, 98)), (1, .inl (1, 98))]) ho).trans hs) ?_
  exact j_Ta_init_28 (h := mkO h o [(0, .inl (4, 98)), (1, .inl (1, 98)), (2, .inl (1, 98))]) (lt_mkO _ ho) ((sh_mkO ho).trans hs) (by rw [L_Ta_init, mkO_app] at k; exact k)
theorem i_Ta_init {d : Nat} {h : PH} {Q : PQ} {o : Nat} (ho : o < h_ct h) (hs : h_sh h o = some (0, 6)) (k : Q none (mkO h o L_Ta_init)) : wpm (d + 1) 68 [.ref o] h Q :=
  wpm_in P_Ta_init rfl (by decide) (by show ¬ 1 < 1; decide) (j_Ta_init_0 ho hs k)
def L_Te_init_28 : List MkI := [(4, .inl (1, 14)), (8, .inr (-1))]
theorem j_Te_init_28 {d : Nat} {h : PH} {Q : PQ} {o : Nat} (ho : o < h_ct h) (hs : h_sh h o = some (0, 7)) (k : Q none (mkO h o L_Te_init_28)) : wpx d P_Te_init 28 [.ref o] [] h Q := by
  exact B_Te_init_28 ((sh_mkO_new (L := []) ho).trans hs) k
def L_Te_init : List MkI := [(0, .inl (4, 10)), (2, .inl (4, 14)), (3, .inl (1, 14))] ++ L_Te_init_28
theorem j_Te_init_0 {d : Nat} {h : PH} {Q : PQ} {o : Nat} (ho : o < h_ct h) (hs : h_sh h o = some (0, 7)) (k : Q none (mkO h o L_Te_init)) : wpx d P_Te_init 0 [.ref o] [] h Q := by
  refine B_Te_init_0 ((sh_mkO_new (L := []) ho).trans hs) ((sh_mkO_new (L := [(0, .inl (4, 10))]) ho).trans hs) ((sh_mkO_new (L := [(0, .inl (4, 10)), (2, .inl (4, 14))]) ho).trans hs) ?_
  exact j_Te_init_28 (h := mkO h o [(0, .inl (4, 10)), (2, .inl (4, 14)), (3, .inl (1, 14))]) (lt_mkO _ ho) ((sh_mkO ho).trans hs) (by rw [L_Te_init, mkO_app] at k; exact k)
theorem i_Te_init {d : Nat} {h : PH} {Q : PQ} {o : Nat} (ho : o < h_ct h) (hs : h_sh h o = some (0, 7)) (k : Q none (mkO h o L_Te_init)) : wpm (d + 1) 82 [.ref o] h Q :=
  wpm_in P_Te_init rfl (by decide) (by show ¬ 1 < 1; decide) (j_Te_init_0 ho hs k)
def L_Tr_init_78 : List MkI := [(10, .inr (-1))]
theorem j_Tr_init_78 {d : Nat} {h : PH} {Q : PQ} {o : Nat} (ho : o < h_ct h) (hs : h_sh h o = some (0, 8)) (k : Q none (mkO h o L_Tr_init_78)) : wpx d P_Tr_init 78 [.ref o] [] h Q := by
  exact B_Tr_init_78 hs k
def L_Tr_init_54 : List MkI := [(6, .inl (1, 99)), (7, .inl (1, 99)), (8, .inl (1, 29))] ++ L_Tr_init_78
theorem j_Tr_init_54 {d : Nat} {h : PH} {Q : PQ} {o : Nat} (ho : o < h_ct h) (hs : h_sh h o = some (0, 8)) (k : Q none (mkO h o L_Tr_init_54)) : wpx d P_Tr_init 54 [.ref o] [] h Q := by
  refine B_Tr_init_54 ((sh_mkO_new (L := []) ho).trans hs) ((sh_mkO_new (L := [(6, .inl (1, 99))]) ho).trans hs) ((sh_mkO_new (L := [(6, .inl (1, 99)), (7, .inl (1, 99))]) ho).trans hs) ?_
  exact j_Tr_init_78 (h := mkO h o [(6, .inl (1, 99)), (7, .inl (1, 99)), (8, .inl (1, 29))]) (lt_mkO _ ho) ((sh_mkO ho).trans hs) (by rw [L_Tr_init_54, mkO_app] at k; exact k)
def L_Tr_init_30 : List MkI := [(3, .inl (3, 99)), (4, .inl (3, 99)), (5, .inl (1, 99))] ++ L_Tr_init_54
theorem j_Tr_init_30 {d : Nat} {h : PH} {Q : PQ} {o : Nat} (ho : o < h_ct h) (hs : h_sh h o = some (0, 8)) (k : Q none (mkO h o L_Tr_init_30)) : wpx d P_Tr_init 30 [.ref o] [] h Q := by
  refine B_Tr_init_30 ((sh_mkO_new (L := []) ho).trans hs) ((sh_mkO_new (L := [(3, .inl (3, 99))]) ho).trans hs) ((sh_mkO_new (L := [(3, .inl (3, 99)), (4, .inl (3, 99))]) ho).trans hs) ?_
  exact j_Tr_init_54 (h := mkO h o [(3, .inl (3, 99)), (4, .inl (3, 99)), (5, .inl (1, 99))]) (lt_mkO _ ho) ((sh_mkO ho).trans hs) (by rw [L_Tr_init_30, mkO_app] at k; exact k)
def L_Tr_init : List MkI := [(0, .inl (1, 2772)), (1, .inl (1, 792)), (2, .inl (1, 99))] ++ L_Tr_init_30
theorem j_Tr_init_0 {d : Nat} {h : PH} {Q : PQ} {o : Nat} (ho : o < h_ct h) (hs : h_sh h o = some (0, 8)) (k : Q none (mkO h o L_Tr_init)) : wpx d P_Tr_init 0 [.ref o] [] h Q := by
  refine B_Tr_init_0 ((sh_mkO_new (L := []) ho).trans hs) ((sh_mkO_new (L := [(0, .inl (1, 2772))]) ho).trans hs) ((sh_mkO_new (L := [(0, .inl (1, 2772)), (1, .inl (1, 792))]) ho).trans hs) ?_
  exact j_Tr_init_30 (h := mkO h o [(0, .inl (1, 2772)), (1, .inl (1, 792)), (2, .inl (1, 99))]) (lt_mkO _ ho) ((sh_mkO ho).trans hs) (by rw [L_Tr_init, mkO_app] at k; exact k)
theorem i_Tr_init {d : Nat} {h : PH} {Q : PQ} {o : Nat} (ho : o < h_ct h) (hs : h_sh h o = some (0, 8)) (k : Q none (mkO h o L_Tr_init)) : wpm (d + 1) 91 [.ref o] h Q :=
  wpm_in P_Tr_init rfl (by decide) (by show ¬ 1 < 1; decide) (j_Tr_init_0 ho hs k)
def L_Tw_init_58 : List MkI := []
theorem j_Tw_init_58 {d : Nat} {h : PH} {Q : PQ} {o : Nat} (ho : o < h_ct h) (hs : h_sh h o = some (0, 9)) (k : Q none (mkO h o L_Tw_init_58)) : wpx d P_Tw_init 58 [.ref o] [] h Q := by
  exact B_Tw_init_58  k
def L_Tw_init_31 : List MkI := [(3, .inl (2, 792)), (4, .inl (1, 792)), (9, .inl (2, 800))] ++ L_Tw_init_58
theorem j_Tw_init_31 {d : Nat} {h : PH} {Q : PQ} {o : Nat} (ho : o < h_ct h) (hs : h_sh h o = some (0, 9)) (k : Q none (mkO h o L_Tw_init_31)) : wpx d P_Tw_init 31 [.ref o] [] h Q := by
  refine B_Tw_init_31 ((sh_mkO_new (L := []) ho).trans hs) ((sh_mkO_new (L := [(3, .inl (2, 792))]) ho).trans hs) ((sh_mkO_new (L := [(3, .inl (2, 792)), (4, .inl (1, 792))]) ho).trans hs) ?_
  exact j_Tw_init_58 (h := mkO h o [(3, .inl (2, 792)), (4, .inl (1, 792)), (9, .inl (2, 800))]) (lt_mkO _ ho) ((sh_mkO ho).trans hs) (by rw [L_Tw_init_31, mkO_app] at k; exact k)
def L_Tw_init : List MkI := [(0, .inl (3, 792)), (1, .inl (1, 792)), (2, .inl (1, 792))] ++ L_Tw_init_31
theorem j_Tw_init_0 {d : Nat} {h : PH} {Q : PQ} {o : Nat} (ho : o < h_ct h) (hs : h_sh h o = some (0, 9)) (k : Q none (mkO h o L_Tw_init)) : wpx d P_Tw_init 0 [.ref o] [] h Q := by
  refine B_Tw_init_0 ((sh_mkO_new (L := []) ho).trans hs) ((sh_mkO_new (L := [(0, .inl (3, 792))]) ho).trans hs) ((sh_mkO_new (L := [(0, .inl (3, 792)), (1, .inl (1, 792))]) ho).trans hs) ?_
  exact j_Tw_init_31 (h := mkO h o [(0, .inl (3, 792)), (1, .inl (1, 792)), (2, .inl (1, 792))]) (lt_mkO _ ho) ((sh_mkO ho).trans hs) (by rw [L_Tw_init, mkO_app] at k; exact k)
theorem i_Tw_init {d : Nat} {h : PH} {Q : PQ} {o : Nat} (ho : o < h_ct h) (hs : h_sh h o = some (0, 9)) (k : Q none (mkO h o L_Tw_init)) : wpm (d + 1) 99 [.ref o] h Q :=
  wpm_in P_Tw_init rfl (by decide) (by show ¬ 1 < 1; decide) (j_Tw_init_0 ho hs k)
def L_Wo_init_31 : List MkI := []
theorem j_Wo_init_31 {d : Nat} {h : PH} {Q : PQ} {o : Nat} (ho : o < h_ct h) (hs : h_sh h o = some (0, 10)) (k : Q none (mkO h o L_Wo_init_31)) : wpx d P_Wo_init 31 [.ref o] [] h Q := by
  exact B_Wo_init_31  k
def L_Wo_init : List MkI := [(0, .inl (2, 800)), (2, .inl (4, 801)), (3, .inl (3, 801))] ++ L_Wo_init_31
theorem j_Wo_init_0 {d : Nat} {h : PH} {Q : PQ} {o : Nat} (ho : o < h_ct h) (hs : h_sh h o = some (0, 10)) (k : Q none (mkO h o L_Wo_init)) : wpx d P_Wo_init 0 [.ref o] [] h Q := by
  refine B_Wo_init_0 ((sh_mkO_new (L := []) ho).trans hs) ((sh_mkO_new (L := [(0, .inl (2, 800))]) ho).trans hs) ((sh_mkO_new (L := [(0, .inl (2, 800)), (2, .inl (4, 801))]) ho).trans hs) ?_
  exact j_Wo_init_31 (h := mkO h o [(0, .inl (2, 800)), (2, .inl (4, 801)), (3, .inl (3, 801))]) (lt_mkO _ ho) ((sh_mkO ho).trans hs) (by rw [L_Wo_init, mkO_app] at k; exact k)
theorem i_Wo_init {d : Nat} {h : PH} {Q : PQ} {o : Nat} (ho : o < h_ct h) (hs : h_sh h o = some (0, 10)) (k : Q none (mkO h o L_Wo_init)) : wpm (d + 1) 105 [.ref o] h Q :=
  wpm_in P_Wo_init rfl (by decide) (by show ¬ 1 < 1; decide) (j_Wo_init_0 ho hs k)
def L_Md_init_370 : List MkI := []
theorem j_Md_init_370 {d : Nat} {h : PH} {Q : PQ} {o : Nat} (ho : o < h_ct h) (hs : h_sh h o = some (0, 12)) (k : Q none (mkO h o L_Md_init_370)) : wpx d P_Md_init 370 [.ref o] [] h Q := by
  exact B_Md_init_370  k
def L_Md_init_345 : List MkI := [(72, .inl (1, 112)), (73, .inl (3, 112)), (75, .inl (1, 1692))] ++ L_Md_init_370
theorem j_Md_init_345 {d : Nat} {h : PH} {Q : PQ} {o : Nat} (ho : o < h_ct h) (hs : h_sh h o = some (0, 12)) (k : Q none (mkO h o L_Md_init_345)) : wpx d P_Md_init 345 [.ref o] [] h Q := by
  refine B_Md_init_345 ((sh_mkO_new (L := []) ho).trans hs) ((sh_mkO_new (L := [(72, .inl (1, 112))]) ho).trans hs) ((sh_mkO_new (L := [(72, .inl (1, 112)), (73, .inl (3, 112))]) ho).trans hs) ?_
  exact j_Md_init_370 (h := mkO h o [(72, .inl (1, 112)), (73, .inl (3, 112)), (75, .inl (1, 1692))]) (lt_mkO _ ho) ((sh_mkO ho).trans hs) (by rw [L_Md_init_345, mkO_app] at k; exact k)
def L_Md_init_322 : List MkI := [(67, .inl (1, 20000)), (68, .inl (1, 4)), (69, .inl (3, 5))] ++ L_Md_init_345
theorem j_Md_init_322 {d : Nat} {h : PH} {Q : PQ} {o : Nat} (ho : o < h_ct h) (hs : h_sh h o = some (0, 12)) (k : Q none (mkO h o L_Md_init_322)) : wpx d P_Md_init 322 [.ref o] [] h Q := by
  refine B_Md_init_322 ((sh_mkO_new (L := []) ho).trans hs) ((sh_mkO_new (L := [(67, .inl (1, 20000))]) ho).trans hs) ((sh_mkO_new (L := [(67, .inl (1, 20000)), (68, .inl (1, 4))]) ho).trans hs) ?_
  exact j_Md_init_345 (h := mkO h o [(67, .inl (1, 20000)), (68, .inl (1, 4)), (69, .inl (3, 5))]) (lt_mkO _ ho) ((sh_mkO ho).trans hs) (by rw [L_Md_init_322, mkO_app] at k; exact k)
def L_Md_init_300 : List MkI := [(64, .inl (4, 4)), (65, .inl (1, 40000)), (66, .inl (1, 2))] ++ L_Md_init_322
theorem j_Md_init_300 {d : Nat} {h : PH} {Q : PQ} {o : Nat} (ho : o < h_ct h) (hs : h_sh h o = some (0, 12)) (k : Q none (mkO h o L_Md_init_300)) : wpx d P_Md_init 300 [.ref o] [] h Q := by
  refine B_Md_init_300 ((sh_mkO_new (L := []) ho).trans hs) ((sh_mkO_new (L := [(64, .inl (4, 4))]) ho).trans hs) ((sh_mkO_new (L := [(64, .inl (4, 4)), (65, .inl (1, 40000))]) ho).trans hs) ?_
  exact j_Md_init_322 (h := mkO h o [(64, .inl (4, 4)), (65, .inl (1, 40000)), (66, .inl (1, 2))]) (lt_mkO _ ho) ((sh_mkO ho).trans hs) (by rw [L_Md_init_300, mkO_app] at k; exact k)
def L_Md_init_279 : List MkI := [(59, .inl (4, 4)), (60, .inl (4, 4)), (63, .inl (4, 4))] ++ L_Md_init_300
theorem j_Md_init_279 {d : Nat} {h : PH} {Q : PQ} {o : Nat} (ho : o < h_ct h) (hs : h_sh h o = some (0, 12)) (k : Q none (mkO h o L_Md_init_279)) : wpx d P_Md_init 279 [.ref o] [] h Q := by
  refine B_Md_init_279 ((sh_mkO_new (L := []) ho).trans hs) ((sh_mkO_new (L := [(59, .inl (4, 4))]) ho).trans hs) ((sh_mkO_new (L := [(59, .inl (4, 4)), (60, .inl (4, 4))]) ho).trans hs) ?_
  exact j_Md_init_300 (h := mkO h o [(59, .inl (4, 4)), (60, .inl (4, 4)), (63, .inl (4, 4))]) (lt_mkO _ ho) ((sh_mkO ho).trans hs) (by rw [L_Md_init_279, mkO_app] at k; exact k)
def L_Md_init_256 : List MkI := [(56, .inl (3, 32768)), (57, .inl (1, 32768)), (58, .inl (1, 2))] ++ L_Md_init_279
theorem j_Md_init_256 {d : Nat} {h : PH} {Q : PQ} {o : Nat} (ho : o < h_ct h) (hs : h_sh h o = some (0, 12)) (k : Q none (mkO h o L_Md_init_256)) : wpx d P_Md_init 256 [.ref o] [] h Q := by
  refine B_Md_init_256 ((sh_mkO_new (L := []) ho).trans hs) ((sh_mkO_new (L := [(56, .inl (3, 32768))]) ho).trans hs) ((sh_mkO_new (L := [(56, .inl (3, 32768)), (57, .inl (1, 32768))]) ho).trans hs) ?_
  exact j_Md_init_279 (h := mkO h o [(56, .inl (3, 32768)), (57, .inl (1, 32768)), (58, .inl (1, 2))]) (lt_mkO _ ho) ((sh_mkO ho).trans hs) (by rw [L_Md_init_256, mkO_app] at k; exact k)
def L_Md_init_232 : List MkI := [(52, .inl (3, 100)), (54, .inl (4, 131072)), (55, .inl (4, 32768))] ++ L_Md_init_256
theorem j_Md_init_232 {d : Nat} {h : PH} {Q : PQ} {o : Nat} (ho : o < h_ct h) (hs : h_sh h o = some (0, 12)) (k : Q none (mkO h o L_Md_init_232)) : wpx d P_Md_init 232 [.ref o] [] h Q := by
  refine B_Md_init_232 ((sh_mkO_new (L := []) ho).trans hs) ((sh_mkO_new (L := [(52, .inl (3, 100))]) ho).trans hs) ((sh_mkO_new (L := [(52, .inl (3, 100)), (54, .inl (4, 131072))]) ho).trans hs) ?_
  exact j_Md_init_256 (h := mkO h o [(52, .inl (3, 100)), (54, .inl (4, 131072)), (55, .inl (4, 32768))]) (lt_mkO _ ho) ((sh_mkO ho).trans hs) (by rw [L_Md_init_232, mkO_app] at k; exact k)
def L_Md_init_209 : List MkI := [(49, .inl (1, 4)), (50, .inl (1, 4)), (51, .inl (1, 2700))] ++ L_Md_init_232
theorem j_Md_init_209 {d : Nat} {h : PH} {Q : PQ} {o : Nat} (ho : o < h_ct h) (hs : h_sh h o = some (0, 12)) (k : Q none (mkO h o L_Md_init_209)) : wpx d P_Md_init 209 [.ref o] [] h Q := by
  refine B_Md_init_209 ((sh_mkO_new (L := []) ho).trans hs) ((sh_mkO_new (L := [(49, .inl (1, 4))]) ho).trans hs) ((sh_mkO_new (L := [(49, .inl (1, 4)), (50, .inl (1, 4))]) ho).trans hs) ?_
  exact j_Md_init_232 (h := mkO h o [(49, .inl (1, 4)), (50, .inl (1, 4)), (51, .inl (1, 2700))]) (lt_mkO _ ho) ((sh_mkO ho).trans hs) (by rw [L_Md_init_209, mkO_app] at k; exact k)
def L_Md_init_184 : List MkI := [(45, .inl (1, 100)), (46, .inl (1, 40)), (48, .inl (3, 801))] ++ L_Md_init_209
theorem j_Md_init_184 {d : Nat} {h : PH} {Q : PQ} {o : Nat} (ho : o < h_ct h) (hs : h_sh h o = some (0, 12)) (k : Q none (mkO h o L_Md_init_184)) : wpx d P_Md_init 184 [.ref o] [] h Q := by
  refine B_Md_init_184 ((sh_mkO_new (L := []) ho).trans hs) ((sh_mkO_new (L := [(45, .inl (1, 100))]) ho).trans hs) ((sh_mkO_new (L := [(45, .inl (1, 100)), (46, .inl (1, 40))]) ho).trans hs) ?_
  exact j_Md_init_209 (h := mkO h o [(45, .inl (1, 100)), (46, .inl (1, 40)), (48, .inl (3, 801))]) (lt_mkO _ ho) ((sh_mkO ho).trans hs) (by rw [L_Md_init_184, mkO_app] at k; exact k)
def L_Md_init_157 : List MkI := [(40, .inl (4, 801)), (43, .inl (1, 800)), (44, .inl (1, 3000))] ++ L_Md_init_184
theorem j_Md_init_157 {d : Nat} {h : PH} {Q : PQ} {o : Nat} (ho : o < h_ct h) (hs : h_sh h o = some (0, 12)) (k : Q none (mkO h o L_Md_init_157)) : wpx d P_Md_init 157 [.ref o] [] h Q := by
  refine B_Md_init_157 ((sh_mkO_new (L := []) ho).trans hs) ((sh_mkO_new (L := [(40, .inl (4, 801))]) ho).trans hs) ((sh_mkO_new (L := [(40, .inl (4, 801)), (43, .inl (1, 800))]) ho).trans hs) ?_
  exact j_Md_init_184 (h := mkO h o [(40, .inl (4, 801)), (43, .inl (1, 800)), (44, .inl (1, 3000))]) (lt_mkO _ ho) ((sh_mkO ho).trans hs) (by rw [L_Md_init_157, mkO_app] at k; exact k)
def L_Md_init_132 : List MkI := [(36, .inl (1, 100)), (37, .inl (1, 800)), (39, .inl (1, 100))] ++ L_Md_init_157
theorem j_Md_init_132 {d : Nat} {h : PH} {Q : PQ} {o : Nat} (ho : o < h_ct h) (hs : h_sh h o = some (0, 12)) (k : Q none (mkO h o L_Md_init_132)) : wpx d P_Md_init 132 [.ref o] [] h Q := by
  refine B_Md_init_132 ((sh_mkO_new (L := []) ho).trans hs) ((sh_mkO_new (L := [(36, .inl (1, 100))]) ho).trans hs) ((sh_mkO_new (L := [(36, .inl (1, 100)), (37, .inl (1, 800))]) ho).trans hs) ?_
  exact j_Md_init_157 (h := mkO h o [(36, .inl (1, 100)), (37, .inl (1, 800)), (39, .inl (1, 100))]) (lt_mkO _ ho) ((sh_mkO ho).trans hs) (by rw [L_Md_init_132, mkO_app] at k; exact k)
def L_Md_init_107 : List MkI := [(30, .inl (1, 112)), (31, .inl (1, 1400)), (35, .inl (1, 80000))] ++ L_Md_init_132
theorem j_Md_init_107 {d : Nat} {h : PH} {Q : PQ} {o : Nat} (ho : o < h_ct h) (hs : h_sh h o = some (0, 12)) (k : Q none (mkO h o L_Md_init_107)) : wpx d P_Md_init 107 [.ref o] [] h Q := by
  refine B_Md_init_107 ((sh_mkO_new (L := []) ho).trans hs) ((sh_mkO_new (L := [(30, .inl (1, 112))]) ho).trans hs) ((sh_mkO_new (L := [(30, .inl (1, 112)), (31, .inl (1, 1400))]) ho).trans hs) ?_
  exact j_Md_init_132 (h := mkO h o [(30, .inl (1, 112)), (31, .inl (1, 1400)), (35, .inl (1, 80000))]) (lt_mkO _ ho) ((sh_mkO ho).trans hs) (by rw [L_Md_init_107, mkO_app] at k; exact k)
def L_Md_init_83 : List MkI := [(27, .inl (1, 100)), (28, .inl (1, 100)), (29, .inl (1, 100))] ++ L_Md_init_107
theorem j_Md_init_83 {d : Nat} {h : PH} {Q : PQ} {o : Nat} (ho : o < h_ct h) (hs : h_sh h o = some (0, 12)) (k : Q none (mkO h o L_Md_init_83)) : wpx d P_Md_init 83 [.ref o] [] h Q := by
  refine B_Md_init_83 ((sh_mkO_new (L := []) ho).trans hs) ((sh_mkO_new (L := [(27, .inl (1, 100))]) ho).trans hs) ((sh_mkO_new (L := [(27, .inl (1, 100)), (28, .inl (1, 100))]) ho).trans hs) ?_
  exact j_Md_init_107 (h := mkO h o [(27, .inl (1, 100)), (28, .inl (1, 100)), (29, .inl (1, 100))]) (lt_mkO _ ho) ((sh_mkO ho).trans hs) (by rw [L_Md_init_83, mkO_app] at k; exact k)
def L_Md_init_53 : List MkI := [(10, .inl (1, 14)), (11, .inl (1, 14)), (18, .inr (-1)), (23, .inl (1, 800))] ++ L_Md_init_83
theorem j_Md_init_53 {d : Nat} {h : PH} {Q : PQ} {o : Nat} (ho : o < h_ct h) (hs : h_sh h o = some (0, 12)) (k : Q none (mkO h o L_Md_init_53)) : wpx d P_Md_init 53 [.ref o] [] h Q := by
  refine B_Md_init_53 ((sh_mkO_new (L := []) ho).trans hs) ((sh_mkO_new (L := [(10, .inl (1, 14))]) ho).trans hs) ((sh_mkO_new (L := [(10, .inl (1, 14)), (11, .inl (1, 14)), (18, .inr (-1))]) ho).trans hs) ?_
  exact j_Md_init_83 (h := mkO h o [(10, .inl (1, 14)), (11, .inl (1, 14)), (18, .inr (-1)), (23, .inl (1, 800))]) (lt_mkO _ ho) ((sh_mkO ho).trans hs) (by rw [L_Md_init_53, mkO_app] at k; exact k)
def L_Md_init_28 : List MkI := [(7, .inl (1, 600)), (8, .inl (1, 10)), (9, .inl (1, 112))] ++ L_Md_init_53
theorem j_Md_init_28 {d : Nat} {h : PH} {Q : PQ} {o : Nat} (ho : o < h_ct h) (hs : h_sh h o = some (0, 12)) (k : Q none (mkO h o L_Md_init_28)) : wpx d P_Md_init 28 [.ref o] [] h Q := by
  refine B_Md_init_28 ((sh_mkO_new (L := []) ho).trans hs) ((sh_mkO_new (L := [(7, .inl (1, 600))]) ho).trans hs) ((sh_mkO_new (L := [(7, .inl (1, 600)), (8, .inl (1, 10))]) ho).trans hs) ?_
  exact j_Md_init_53 (h := mkO h o [(7, .inl (1, 600)), (8, .inl (1, 10)), (9, .inl (1, 112))]) (lt_mkO _ ho) ((sh_mkO ho).trans hs) (by rw [L_Md_init_28, mkO_app] at k; exact k)
def L_Md_init : List MkI := [(1, .inl (1, 112)), (2, .inl (1, 14)), (3, .inl (1, 14))] ++ L_Md_init_28
theorem j_Md_init_0 {d : Nat} {h : PH} {Q : PQ} {o : Nat} (ho : o < h_ct h) (hs : h_sh h o = some (0, 12)) (k : Q none (mkO h o L_Md_init)) : wpx d P_Md_init 0 [.ref o] [] h Q := by
  refine B_Md_init_0 ((sh_mkO_new (L := []) ho).trans hs) ((sh_mkO_new (L := [(1, .inl (1, 112))]) ho).trans hs) ((sh_mkO_new (L := [(1, .inl (1, 112)), (2, .inl (1, 14))]) ho).trans hs) ?_
  exact j_Md_init_28 (h := mkO h o [(1, .inl (1, 112)), (2, .inl (1, 14)), (3, .inl (1, 14))]) (lt_mkO _ ho) ((sh_mkO ho).trans hs) (by rw [L_Md_init, mkO_app] at k; exact k)
theorem i_Md_init {d : Nat} {h : PH} {Q : PQ} {o : Nat} (ho : o < h_ct h) (hs : h_sh h o = some (0, 12)) (k : Q none (mkO h o L_Md_init)) : wpm (d + 1) 169 [.ref o] h Q :=
  wpm_in P_Md_init rfl (by decide) (by show ¬ 1 < 1; decide) (j_Md_init_0 ho hs k)
