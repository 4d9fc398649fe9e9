/-! the start: both objects made; all that stands in their cells, by lists of numbers -/
def rl (R : List (Nat × Nat × Nat)) (c k : Nat) : Option Nat := (R.find? (fun q => q.1 == c && q.2.1 == k)).map (·.2.2)
theorem rl_cons (o f a : Nat) (R : List (Nat × Nat × Nat)) (c k : Nat) : rl ((o, f, a) :: R) c k = if c = o ∧ k = f then some a else rl R c k := by
  unfold rl
  rw [List.find?_cons]
  by_cases h : c = o ∧ k = f
  · obtain ⟨rfl, rfl⟩ := h
    simp
  · rw [if_neg h]
    have : (((o, f, a) : Nat × Nat × Nat).1 == c && ((o, f, a) : Nat × Nat × Nat).2.1 == k) = false := by
      simp only [Bool.and_eq_false_iff, beq_eq_false_iff_ne, ne_eq]
      by_cases h1 : o = c
      · right
        intro h2
        exact h ⟨h1.symm, h2.symm⟩
      · exact Or.inl h1
    rw [this]
def St (L : Nat) (xs : Nat → Int32) (h : PH) (n s : Nat) (S R : List (Nat × Nat × Nat)) (E : Nat → Nat → Int32) : Prop :=
  h_ct h = n ∧ h_sl h = s ∧ h_sc h = (L, xs) ∧ (∀ q ∈ S, q.1 < n ∧ h_sh h q.1 = some q.2) ∧ (∀ c k, h_r h c k = rl R c k) ∧ (∀ c k, h_i h c k = E c k) ∧ (∀ c k, h_l h c k = 0) ∧ (∀ c k, n ≤ c → h_i h c k = 0 ∧ h_r h c k = none)
theorem St.new {L : Nat} {xs : Nat → Int32} {h : PH} {n s : Nat} {S R : List (Nat × Nat × Nat)} {E : Nat → Nat → Int32} (hS : St L xs h n s S R E) (q : Nat × Nat) (m : Nat) : St L xs (h_new h q m) (n + 1) (s + m) ((n, q) :: S) R E := by
  obtain ⟨h1, h2, h3, h4, h5, h6, h7, h8⟩ := hS
  have ei : ∀ c k, h_i (h_new h q m) c k = h_i h c k := fun c k => by
    by_cases hc : c = h_ct h
    · subst hc
      rw [i_new_eq, (h8 _ k (by omega)).1]
    · exact congrFun (upr_ne _ _ hc) k
  have er : ∀ c k, h_r (h_new h q m) c k = h_r h c k := fun c k => by
    by_cases hc : c = h_ct h
    · subst hc
      rw [r_new_eq, (h8 _ k (by omega)).2]
    · exact congrFun (upr_ne _ _ hc) k
  have el : ∀ c k, h_l (h_new h q m) c k = h_l h c k := fun c k => by
    by_cases hc : c = h_ct h
    · subst hc
      rw [l_new_eq, h7]
    · exact congrFun (upr_ne _ _ hc) k
  refine ⟨by show h_ct h + 1 = n + 1; omega, by show h_sl h + m = s + m; omega, h3, fun z hz => ?_, fun c k => (er c k).trans (h5 c k), fun c k => (ei c k).trans (h6 c k), fun c k => (el c k).trans (h7 c k), fun c k hc => ⟨(ei c k).trans (h8 c k (by omega)).1, (er c k).trans (h8 c k (by omega)).2⟩⟩
  rcases List.mem_cons.mp hz with rfl | hz
  · refine ⟨Nat.lt_succ_self n, ?_⟩
    rw [← h1]
    exact sh_new_eq h q m
  · obtain ⟨a1, a2⟩ := h4 z hz
    exact ⟨by omega, (sh_new_lt (by omega)).trans a2⟩
theorem St.wr {L : Nat} {xs : Nat → Int32} {h : PH} {n s : Nat} {S R : List (Nat × Nat × Nat)} {E : Nat → Nat → Int32} (hS : St L xs h n s S R E) (o f : Nat) {a a' : Nat} (ha : a = a') (ho : o < n) : St L xs (w_r h o f (some a)) n s S ((o, f, a') :: R) E := by
  subst ha
  obtain ⟨h1, h2, h3, h4, h5, h6, h7, h8⟩ := hS
  refine ⟨h1, h2, h3, h4, fun c k => ?_, h6, h7, fun c k hc => ⟨(h8 c k hc).1, ?_⟩⟩
  · rw [h_r_wr, rl_cons, h5]
  · rw [h_r_wr, if_neg (by omega)]
    exact (h8 c k hc).2
theorem St.wi {L : Nat} {xs : Nat → Int32} {h : PH} {n s : Nat} {S R : List (Nat × Nat × Nat)} {E : Nat → Nat → Int32} (hS : St L xs h n s S R E) (o f : Nat) (v : Int32) (ho : o < n) : St L xs (w_i h o f v) n s S R (fun c k => if c = o ∧ k = f then v else E c k) := by
  obtain ⟨h1, h2, h3, h4, h5, h6, h7, h8⟩ := hS
  refine ⟨h1, h2, h3, h4, h5, fun c k => ?_, h7, fun c k hc => ⟨?_, (h8 c k hc).2⟩⟩
  · rw [h_i_wi, h6]
  · rw [h_i_wi, if_neg (by omega)]
    exact (h8 c k hc).1
def mS (n : Nat) : List MkI → List (Nat × Nat × Nat) → List (Nat × Nat × Nat)
  | [], S => S
  | (_, .inl q) :: r, S => mS (n + 1) r ((n, q) :: S)
  | (_, .inr _) :: r, S => mS n r S
def mR (o n : Nat) : List MkI → List (Nat × Nat × Nat) → List (Nat × Nat × Nat)
  | [], R => R
  | (f, .inl _) :: r, R => mR o (n + 1) r ((o, f, n) :: R)
  | (_, .inr _) :: r, R => mR o n r R
def mE (o : Nat) : List MkI → (Nat → Nat → Int32) → Nat → Nat → Int32
  | [], E => E
  | (_, .inl _) :: r, E => mE o r E
  | (f, .inr v) :: r, E => mE o r (fun c k => if c = o ∧ k = f then v else E c k)
theorem St.mk {L : Nat} {xs : Nat → Int32} (o : Nat) : ∀ (I : List MkI) {h : PH} {n s : Nat} {S R : List (Nat × Nat × Nat)} {E : Nat → Nat → Int32}, St L xs h n s S R E → o < n → St L xs (mkO h o I) (n + nA I) (s + nS I) (mS n I S) (mR o n I R) (mE o I E)
  | [], h, n, s, S, R, E, hS, _ => hS
  | (f, .inl q) :: r, h, n, s, S, R, E, hS, ho => by
    have h1 := St.mk o r ((hS.new q q.2).wr o f (hS.1) (by omega)) (by omega)
    rw [show n + nA ((f, .inl q) :: r) = n + 1 + nA r by rw [nA_cons]; show n + (1 + nA r) = _; omega, show s + nS ((f, .inl q) :: r) = s + q.2 + nS r by show s + (q.2 + nS r) = _; omega]
    exact h1
  | (f, .inr v) :: r, h, n, s, S, R, E, hS, ho => by
    have h1 := St.mk o r (hS.wi o f v ho) ho
    rw [show n + nA ((f, .inr v) :: r) = n + nA r by rw [nA_cons]; show n + (0 + nA r) = _; omega, show s + nS ((f, .inr v) :: r) = s + nS r by show s + (0 + nS r) = _; omega]
    exact h1
theorem St.ct {L : Nat} {xs : Nat → Int32} {h : PH} {n s : Nat} {S R : List (Nat × Nat × Nat)} {E : Nat → Nat → Int32} (hS : St L xs h n s S R E) : h_ct h = n := hS.1
theorem St.sh {L : Nat} {xs : Nat → Int32} {h : PH} {n s : Nat} {S R : List (Nat × Nat × Nat)} {E : Nat → Nat → Int32} (hS : St L xs h n s S R E) (c : Nat) (q : Nat × Nat) (hq : (c, q) ∈ S) : h_sh h c = some q := (hS.2.2.2.1 (c, q) hq).2
def e_0 : Nat → Nat → Int32 := fun _ _ => 0
def S_o1 : List (Nat × Nat × Nat) := [(0, 0, 11)]
def S_o3 : List (Nat × Nat × Nat) := mS 3 L_Gr_init [(2, 0, 3), (1, 2, 600), (0, 0, 11)]
def R_o3 : List (Nat × Nat × Nat) := mR 2 3 L_Gr_init [(0, 0, 1)]
def S_o5 : List (Nat × Nat × Nat) := mS 9 L_Te_init ((8, 0, 7) :: S_o3)
def R_o5 : List (Nat × Nat × Nat) := mR 8 9 L_Te_init ((0, 2, 2) :: R_o3)
def E_o5 : Nat → Nat → Int32 := mE 8 L_Te_init (mE 2 L_Gr_init e_0)
def S_ow : List (Nat × Nat × Nat) := mS 14 L_Wo_init ((13, 0, 10) :: S_o5)
def R_ow : List (Nat × Nat × Nat) := (0, 4, 13) :: mR 13 14 L_Wo_init ((0, 3, 8) :: R_o5)
def E_ow : Nat → Nat → Int32 := mE 13 L_Wo_init E_o5
def S_md : List (Nat × Nat × Nat) := mS 18 L_Md_init ((17, 0, 12) :: S_ow)
def R_md : List (Nat × Nat × Nat) := mR 17 18 L_Md_init R_ow
def E_md : Nat → Nat → Int32 := mE 17 L_Md_init E_ow
theorem i_Ow {d L : Nat} {xs : Nat → Int32} {h : PH} {Q : PQ} (hS : St L xs h 1 13 S_o1 [] e_0) (k : ∀ h', St L xs h' 17 3157 S_ow R_ow E_ow → Q none h') : wpm (d + 2) 117 [.ref 0] h Q := by
  refine wpm_in P_Ow_init rfl (by decide) (by show ¬ 1 < 1; decide) ?_
  refine B_Ow_init_0 (h := h) (r0 := 0) ((sh_new_lt (by rw [hS.ct]; decide)).trans (hS.sh 0 (0, 11) (by decide))) ?_
  have s2 := (hS.new (2, 600) 600).wr 0 0 hS.ct (by decide)
  generalize w_r (h_new h (2, 600) 600) 0 0 (some (h_ct h)) = g2 at s2 ⊢
  have s3 := s2.new (0, 3) (fN 3)
  rw [s2.ct]
  generalize h_new g2 (0, 3) (fN 3) = g3 at s3 ⊢
  refine i_Gr_init (d := d) (o := 2) (by rw [s3.ct]; decide) (s3.sh 2 (0, 3) (by decide)) ?_
  have s4 := s3.mk 2 L_Gr_init (by decide)
  generalize mkO g3 2 L_Gr_init = g4 at s4 ⊢
  refine B_Ow_init_21 (h := g4) (r0 := 0) (q0 := 0) (q1 := 2) (s4.sh 0 (0, 11) (by decide +kernel)) ?_
  have s5 := s4.wr 0 2 (a := 2) rfl (by decide)
  generalize w_r g4 0 2 (some 2) = g5 at s5 ⊢
  have s6 := s5.new (0, 7) (fN 7)
  rw [show h_ct g5 = 8 from s5.ct]
  generalize h_new g5 (0, 7) (fN 7) = g6 at s6 ⊢
  refine i_Te_init (d := d) (o := 8) (by rw [s6.ct]; decide +kernel) (s6.sh 8 (0, 7) (by decide +kernel)) ?_
  have s7 := s6.mk 8 L_Te_init (by decide +kernel)
  generalize mkO g6 8 L_Te_init = g7 at s7 ⊢
  refine B_Ow_init_32 (h := g7) (r0 := 0) (q0 := 0) (q1 := 8) (s7.sh 0 (0, 11) (by decide +kernel)) ?_
  have s8 := s7.wr 0 3 (a := 8) rfl (by decide +kernel)
  generalize w_r g7 0 3 (some 8) = g8 at s8 ⊢
  have s9 := s8.new (0, 10) (fN 10)
  rw [show h_ct g8 = 13 from s8.ct]
  generalize h_new g8 (0, 10) (fN 10) = g9 at s9 ⊢
  refine i_Wo_init (d := d) (o := 13) (by rw [s9.ct]; decide +kernel) (s9.sh 13 (0, 10) (by decide +kernel)) ?_
  have s10 := s9.mk 13 L_Wo_init (by decide +kernel)
  generalize mkO g9 13 L_Wo_init = g10 at s10 ⊢
  refine B_Ow_init_43 (h := g10) (r0 := 0) (q0 := 0) (q1 := 13) (s10.sh 0 (0, 11) (by decide +kernel)) ?_
  exact k _ (s10.wr 0 4 (a := 13) rfl (by decide +kernel))
theorem i_Md {d L : Nat} {xs : Nat → Int32} {h : PH} {Q : PQ} (hS : St L xs h 18 3234 ((17, 0, 12) :: S_ow) R_ow E_ow) (k : ∀ h', St L xs h' 63 387407 S_md R_md E_md → Q none h') : wpm (d + 1) 169 [.ref 17] h Q :=
  i_Md_init (d := d) (o := 17) (by rw [hS.ct]; decide) (hS.sh 17 (0, 12) List.mem_cons_self) (k _ (hS.mk 17 L_Md_init (by decide)))
/-- what stands at the law's loop for the first time -/
def Start (L : Nat) (xs : Nat → Int32) (h : PH) : Prop := St L xs h 63 387407 S_md R_md E_md
/-- THE CLAIM out of an invariant that holds at the start and over each call -/
theorem law_runs (Inv : Nat → (Nat → Int32) → Nat → PH → Prop) (d : Nat) (hd : d + 2 ≤ 100) (I0 : ∀ L xs h, L ≤ 3072 → Start L xs h → Inv L xs 0 h) (I1 : ∀ L xs n h, Inv L xs n h → h_sc h = (L, xs) ∧ h_sh h 0 = some (0, 11) ∧ h_sh h 17 = some (0, 12))
    (I2 : ∀ L xs n h, n ≤ 512 → Inv L xs n h → h_ct h ≤ 574544 ∧ h_sl h ≤ 7302250) (I3 : ∀ L xs n h, Inv L xs n h → Inv L xs (n + 1) h) (hops : ∀ L xs, L ≤ 3072 → Ops (Inv L xs) (d + 2)) : LawRuns := by
  intro L xs hL
  have key : wpx (d + 2) P_Lw_law 0 [.retAddr 1, .retAddr 0, .retAddr 0, .retAddr 0] [] (ph0 L xs) (fun r h => r = some (.int 1) ∧ h_ct h ≤ 574544 ∧ h_sl h ≤ 7302250) := by
    have s0 : St L xs (ph0 L xs) 0 0 [] [] e_0 := ⟨rfl, rfl, rfl, fun q hq => absurd hq List.not_mem_nil, fun _ _ => rfl, fun _ _ => rfl, fun _ _ => rfl, fun _ _ _ => ⟨rfl, rfl⟩⟩
    refine B_Lw_law_0 (h := ph0 L xs) ?_
    have s1 := s0.new (0, 11) (fN 11)
    rw [s0.ct]
    generalize h_new (ph0 L xs) (0, 11) (fN 11) = g1 at s1 ⊢
    refine i_Ow (d := d) (L := L) (xs := xs) s1 (fun g2 s2 => ?_)
    refine B_Lw_law_7 (h := g2) (q0 := 0) ?_
    have s3 := s2.new (0, 12) (fN 12)
    rw [s2.ct]
    generalize h_new g2 (0, 12) (fN 12) = g3 at s3 ⊢
    refine i_Md (d := d + 1) s3 (fun g4 s4 => ?_)
    refine B_Lw_law_15 (h := g4) (r1 := 0) (q0 := 17) ?_
    exact law_loop (Inv := Inv L xs) hL (I1 L xs) (I3 L xs) (hops L xs hL) (fun n h hn hI => ⟨rfl, I2 L xs n h hn hI⟩) 512 0 rfl (by decide) g4 (I0 L xs g4 hL s4)
  obtain ⟨n, ⟨r, h⟩, h1, rfl, h3, h4⟩ := key
  exact ⟨n, d + 2, h, hd, h3, h4, h1⟩

def mdT : List (Nat × Nat × Nat × Nat) := [(1, 18, 1, 112), (2, 19, 1, 14), (3, 20, 1, 14), (7, 21, 1, 600), (8, 22, 1, 10), (9, 23, 1, 112), (10, 24, 1, 14), (11, 25, 1, 14), (23, 26, 1, 800), (27, 27, 1, 100), (28, 28, 1, 100), (29, 29, 1, 100), (30, 30, 1, 112), (31, 31, 1, 1400), (35, 32, 1, 80000), (36, 33, 1, 100), (37, 34, 1, 800), (39, 35, 1, 100), (40, 36, 4, 801), (43, 37, 1, 800), (44, 38, 1, 3000), (45, 39, 1, 100), (46, 40, 1, 40), (48, 41, 3, 801), (49, 42, 1, 4), (50, 43, 1, 4), (51, 44, 1, 2700), (52, 45, 3, 100), (54, 46, 4, 131072), (55, 47, 4, 32768), (56, 48, 3, 32768), (57, 49, 1, 32768), (58, 50, 1, 2), (59, 51, 4, 4), (60, 52, 4, 4), (63, 53, 4, 4), (64, 54, 4, 4), (65, 55, 1, 40000), (66, 56, 1, 2), (67, 57, 1, 20000), (68, 58, 1, 4), (69, 59, 3, 5), (72, 60, 1, 112), (73, 61, 3, 112), (75, 62, 1, 1692)]
/-- the model's cells: its field, the cell, the shape -/
def MdS (h : PH) : Prop := h_sh h 17 = some (0, 12) ∧ ∀ q ∈ mdT, h_r h 17 q.1 = some q.2.1 ∧ h_sh h q.2.1 = some q.2.2
set_option maxRecDepth 20000 in
theorem mdT_ok : ∀ q ∈ mdT, rl R_md 17 q.1 = some q.2.1 ∧ q.2 ∈ S_md := by decide +kernel
set_option maxRecDepth 20000 in
theorem S_md_17 : ((17, 0, 12) : Nat × Nat × Nat) ∈ S_md := by decide +kernel
theorem MdS_start {L : Nat} {xs : Nat → Int32} {h : PH} (s : Start L xs h) : MdS h := by
  refine ⟨s.sh 17 (0, 12) S_md_17, fun q hq => ?_⟩
  obtain ⟨a1, a2⟩ := mdT_ok q hq
  exact ⟨(s.2.2.2.2.1 17 q.1).trans a1, s.sh q.2.1 q.2.2 a2⟩
theorem mr_letters {h : PH} (hM : MdS h) : h_r h 17 1 = some 18 := (hM.2 (1, 18, 1, 112) (List.mem_of_getElem? (i := 0) rfl)).1
theorem ms_letters {h : PH} (hM : MdS h) : h_sh h 18 = some (1, 112) := (hM.2 (1, 18, 1, 112) (List.mem_of_getElem? (i := 0) rfl)).2
theorem mr_size {h : PH} (hM : MdS h) : h_r h 17 2 = some 19 := (hM.2 (2, 19, 1, 14) (List.mem_of_getElem? (i := 1) rfl)).1
theorem ms_size {h : PH} (hM : MdS h) : h_sh h 19 = some (1, 14) := (hM.2 (2, 19, 1, 14) (List.mem_of_getElem? (i := 1) rfl)).2
theorem mr_soundOf {h : PH} (hM : MdS h) : h_r h 17 3 = some 20 := (hM.2 (3, 20, 1, 14) (List.mem_of_getElem? (i := 2) rfl)).1
theorem ms_soundOf {h : PH} (hM : MdS h) : h_sh h 20 = some (1, 14) := (hM.2 (3, 20, 1, 14) (List.mem_of_getElem? (i := 2) rfl)).2
theorem mr_tape {h : PH} (hM : MdS h) : h_r h 17 7 = some 21 := (hM.2 (7, 21, 1, 600) (List.mem_of_getElem? (i := 3) rfl)).1
theorem ms_tape {h : PH} (hM : MdS h) : h_sh h 21 = some (1, 600) := (hM.2 (7, 21, 1, 600) (List.mem_of_getElem? (i := 3) rfl)).2
theorem mr_nameRead {h : PH} (hM : MdS h) : h_r h 17 8 = some 22 := (hM.2 (8, 22, 1, 10) (List.mem_of_getElem? (i := 4) rfl)).1
theorem ms_nameRead {h : PH} (hM : MdS h) : h_sh h 22 = some (1, 10) := (hM.2 (8, 22, 1, 10) (List.mem_of_getElem? (i := 4) rfl)).2
theorem mr_lettersRead {h : PH} (hM : MdS h) : h_r h 17 9 = some 23 := (hM.2 (9, 23, 1, 112) (List.mem_of_getElem? (i := 5) rfl)).1
theorem ms_lettersRead {h : PH} (hM : MdS h) : h_sh h 23 = some (1, 112) := (hM.2 (9, 23, 1, 112) (List.mem_of_getElem? (i := 5) rfl)).2
theorem mr_sizeRead {h : PH} (hM : MdS h) : h_r h 17 10 = some 24 := (hM.2 (10, 24, 1, 14) (List.mem_of_getElem? (i := 6) rfl)).1
theorem ms_sizeRead {h : PH} (hM : MdS h) : h_sh h 24 = some (1, 14) := (hM.2 (10, 24, 1, 14) (List.mem_of_getElem? (i := 6) rfl)).2
theorem mr_soundRead {h : PH} (hM : MdS h) : h_r h 17 11 = some 25 := (hM.2 (11, 25, 1, 14) (List.mem_of_getElem? (i := 7) rfl)).1
theorem ms_soundRead {h : PH} (hM : MdS h) : h_sh h 25 = some (1, 14) := (hM.2 (11, 25, 1, 14) (List.mem_of_getElem? (i := 7) rfl)).2
theorem mr_word {h : PH} (hM : MdS h) : h_r h 17 23 = some 26 := (hM.2 (23, 26, 1, 800) (List.mem_of_getElem? (i := 8) rfl)).1
theorem ms_word {h : PH} (hM : MdS h) : h_sh h 26 = some (1, 800) := (hM.2 (23, 26, 1, 800) (List.mem_of_getElem? (i := 8) rfl)).2
theorem mr_tailGroup {h : PH} (hM : MdS h) : h_r h 17 27 = some 27 := (hM.2 (27, 27, 1, 100) (List.mem_of_getElem? (i := 9) rfl)).1
theorem ms_tailGroup {h : PH} (hM : MdS h) : h_sh h 27 = some (1, 100) := (hM.2 (27, 27, 1, 100) (List.mem_of_getElem? (i := 9) rfl)).2
theorem mr_tailAt {h : PH} (hM : MdS h) : h_r h 17 28 = some 28 := (hM.2 (28, 28, 1, 100) (List.mem_of_getElem? (i := 10) rfl)).1
theorem ms_tailAt {h : PH} (hM : MdS h) : h_sh h 28 = some (1, 100) := (hM.2 (28, 28, 1, 100) (List.mem_of_getElem? (i := 10) rfl)).2
theorem mr_roundOf {h : PH} (hM : MdS h) : h_r h 17 29 = some 29 := (hM.2 (29, 29, 1, 100) (List.mem_of_getElem? (i := 11) rfl)).1
theorem ms_roundOf {h : PH} (hM : MdS h) : h_sh h 29 = some (1, 100) := (hM.2 (29, 29, 1, 100) (List.mem_of_getElem? (i := 11) rfl)).2
theorem mr_endOf {h : PH} (hM : MdS h) : h_r h 17 30 = some 30 := (hM.2 (30, 30, 1, 112) (List.mem_of_getElem? (i := 12) rfl)).1
theorem ms_endOf {h : PH} (hM : MdS h) : h_sh h 30 = some (1, 112) := (hM.2 (30, 30, 1, 112) (List.mem_of_getElem? (i := 12) rfl)).2
theorem mr_toTail {h : PH} (hM : MdS h) : h_r h 17 31 = some 31 := (hM.2 (31, 31, 1, 1400) (List.mem_of_getElem? (i := 13) rfl)).1
theorem ms_toTail {h : PH} (hM : MdS h) : h_sh h 31 = some (1, 1400) := (hM.2 (31, 31, 1, 1400) (List.mem_of_getElem? (i := 13) rfl)).2
theorem mr_best {h : PH} (hM : MdS h) : h_r h 17 35 = some 32 := (hM.2 (35, 32, 1, 80000) (List.mem_of_getElem? (i := 14) rfl)).1
theorem ms_best {h : PH} (hM : MdS h) : h_sh h 32 = some (1, 80000) := (hM.2 (35, 32, 1, 80000) (List.mem_of_getElem? (i := 14) rfl)).2
theorem mr_bestSize {h : PH} (hM : MdS h) : h_r h 17 36 = some 33 := (hM.2 (36, 33, 1, 100) (List.mem_of_getElem? (i := 15) rfl)).1
theorem ms_bestSize {h : PH} (hM : MdS h) : h_sh h 33 = some (1, 100) := (hM.2 (36, 33, 1, 100) (List.mem_of_getElem? (i := 15) rfl)).2
theorem mr_trial {h : PH} (hM : MdS h) : h_r h 17 37 = some 34 := (hM.2 (37, 34, 1, 800) (List.mem_of_getElem? (i := 16) rfl)).1
theorem ms_trial {h : PH} (hM : MdS h) : h_sh h 34 = some (1, 800) := (hM.2 (37, 34, 1, 800) (List.mem_of_getElem? (i := 16) rfl)).2
theorem mr_more {h : PH} (hM : MdS h) : h_r h 17 39 = some 35 := (hM.2 (39, 35, 1, 100) (List.mem_of_getElem? (i := 17) rfl)).1
theorem ms_more {h : PH} (hM : MdS h) : h_sh h 35 = some (1, 100) := (hM.2 (39, 35, 1, 100) (List.mem_of_getElem? (i := 17) rfl)).2
theorem mr_ways {h : PH} (hM : MdS h) : h_r h 17 40 = some 36 := (hM.2 (40, 36, 4, 801) (List.mem_of_getElem? (i := 18) rfl)).1
theorem ms_ways {h : PH} (hM : MdS h) : h_sh h 36 = some (4, 801) := (hM.2 (40, 36, 4, 801) (List.mem_of_getElem? (i := 18) rfl)).2
theorem mr_firstRow {h : PH} (hM : MdS h) : h_r h 17 43 = some 37 := (hM.2 (43, 37, 1, 800) (List.mem_of_getElem? (i := 19) rfl)).1
theorem ms_firstRow {h : PH} (hM : MdS h) : h_sh h 37 = some (1, 800) := (hM.2 (43, 37, 1, 800) (List.mem_of_getElem? (i := 19) rfl)).2
theorem mr_cover {h : PH} (hM : MdS h) : h_r h 17 44 = some 38 := (hM.2 (44, 38, 1, 3000) (List.mem_of_getElem? (i := 20) rfl)).1
theorem ms_cover {h : PH} (hM : MdS h) : h_sh h 38 = some (1, 3000) := (hM.2 (44, 38, 1, 3000) (List.mem_of_getElem? (i := 20) rfl)).2
theorem mr_coverSize {h : PH} (hM : MdS h) : h_r h 17 45 = some 39 := (hM.2 (45, 39, 1, 100) (List.mem_of_getElem? (i := 21) rfl)).1
theorem ms_coverSize {h : PH} (hM : MdS h) : h_sh h 39 = some (1, 100) := (hM.2 (45, 39, 1, 100) (List.mem_of_getElem? (i := 21) rfl)).2
theorem mr_least {h : PH} (hM : MdS h) : h_r h 17 46 = some 40 := (hM.2 (46, 40, 1, 40) (List.mem_of_getElem? (i := 22) rfl)).1
theorem ms_least {h : PH} (hM : MdS h) : h_sh h 40 = some (1, 40) := (hM.2 (46, 40, 1, 40) (List.mem_of_getElem? (i := 22) rfl)).2
theorem mr_comesTo {h : PH} (hM : MdS h) : h_r h 17 48 = some 41 := (hM.2 (48, 41, 3, 801) (List.mem_of_getElem? (i := 23) rfl)).1
theorem ms_comesTo {h : PH} (hM : MdS h) : h_sh h 41 = some (3, 801) := (hM.2 (48, 41, 3, 801) (List.mem_of_getElem? (i := 23) rfl)).2
theorem mr_told {h : PH} (hM : MdS h) : h_r h 17 49 = some 42 := (hM.2 (49, 42, 1, 4) (List.mem_of_getElem? (i := 24) rfl)).1
theorem ms_told {h : PH} (hM : MdS h) : h_sh h 42 = some (1, 4) := (hM.2 (49, 42, 1, 4) (List.mem_of_getElem? (i := 24) rfl)).2
theorem mr_chosen {h : PH} (hM : MdS h) : h_r h 17 50 = some 43 := (hM.2 (50, 43, 1, 4) (List.mem_of_getElem? (i := 25) rfl)).1
theorem ms_chosen {h : PH} (hM : MdS h) : h_sh h 43 = some (1, 4) := (hM.2 (50, 43, 1, 4) (List.mem_of_getElem? (i := 25) rfl)).2
theorem mr_nodeNext {h : PH} (hM : MdS h) : h_r h 17 51 = some 44 := (hM.2 (51, 44, 1, 2700) (List.mem_of_getElem? (i := 26) rfl)).1
theorem ms_nodeNext {h : PH} (hM : MdS h) : h_sh h 44 = some (1, 2700) := (hM.2 (51, 44, 1, 2700) (List.mem_of_getElem? (i := 26) rfl)).2
theorem mr_nodeEnds {h : PH} (hM : MdS h) : h_r h 17 52 = some 45 := (hM.2 (52, 45, 3, 100) (List.mem_of_getElem? (i := 27) rfl)).1
theorem ms_nodeEnds {h : PH} (hM : MdS h) : h_sh h 45 = some (3, 100) := (hM.2 (52, 45, 3, 100) (List.mem_of_getElem? (i := 27) rfl)).2
theorem mr_keys {h : PH} (hM : MdS h) : h_r h 17 54 = some 46 := (hM.2 (54, 46, 4, 131072) (List.mem_of_getElem? (i := 28) rfl)).1
theorem ms_keys {h : PH} (hM : MdS h) : h_sh h 46 = some (4, 131072) := (hM.2 (54, 46, 4, 131072) (List.mem_of_getElem? (i := 28) rfl)).2
theorem mr_counts {h : PH} (hM : MdS h) : h_r h 17 55 = some 47 := (hM.2 (55, 47, 4, 32768) (List.mem_of_getElem? (i := 29) rfl)).1
theorem ms_counts {h : PH} (hM : MdS h) : h_sh h 47 = some (4, 32768) := (hM.2 (55, 47, 4, 32768) (List.mem_of_getElem? (i := 29) rfl)).2
theorem mr_isTaken {h : PH} (hM : MdS h) : h_r h 17 56 = some 48 := (hM.2 (56, 48, 3, 32768) (List.mem_of_getElem? (i := 30) rfl)).1
theorem ms_isTaken {h : PH} (hM : MdS h) : h_sh h 48 = some (3, 32768) := (hM.2 (56, 48, 3, 32768) (List.mem_of_getElem? (i := 30) rfl)).2
theorem mr_taken {h : PH} (hM : MdS h) : h_r h 17 57 = some 49 := (hM.2 (57, 49, 1, 32768) (List.mem_of_getElem? (i := 31) rfl)).1
theorem ms_taken {h : PH} (hM : MdS h) : h_sh h 49 = some (1, 32768) := (hM.2 (57, 49, 1, 32768) (List.mem_of_getElem? (i := 31) rfl)).2
theorem mr_takenMany {h : PH} (hM : MdS h) : h_r h 17 58 = some 50 := (hM.2 (58, 50, 1, 2) (List.mem_of_getElem? (i := 32) rfl)).1
theorem ms_takenMany {h : PH} (hM : MdS h) : h_sh h 50 = some (1, 2) := (hM.2 (58, 50, 1, 2) (List.mem_of_getElem? (i := 32) rfl)).2
theorem mr_from {h : PH} (hM : MdS h) : h_r h 17 59 = some 51 := (hM.2 (59, 51, 4, 4) (List.mem_of_getElem? (i := 33) rfl)).1
theorem ms_from {h : PH} (hM : MdS h) : h_sh h 51 = some (4, 4) := (hM.2 (59, 51, 4, 4) (List.mem_of_getElem? (i := 33) rfl)).2
theorem mr_to {h : PH} (hM : MdS h) : h_r h 17 60 = some 52 := (hM.2 (60, 52, 4, 4) (List.mem_of_getElem? (i := 34) rfl)).1
theorem ms_to {h : PH} (hM : MdS h) : h_sh h 52 = some (4, 4) := (hM.2 (60, 52, 4, 4) (List.mem_of_getElem? (i := 34) rfl)).2
theorem mr_here {h : PH} (hM : MdS h) : h_r h 17 63 = some 53 := (hM.2 (63, 53, 4, 4) (List.mem_of_getElem? (i := 35) rfl)).1
theorem ms_here {h : PH} (hM : MdS h) : h_sh h 53 = some (4, 4) := (hM.2 (63, 53, 4, 4) (List.mem_of_getElem? (i := 35) rfl)).2
theorem mr_gone {h : PH} (hM : MdS h) : h_r h 17 64 = some 54 := (hM.2 (64, 54, 4, 4) (List.mem_of_getElem? (i := 36) rfl)).1
theorem ms_gone {h : PH} (hM : MdS h) : h_sh h 54 = some (4, 4) := (hM.2 (64, 54, 4, 4) (List.mem_of_getElem? (i := 36) rfl)).2
theorem mr_open {h : PH} (hM : MdS h) : h_r h 17 65 = some 55 := (hM.2 (65, 55, 1, 40000) (List.mem_of_getElem? (i := 37) rfl)).1
theorem ms_open {h : PH} (hM : MdS h) : h_sh h 55 = some (1, 40000) := (hM.2 (65, 55, 1, 40000) (List.mem_of_getElem? (i := 37) rfl)).2
theorem mr_openMany {h : PH} (hM : MdS h) : h_r h 17 66 = some 56 := (hM.2 (66, 56, 1, 2) (List.mem_of_getElem? (i := 38) rfl)).1
theorem ms_openMany {h : PH} (hM : MdS h) : h_sh h 56 = some (1, 2) := (hM.2 (66, 56, 1, 2) (List.mem_of_getElem? (i := 38) rfl)).2
theorem mr_border {h : PH} (hM : MdS h) : h_r h 17 67 = some 57 := (hM.2 (67, 57, 1, 20000) (List.mem_of_getElem? (i := 39) rfl)).1
theorem ms_border {h : PH} (hM : MdS h) : h_sh h 57 = some (1, 20000) := (hM.2 (67, 57, 1, 20000) (List.mem_of_getElem? (i := 39) rfl)).2
theorem mr_its {h : PH} (hM : MdS h) : h_r h 17 68 = some 58 := (hM.2 (68, 58, 1, 4) (List.mem_of_getElem? (i := 40) rfl)).1
theorem ms_its {h : PH} (hM : MdS h) : h_sh h 58 = some (1, 4) := (hM.2 (68, 58, 1, 4) (List.mem_of_getElem? (i := 40) rfl)).2
theorem mr_isEnd {h : PH} (hM : MdS h) : h_r h 17 69 = some 59 := (hM.2 (69, 59, 3, 5) (List.mem_of_getElem? (i := 41) rfl)).1
theorem ms_isEnd {h : PH} (hM : MdS h) : h_sh h 59 = some (3, 5) := (hM.2 (69, 59, 3, 5) (List.mem_of_getElem? (i := 41) rfl)).2
theorem mr_line {h : PH} (hM : MdS h) : h_r h 17 72 = some 60 := (hM.2 (72, 60, 1, 112) (List.mem_of_getElem? (i := 42) rfl)).1
theorem ms_line {h : PH} (hM : MdS h) : h_sh h 60 = some (1, 112) := (hM.2 (72, 60, 1, 112) (List.mem_of_getElem? (i := 42) rfl)).2
theorem mr_isIn {h : PH} (hM : MdS h) : h_r h 17 73 = some 61 := (hM.2 (73, 61, 3, 112) (List.mem_of_getElem? (i := 43) rfl)).1
theorem ms_isIn {h : PH} (hM : MdS h) : h_sh h 61 = some (3, 112) := (hM.2 (73, 61, 3, 112) (List.mem_of_getElem? (i := 43) rfl)).2
theorem mr_kept {h : PH} (hM : MdS h) : h_r h 17 75 = some 62 := (hM.2 (75, 62, 1, 1692) (List.mem_of_getElem? (i := 44) rfl)).1
theorem ms_kept {h : PH} (hM : MdS h) : h_sh h 62 = some (1, 1692) := (hM.2 (75, 62, 1, 1692) (List.mem_of_getElem? (i := 44) rfl)).2
/-- the class's cells that are made at its start: object, field, cell, shape -/
def owT : List (Nat × Nat × Nat × Nat × Nat) := [(0, 0, 1, 2, 600), (2, 0, 3, 4, 14), (2, 1, 4, 1, 14), (2, 2, 5, 1, 14), (2, 7, 6, 1, 12), (2, 8, 7, 1, 12), (8, 0, 9, 4, 10), (8, 2, 10, 4, 14), (8, 3, 11, 1, 14), (8, 4, 12, 1, 14), (13, 0, 14, 2, 800), (13, 2, 15, 4, 801), (13, 3, 16, 3, 801), (0, 2, 2, 0, 3), (0, 3, 8, 0, 7), (0, 4, 13, 0, 10)]
def OwS (h : PH) : Prop := h_sh h 0 = some (0, 11) ∧ ∀ q ∈ owT, h_r h q.1 q.2.1 = some q.2.2.1 ∧ h_sh h q.2.2.1 = some q.2.2.2
set_option maxRecDepth 20000 in
theorem owT_ok : ∀ q ∈ owT, rl R_md q.1 q.2.1 = some q.2.2.1 ∧ q.2.2 ∈ S_md := by decide +kernel
set_option maxRecDepth 20000 in
theorem S_md_0 : ((0, 0, 11) : Nat × Nat × Nat) ∈ S_md := by decide +kernel
theorem OwS_start {L : Nat} {xs : Nat → Int32} {h : PH} (s : Start L xs h) : OwS h := by
  refine ⟨s.sh 0 (0, 11) S_md_0, fun q hq => ?_⟩
  obtain ⟨a1, a2⟩ := owT_ok q hq
  exact ⟨(s.2.2.2.2.1 q.1 q.2.1).trans a1, s.sh q.2.2.1 q.2.2.2 a2⟩
set_option maxRecDepth 20000 in
/-- at the start nothing is made lazily yet -/
theorem lazy_none : ∀ k ∈ [5, 6, 7, 8, 9, 10, 11, 12], rl R_md 0 k = none := by decide +kernel
theorem E_md_eq : ∀ c k, E_md c k = if c = 17 ∧ k = 18 then -1 else if c = 8 ∧ k = 8 then -1 else 0 := fun _ _ => rfl
theorem or_tape {h : PH} (hO : OwS h) : h_r h 0 0 = some 1 := (hO.2 (0, 0, 1, 2, 600) (List.mem_of_getElem? (i := 0) rfl)).1
theorem os_tape {h : PH} (hO : OwS h) : h_sh h 1 = some (2, 600) := (hO.2 (0, 0, 1, 2, 600) (List.mem_of_getElem? (i := 0) rfl)).2
theorem or_g_code {h : PH} (hO : OwS h) : h_r h 2 0 = some 3 := (hO.2 (2, 0, 3, 4, 14) (List.mem_of_getElem? (i := 1) rfl)).1
theorem os_g_code {h : PH} (hO : OwS h) : h_sh h 3 = some (4, 14) := (hO.2 (2, 0, 3, 4, 14) (List.mem_of_getElem? (i := 1) rfl)).2
theorem or_g_length {h : PH} (hO : OwS h) : h_r h 2 1 = some 4 := (hO.2 (2, 1, 4, 1, 14) (List.mem_of_getElem? (i := 2) rfl)).1
theorem os_g_length {h : PH} (hO : OwS h) : h_sh h 4 = some (1, 14) := (hO.2 (2, 1, 4, 1, 14) (List.mem_of_getElem? (i := 2) rfl)).2
theorem or_g_sound {h : PH} (hO : OwS h) : h_r h 2 2 = some 5 := (hO.2 (2, 2, 5, 1, 14) (List.mem_of_getElem? (i := 3) rfl)).1
theorem os_g_sound {h : PH} (hO : OwS h) : h_sh h 5 = some (1, 14) := (hO.2 (2, 2, 5, 1, 14) (List.mem_of_getElem? (i := 3) rfl)).2
theorem or_g_actWay {h : PH} (hO : OwS h) : h_r h 2 7 = some 6 := (hO.2 (2, 7, 6, 1, 12) (List.mem_of_getElem? (i := 4) rfl)).1
theorem os_g_actWay {h : PH} (hO : OwS h) : h_sh h 6 = some (1, 12) := (hO.2 (2, 7, 6, 1, 12) (List.mem_of_getElem? (i := 4) rfl)).2
theorem or_g_actMask {h : PH} (hO : OwS h) : h_r h 2 8 = some 7 := (hO.2 (2, 8, 7, 1, 12) (List.mem_of_getElem? (i := 5) rfl)).1
theorem os_g_actMask {h : PH} (hO : OwS h) : h_sh h 7 = some (1, 12) := (hO.2 (2, 8, 7, 1, 12) (List.mem_of_getElem? (i := 5) rfl)).2
theorem or_t_name {h : PH} (hO : OwS h) : h_r h 8 0 = some 9 := (hO.2 (8, 0, 9, 4, 10) (List.mem_of_getElem? (i := 6) rfl)).1
theorem os_t_name {h : PH} (hO : OwS h) : h_sh h 9 = some (4, 10) := (hO.2 (8, 0, 9, 4, 10) (List.mem_of_getElem? (i := 6) rfl)).2
theorem or_t_code {h : PH} (hO : OwS h) : h_r h 8 2 = some 10 := (hO.2 (8, 2, 10, 4, 14) (List.mem_of_getElem? (i := 7) rfl)).1
theorem os_t_code {h : PH} (hO : OwS h) : h_sh h 10 = some (4, 14) := (hO.2 (8, 2, 10, 4, 14) (List.mem_of_getElem? (i := 7) rfl)).2
theorem or_t_length {h : PH} (hO : OwS h) : h_r h 8 3 = some 11 := (hO.2 (8, 3, 11, 1, 14) (List.mem_of_getElem? (i := 8) rfl)).1
theorem os_t_length {h : PH} (hO : OwS h) : h_sh h 11 = some (1, 14) := (hO.2 (8, 3, 11, 1, 14) (List.mem_of_getElem? (i := 8) rfl)).2
theorem or_t_sound {h : PH} (hO : OwS h) : h_r h 8 4 = some 12 := (hO.2 (8, 4, 12, 1, 14) (List.mem_of_getElem? (i := 9) rfl)).1
theorem os_t_sound {h : PH} (hO : OwS h) : h_sh h 12 = some (1, 14) := (hO.2 (8, 4, 12, 1, 14) (List.mem_of_getElem? (i := 9) rfl)).2
theorem or_w_sign {h : PH} (hO : OwS h) : h_r h 13 0 = some 14 := (hO.2 (13, 0, 14, 2, 800) (List.mem_of_getElem? (i := 10) rfl)).1
theorem os_w_sign {h : PH} (hO : OwS h) : h_sh h 14 = some (2, 800) := (hO.2 (13, 0, 14, 2, 800) (List.mem_of_getElem? (i := 10) rfl)).2
theorem or_w_ways {h : PH} (hO : OwS h) : h_r h 13 2 = some 15 := (hO.2 (13, 2, 15, 4, 801) (List.mem_of_getElem? (i := 11) rfl)).1
theorem os_w_ways {h : PH} (hO : OwS h) : h_sh h 15 = some (4, 801) := (hO.2 (13, 2, 15, 4, 801) (List.mem_of_getElem? (i := 11) rfl)).2
theorem or_w_reached {h : PH} (hO : OwS h) : h_r h 13 3 = some 16 := (hO.2 (13, 3, 16, 3, 801) (List.mem_of_getElem? (i := 12) rfl)).1
theorem os_w_reached {h : PH} (hO : OwS h) : h_sh h 16 = some (3, 801) := (hO.2 (13, 3, 16, 3, 801) (List.mem_of_getElem? (i := 12) rfl)).2
theorem or_groups {h : PH} (hO : OwS h) : h_r h 0 2 = some 2 := (hO.2 (0, 2, 2, 0, 3) (List.mem_of_getElem? (i := 13) rfl)).1
theorem os_groups {h : PH} (hO : OwS h) : h_sh h 2 = some (0, 3) := (hO.2 (0, 2, 2, 0, 3) (List.mem_of_getElem? (i := 13) rfl)).2
theorem or_teller {h : PH} (hO : OwS h) : h_r h 0 3 = some 8 := (hO.2 (0, 3, 8, 0, 7) (List.mem_of_getElem? (i := 14) rfl)).1
theorem os_teller {h : PH} (hO : OwS h) : h_sh h 8 = some (0, 7) := (hO.2 (0, 3, 8, 0, 7) (List.mem_of_getElem? (i := 14) rfl)).2
theorem or_theWord {h : PH} (hO : OwS h) : h_r h 0 4 = some 13 := (hO.2 (0, 4, 13, 0, 10) (List.mem_of_getElem? (i := 15) rfl)).1
theorem os_theWord {h : PH} (hO : OwS h) : h_sh h 13 = some (0, 10) := (hO.2 (0, 4, 13, 0, 10) (List.mem_of_getElem? (i := 15) rfl)).2
