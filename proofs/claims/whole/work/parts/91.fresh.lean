def slk (S : List (Nat × Nat × Nat)) (c : Nat) : Option (Nat × Nat) := (S.find? (fun q => q.1 == c)).map (·.2)
/-! the heap at the start, whole; runs from it by the kernel -/
def H0 : PH := (slk S_md, E_md, fun _ _ => 0, rl R_md, 63, 387407, 0, fun _ => 0)
theorem sh_sets (h : PH) (s : Nat × (Nat → Int32)) (c : Nat) : h_sh (sets h s) c = h_sh h c := rfl
theorem hi_sets (h : PH) (s : Nat × (Nat → Int32)) (c k : Nat) : h_i (sets h s) c k = h_i h c k := rfl
theorem hl_sets (h : PH) (s : Nat × (Nat → Int32)) (c k : Nat) : h_l (sets h s) c k = h_l h c k := rfl
theorem hr_sets (h : PH) (s : Nat × (Nat → Int32)) (c k : Nat) : h_r (sets h s) c k = h_r h c k := rfl
theorem ct_sets (h : PH) (s : Nat × (Nat → Int32)) : h_ct (sets h s) = h_ct h := rfl
theorem sl_sets (h : PH) (s : Nat × (Nat → Int32)) : h_sl (sets h s) = h_sl h := rfl
theorem wi_sets (h : PH) (s : Nat × (Nat → Int32)) (c k : Nat) (v : Int32) : w_i (sets h s) c k v = sets (w_i h c k v) s := rfl
theorem wl_sets (h : PH) (s : Nat × (Nat → Int32)) (c k : Nat) (v : Int64) : w_l (sets h s) c k v = sets (w_l h c k v) s := rfl
theorem wr_sets (h : PH) (s : Nat × (Nat → Int32)) (c k : Nat) (v : Option Nat) : w_r (sets h s) c k v = sets (w_r h c k v) s := rfl
theorem new_sets (h : PH) (s : Nat × (Nat → Int32)) (q : Nat × Nat) (n : Nat) : h_new (sets h s) q n = sets (h_new h q n) s := rfl
/-- what holds behind a call, so that the law can end -/
def okh (h : PH) : Bool := decide (h_sh h 0 = some (0, 11)) && decide (h_sh h 17 = some (0, 12)) && decide (h_ct h ≤ 600000) && decide (h_sl h ≤ 7302250)
def Fin1 (s : Nat × (Nat → Int32)) (h : PH) : Prop := ∃ g, h = sets g s ∧ okh g = true
def Inv1 (L : Nat) (xs : Nat → Int32) (n : Nat) (h : PH) : Prop := (n = 0 → h = sets H0 (L, xs)) ∧ Fin1 (L, xs) h
theorem ok_H0 : okh H0 = true := by decide +kernel
/-- the heap behind a run -/
def ro (d n id : Nat) (args : List Value) (h : PH) : PH := ((px_run mOf d n id args h).getD (none, h)).2
def rv (d n id : Nat) (args : List Value) (h : PH) : Option (Option Value) := (px_run mOf d n id args h).map (·.1)
theorem ev_of {d n id : Nat} {args : List Value} {h : PH} {r : Option Value} (e : rv d n id args h = some r) : px_run mOf d n id args h = some (r, ro d n id args h) := by
  unfold rv at e
  unfold ro
  cases hx : px_run mOf d n id args h with
  | none => rw [hx] at e; cases e
  | some q =>
    rw [hx] at e
    cases e
    rfl
theorem wpm_ev {d n id : Nat} {args : List Value} {h : PH} {s : Nat × (Nat → Int32)} {Q : PQ} {r : Option Value} (e : rv d n id args h = some r) (q : Q r (sets (ro d n id args h) s)) : wpm d id args (sets h s) Q :=
  ⟨n, (r, sets (ro d n id args h) s), run_sc n d id args h s _ (ev_of e), q⟩
/-- both calls by the kernel -/
def chk (h0 : PH) (d n ic im : Nat) (as : List Value) (v : Value) : Bool := match px_run mOf d n ic (.ref 0 :: as) h0 with
  | some (some v1, h1) => decide (v1 = v) && decide (h_sh h1 17 = some (0, 12)) && (match px_run mOf d n im (.ref 17 :: as) h1 with
    | some (some v2, h2) => decide (v2 = v) && okh h2
    | _ => false)
  | _ => false
theorem chk_of {d n ic im : Nat} {as : List Value} {v : Value} (e : chk H0 d n ic im as v = true) : ∃ h1 h2, px_run mOf d n ic (.ref 0 :: as) H0 = some (some v, h1) ∧ h_sh h1 17 = some (0, 12) ∧ px_run mOf d n im (.ref 17 :: as) h1 = some (some v, h2) ∧ okh h2 = true := by
  unfold chk at e
  split at e
  next v1 h1 e1 =>
    simp only [Bool.and_eq_true, decide_eq_true_eq] at e
    obtain ⟨⟨rfl, e2⟩, e3⟩ := e
    split at e3
    next v2 h2 e4 =>
      simp only [Bool.and_eq_true, decide_eq_true_eq] at e3
      obtain ⟨rfl, e5⟩ := e3
      exact ⟨h1, h2, e1, e2, e4, e5⟩
    · cases e3
  · cases e
theorem op_i {d n ic im : Nat} {as : List Value} {v : Int32} (e : chk H0 d n ic im as (.int v) = true) (L : Nat) (xs : Nat → Int32) : OpI (Inv1 L xs) d ic im as 0 := by
  obtain ⟨h1, h2, e1, e2, e3, e4⟩ := chk_of e
  intro h hI
  obtain rfl := hI.1 rfl
  refine ⟨n, (some (.int v), sets h1 (L, xs)), run_sc n d _ _ _ _ _ e1, v, rfl, rfl, e2, ?_⟩
  exact ⟨n, (some (.int v), sets h2 (L, xs)), run_sc n d _ _ _ _ _ e3, rfl, (fun q => by cases q), h2, rfl, e4⟩
theorem op_l {d n ic im : Nat} {as : List Value} {v : Int64} (e : chk H0 d n ic im as (.long v) = true) (L : Nat) (xs : Nat → Int32) : OpL (Inv1 L xs) d ic im as 0 := by
  obtain ⟨h1, h2, e1, e2, e3, e4⟩ := chk_of e
  intro h hI
  obtain rfl := hI.1 rfl
  refine ⟨n, (some (.long v), sets h1 (L, xs)), run_sc n d _ _ _ _ _ e1, v, rfl, rfl, e2, ?_⟩
  exact ⟨n, (some (.long v), sets h2 (L, xs)), run_sc n d _ _ _ _ _ e3, rfl, (fun q => by cases q), h2, rfl, e4⟩
/-- a call whose class side ends at a heap that is known -/
theorem og_s {d ic im : Nat} {as : List Value} {v : Int32} {g : PH} (hg : h_sh g 17 = some (0, 12)) (hc : ∀ s (Q : PQ), Q (some (.int v)) (sets g s) → wpm d ic (.ref 0 :: as) (sets H0 s) Q) (hm : ∀ s (Q : PQ), (∀ h2, Fin1 s h2 → Q (some (.int v)) h2) → wpm d im (.ref 17 :: as) (sets g s) Q) (L : Nat) (xs : Nat → Int32) : OpI (Inv1 L xs) d ic im as 0 := by
  intro h hI
  obtain rfl := hI.1 rfl
  refine hc (L, xs) _ ⟨v, rfl, rfl, hg, ?_⟩
  exact hm (L, xs) _ (fun h2 q => ⟨rfl, (fun z => by cases z), q⟩)
theorem og_l {d ic im : Nat} {as : List Value} {v : Int64} {g : PH} (hg : h_sh g 17 = some (0, 12)) (hc : ∀ s (Q : PQ), Q (some (.long v)) (sets g s) → wpm d ic (.ref 0 :: as) (sets H0 s) Q) (hm : ∀ s (Q : PQ), (∀ h2, Fin1 s h2 → Q (some (.long v)) h2) → wpm d im (.ref 17 :: as) (sets g s) Q) (L : Nat) (xs : Nat → Int32) : OpL (Inv1 L xs) d ic im as 0 := by
  intro h hI
  obtain rfl := hI.1 rfl
  refine hc (L, xs) _ ⟨v, rfl, rfl, hg, ?_⟩
  exact hm (L, xs) _ (fun h2 q => ⟨rfl, (fun z => by cases z), q⟩)
set_option maxRecDepth 100000 in
theorem q_2 : chk H0 20 3000 120 194 [] (.int 0) = true := by decide +kernel
set_option maxRecDepth 100000 in
theorem q_7 : chk H0 20 3000 125 212 [] (.int 1) = true := by decide +kernel
set_option maxRecDepth 100000 in
theorem q_10 : chk H0 20 3000 128 215 [] (.int (-1)) = true := by decide +kernel
set_option maxRecDepth 100000 in
theorem q_12 : chk H0 20 3000 130 222 [] (.int 0) = true := by decide +kernel
set_option maxRecDepth 100000 in
theorem q_14 : chk H0 20 3000 132 227 [] (.int 0) = true := by decide +kernel
set_option maxRecDepth 100000 in
theorem q_16 : chk H0 20 3000 134 229 [] (.long 1) = true := by decide +kernel
set_option maxRecDepth 100000 in
theorem q_18 : chk H0 20 3000 136 232 [] (.int 1) = true := by decide +kernel
set_option maxRecDepth 100000 in
theorem q_22 : chk H0 20 3000 140 241 [] (.int 0) = true := by decide +kernel
set_option maxRecDepth 100000 in
theorem q_33 : chk H0 20 3000 151 280 [] (.int 0) = true := by decide +kernel
set_option maxRecDepth 100000 in
theorem q_13_0 : chk H0 20 3000 131 224 [.int 0] (.long 0) = true := by decide +kernel
set_option maxRecDepth 100000 in
theorem q_13_1 : chk H0 20 3000 131 224 [.int 1] (.long 1) = true := by decide +kernel
set_option maxRecDepth 100000 in
theorem q_30 : ∀ w ∈ [(0 : Int32), 1, 2], chk H0 20 3000 148 276 [.int w] (.int 0) = true := by decide +kernel
set_option maxRecDepth 100000 in
theorem q_31 : ∀ w ∈ [(0 : Int32), 1, 2], chk H0 20 3000 149 278 [.int w] (.int (-1)) = true := by decide +kernel
set_option maxRecDepth 100000 in
theorem q_19 : ∀ w ∈ [(0 : Int32), 1, 2], chk H0 20 3000 137 234 [.int w] (.int 0) = true := by decide +kernel
set_option maxRecDepth 100000 in
theorem q_21 : ∀ w ∈ [(0 : Int32), 1, 2], chk H0 20 3000 139 240 [.int w] (.int (-1)) = true := by decide +kernel
