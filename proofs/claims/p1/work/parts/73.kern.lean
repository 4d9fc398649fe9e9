/-! both calls by the kernel, from the start -/
/-- the heap behind a run -/
def ro (d n id : Nat) (args : List Value) (h : PH) : PH := ((fx_run d n id args h).getD (none, h)).2
def rv (d n id : Nat) (args : List Value) (h : PH) : Option (Option Value) := (fx_run d n id args h).map (·.1)
theorem ev_of {d n id : Nat} {args : List Value} {h : PH} {r : Option Value} (e : rv d n id args h = some r) : fx_run d n id args h = some (r, ro d n id args h) := by
  unfold rv at e
  unfold ro
  cases hx : fx_run d n id args h with
  | none => rw [hx] at e; cases e
  | some q =>
    rw [hx] at e
    cases e
    rfl
theorem wpm_ev {d n id : Nat} {args : List Value} {h : PH} {s : Nat × (Nat → Int32)} {Q : PQ} {r : Option Value} (e : rv d n id args h = some r) (q : Q r (sets (ro d n id args h) s)) : wpm d id args (sets h s) Q :=
  fx_sc (ev_of e) q
def chk (h0 : PH) (d n ic im : Nat) (as : List Value) (v : Value) : Bool := match fx_run d n ic (.ref 0 :: as) h0 with
  | some (some v1, h1) => decide (v1 = v) && decide (h_sh h1 17 = some (0, 12)) && (match fx_run d n im (.ref 17 :: as) h1 with
    | some (some v2, h2) => decide (v2 = v) && okh h2
    | _ => false)
  | _ => false
theorem chk_of {h0 : PH} {d n ic im : Nat} {as : List Value} {v : Value} (e : chk h0 d n ic im as v = true) : ∃ h1 h2, fx_run d n ic (.ref 0 :: as) h0 = some (some v, h1) ∧ h_sh h1 17 = some (0, 12) ∧ fx_run d n im (.ref 17 :: as) h1 = some (some v, h2) ∧ okh h2 = true := by
  unfold chk at e
  split at e
  next v1 h1 e1 =>
    simp only [Bool.and_eq_true, decide_eq_true_eq] at e
    obtain ⟨⟨rfl, e2⟩, e3⟩ := e
    split at e3
    next v2 h2 e4 =>
      simp only [Bool.and_eq_true, decide_eq_true_eq] at e3
      obtain ⟨rfl, e5⟩ := e3
      exact ⟨h1, h2, e1, e2, e4, e5⟩
    · cases e3
  · cases e
theorem op_i {d n ic im : Nat} {as : List Value} {v : Int32} (e : chk H0 d n ic im as (.int v) = true) (L : Nat) (xs : Nat → Int32) : OpI (Inv1 L xs) d ic im as 0 := by
  obtain ⟨h1, h2, e1, e2, e3, e4⟩ := chk_of e
  intro h hI
  obtain rfl := hI.1 rfl
  refine fx_sc e1 ⟨v, rfl, rfl, e2, ?_⟩
  exact fx_sc e3 ⟨rfl, (fun q => by cases q), h2, rfl, e4⟩
theorem op_l {d n ic im : Nat} {as : List Value} {v : Int64} (e : chk H0 d n ic im as (.long v) = true) (L : Nat) (xs : Nat → Int32) : OpL (Inv1 L xs) d ic im as 0 := by
  obtain ⟨h1, h2, e1, e2, e3, e4⟩ := chk_of e
  intro h hI
  obtain rfl := hI.1 rfl
  refine fx_sc e1 ⟨v, rfl, rfl, e2, ?_⟩
  exact fx_sc e3 ⟨rfl, (fun q => by cases q), h2, rfl, e4⟩
/-- a call whose class side ends at a heap that is known -/
theorem og_s {d ic im : Nat} {as : List Value} {v : Int32} {g : PH} (hg : h_sh g 17 = some (0, 12)) (hc : ∀ s (Q : PQ), Q (some (.int v)) (sets g s) → wpm d ic (.ref 0 :: as) (sets H0 s) Q) (hm : ∀ s (Q : PQ), (∀ h2, Fin1 s h2 → Q (some (.int v)) h2) → wpm d im (.ref 17 :: as) (sets g s) Q) (L : Nat) (xs : Nat → Int32) : OpI (Inv1 L xs) d ic im as 0 := by
  intro h hI
  obtain rfl := hI.1 rfl
  refine hc (L, xs) _ ⟨v, rfl, rfl, hg, ?_⟩
  exact hm (L, xs) _ (fun h2 q => ⟨rfl, (fun z => by cases z), q⟩)
theorem og_l {d ic im : Nat} {as : List Value} {v : Int64} {g : PH} (hg : h_sh g 17 = some (0, 12)) (hc : ∀ s (Q : PQ), Q (some (.long v)) (sets g s) → wpm d ic (.ref 0 :: as) (sets H0 s) Q) (hm : ∀ s (Q : PQ), (∀ h2, Fin1 s h2 → Q (some (.long v)) h2) → wpm d im (.ref 17 :: as) (sets g s) Q) (L : Nat) (xs : Nat → Int32) : OpL (Inv1 L xs) d ic im as 0 := by
  intro h hI
  obtain rfl := hI.1 rfl
  refine hc (L, xs) _ ⟨v, rfl, rfl, hg, ?_⟩
  exact hm (L, xs) _ (fun h2 q => ⟨rfl, (fun z => by cases z), q⟩)
set_option maxRecDepth 100000 in
theorem q_2 : chk H0 20 3000 120 195 [] (.int 0) = true := by decide +kernel
set_option maxRecDepth 100000 in
theorem q_7 : chk H0 20 3000 125 213 [] (.int 1) = true := by decide +kernel
set_option maxRecDepth 100000 in
theorem q_10 : chk H0 20 3000 128 216 [] (.int (-1)) = true := by decide +kernel
set_option maxRecDepth 100000 in
theorem q_12 : chk H0 20 3000 130 223 [] (.int 0) = true := by decide +kernel
set_option maxRecDepth 100000 in
theorem q_14 : chk H0 20 3000 132 228 [] (.int 0) = true := by decide +kernel
set_option maxRecDepth 100000 in
theorem q_16 : chk H0 20 3000 134 230 [] (.long 1) = true := by decide +kernel
set_option maxRecDepth 100000 in
theorem q_18 : chk H0 20 3000 136 233 [] (.int 1) = true := by decide +kernel
set_option maxRecDepth 100000 in
theorem q_22 : chk H0 20 3000 140 242 [] (.int 0) = true := by decide +kernel
set_option maxRecDepth 100000 in
theorem q_33 : chk H0 20 3000 151 281 [] (.int 0) = true := by decide +kernel
set_option maxRecDepth 100000 in
theorem q_13_0 : chk H0 20 3000 131 225 [.int 0] (.long 0) = true := by decide +kernel
set_option maxRecDepth 100000 in
theorem q_13_1 : chk H0 20 3000 131 225 [.int 1] (.long 1) = true := by decide +kernel
set_option maxRecDepth 100000 in
theorem q_30 : ∀ w ∈ [(0 : Int32), 1, 2], chk H0 20 3000 148 277 [.int w] (.int 0) = true := by decide +kernel
set_option maxRecDepth 100000 in
theorem q_31 : ∀ w ∈ [(0 : Int32), 1, 2], chk H0 20 3000 149 279 [.int w] (.int (-1)) = true := by decide +kernel
set_option maxRecDepth 100000 in
theorem q_19 : ∀ w ∈ [(0 : Int32), 1, 2], chk H0 20 3000 137 235 [.int w] (.int 0) = true := by decide +kernel
set_option maxRecDepth 100000 in
theorem q_21 : ∀ w ∈ [(0 : Int32), 1, 2], chk H0 20 3000 139 241 [.int w] (.int (-1)) = true := by decide +kernel
set_option maxRecDepth 100000 in
theorem q_11 : chk H0 20 3000 129 222 [] (.int (-1)) = true := by decide +kernel
set_option maxRecDepth 100000 in
theorem q_27 : chk H0 20 3000 145 261 [] (.long 0) = true := by decide +kernel
set_option maxRecDepth 100000 in
theorem q_28 : ∀ w ∈ [(1 : Int32), 2, 3, 4], chk H0 20 3000 146 268 [.int w] (.int 0) = true := by decide +kernel
