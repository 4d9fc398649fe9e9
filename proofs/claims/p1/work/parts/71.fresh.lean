/-! the heap at the start, whole; runs from it by the kernel -/
def H0 : PH := (slk S_md, E_md, fun _ _ => 0, rl R_md, 63, 387407, 0, fun _ => 0)
theorem sh_sets (h : PH) (s : Nat × (Nat → Int32)) (c : Nat) : h_sh (sets h s) c = h_sh h c := rfl
theorem hi_sets (h : PH) (s : Nat × (Nat → Int32)) (c k : Nat) : h_i (sets h s) c k = h_i h c k := rfl
theorem hl_sets (h : PH) (s : Nat × (Nat → Int32)) (c k : Nat) : h_l (sets h s) c k = h_l h c k := rfl
theorem hr_sets (h : PH) (s : Nat × (Nat → Int32)) (c k : Nat) : h_r (sets h s) c k = h_r h c k := rfl
theorem ct_sets (h : PH) (s : Nat × (Nat → Int32)) : h_ct (sets h s) = h_ct h := rfl
theorem sl_sets (h : PH) (s : Nat × (Nat → Int32)) : h_sl (sets h s) = h_sl h := rfl
theorem wi_sets (h : PH) (s : Nat × (Nat → Int32)) (c k : Nat) (v : Int32) : w_i (sets h s) c k v = sets (w_i h c k v) s := rfl
theorem wl_sets (h : PH) (s : Nat × (Nat → Int32)) (c k : Nat) (v : Int64) : w_l (sets h s) c k v = sets (w_l h c k v) s := rfl
theorem wr_sets (h : PH) (s : Nat × (Nat → Int32)) (c k : Nat) (v : Option Nat) : w_r (sets h s) c k v = sets (w_r h c k v) s := rfl
theorem new_sets (h : PH) (s : Nat × (Nat → Int32)) (q : Nat × Nat) (n : Nat) : h_new (sets h s) q n = sets (h_new h q n) s := rfl
/-- what holds behind a call, so that the law can end -/
def okh (h : PH) : Bool := decide (h_sh h 0 = some (0, 11)) && decide (h_sh h 17 = some (0, 12)) && decide (h_ct h ≤ 600000) && decide (h_sl h ≤ 7302250)
def Fin1 (s : Nat × (Nat → Int32)) (h : PH) : Prop := ∃ g, h = sets g s ∧ okh g = true
def Inv1 (L : Nat) (xs : Nat → Int32) (n : Nat) (h : PH) : Prop := (n = 0 → h = sets H0 (L, xs)) ∧ Fin1 (L, xs) h
theorem ok_H0 : okh H0 = true := by decide +kernel
