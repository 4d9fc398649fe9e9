/-! nth, on the fresh object -/
def hN (g : PH) : PH := w_l (w_l (w_l (w_l g 53 0 1) 53 1 0) 53 2 0) 53 3 0
def gMx : PH := ro 19 3000 256 [.ref 17] (w_i (w_i gCe 13 1 0) 17 0 0)
set_option maxRecDepth 100000 in
theorem v_0 : ckW (hN gMw) 0 1 = true := by decide +kernel
set_option maxRecDepth 100000 in
theorem v_1 : ckW (hN gMw) 1 0 = true := by decide +kernel
set_option maxRecDepth 100000 in
theorem v_2 : ckW (hN gMw) 2 0 = true := by decide +kernel
set_option maxRecDepth 100000 in
theorem v_3 : ckW (hN gMw) 3 0 = true := by decide +kernel
set_option maxRecDepth 100000 in
theorem v_4 : ckW (hN gMw) 4 0 = true := by decide +kernel
set_option maxRecDepth 100000 in
theorem v_5 : ckW (hN gMw) 5 0 = true := by decide +kernel
set_option maxRecDepth 100000 in
theorem v_6 : ckW (hN gMw) 6 0 = true := by decide +kernel
set_option maxRecDepth 100000 in
theorem v_7 : ckW (hN gMw) 7 0 = true := by decide +kernel
set_option maxRecDepth 100000 in
theorem v_8 : ckW (hN gMw) 8 0 = true := by decide +kernel
set_option maxRecDepth 100000 in
theorem v_9 : ckW (hN gMw) 9 0 = true := by decide +kernel
set_option maxRecDepth 100000 in
theorem v_10 : ckW (hN gMw) 10 0 = true := by decide +kernel
set_option maxRecDepth 100000 in
theorem v_x : ckW (hN gMx) 0 1 = true := by decide +kernel
theorem v_all (n : Nat) (hn : n ≤ 10) : ckW (hN gMw) (nI n) (wv n) = true := by
  match n, hn with
  | 0, _ => exact v_0
  | 1, _ => exact v_1
  | 2, _ => exact v_2
  | 3, _ => exact v_3
  | 4, _ => exact v_4
  | 5, _ => exact v_5
  | 6, _ => exact v_6
  | 7, _ => exact v_7
  | 8, _ => exact v_8
  | 9, _ => exact v_9
  | 10, _ => exact v_10
  | n + 11, hn => exact absurd hn (by omega)
def NthM (P : Nat → Prop) (g g2 : PH) : Prop := fx_run 19 3000 256 [.ref 17] (w_i g 17 0 0) = some (none, g2) ∧ h_sh g 17 = some (0, 12) ∧ h_sh g2 17 = some (0, 12) ∧ h_r g2 17 63 = some 53 ∧ h_r g2 17 59 = some 51 ∧ h_sh g2 51 = some (4, 4) ∧ h_sh g2 53 = some (4, 4) ∧ h_l g2 51 0 = 1 ∧ h_l g2 51 1 = 0 ∧ h_l g2 51 2 = 0 ∧ h_l g2 51 3 = 0 ∧ ∀ n, P n → ckW (hN g2) (nI n) (wv n) = true
set_option maxRecDepth 100000 in
theorem b_nth : ∃ g g2 g3, fx_run 19 3000 154 [.ref 0] H0 = some (some (.ref 63), g) ∧ h_sh g 63 = some (0, 1) ∧ h_r g 63 2 = some 66 ∧ h_sh g 66 = some (4, 704) ∧ (∀ n, n < 11 → h_l g 66 n = wv n) ∧ h_sh g 0 = some (0, 11) ∧ h_r g 0 4 = some 13 ∧ h_sh g 13 = some (0, 10) ∧ NthM (fun n => n ≤ 10) g g2 ∧ NthM (fun n => n = 0) (w_i g 13 1 0) g3 :=
  ⟨gCe, gMw, gMx, ev_of (by decide +kernel), by decide +kernel, by decide +kernel, by decide +kernel, by decide +kernel, by decide +kernel, by decide +kernel, by decide +kernel,
    ⟨ev_of (by decide +kernel), by decide +kernel, by decide +kernel, by decide +kernel, by decide +kernel, by decide +kernel, by decide +kernel, by decide +kernel, by decide +kernel, by decide +kernel, by decide +kernel, v_all⟩,
    ⟨ev_of (by decide +kernel), by decide +kernel, by decide +kernel, by decide +kernel, by decide +kernel, by decide +kernel, by decide +kernel, by decide +kernel, by decide +kernel, by decide +kernel, by decide +kernel, (fun n hn => by rw [hn]; exact v_x)⟩⟩
