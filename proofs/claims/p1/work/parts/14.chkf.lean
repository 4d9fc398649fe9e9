/-! the law checks, by stretches -/
set_option maxRecDepth 100000 in
theorem lk_480 : codeBr P_Lw_law 480 120 = true := by decide +kernel
set_option maxRecDepth 100000 in
theorem lk_600 : codeBr P_Lw_law 600 120 = true := by decide +kernel
set_option maxRecDepth 100000 in
theorem lk_720 : codeBr P_Lw_law 720 120 = true := by decide +kernel
