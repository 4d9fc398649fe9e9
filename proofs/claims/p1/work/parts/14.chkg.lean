/-! the law checks, by stretches -/
set_option maxRecDepth 100000 in
theorem lk_840 : codeBr P_Lw_law 840 120 = true := by decide +kernel
set_option maxRecDepth 100000 in
theorem lk_960 : codeBr P_Lw_law 960 120 = true := by decide +kernel
set_option maxRecDepth 100000 in
theorem lk_1080 : codeBr P_Lw_law 1080 120 = true := by decide +kernel
