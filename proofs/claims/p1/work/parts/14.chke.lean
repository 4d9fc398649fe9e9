/-! the law checks, by stretches -/
def codeBr (M : PM) (a n : Nat) : Bool := (((m_code M).drop a).take n).zipIdx.all (fun q => chkI mOf mlT mlN M (a + q.2) q.1)
set_option maxRecDepth 100000 in
theorem lk_0 : codeBr P_Lw_law 0 120 = true := by decide +kernel
set_option maxRecDepth 100000 in
theorem lk_120 : codeBr P_Lw_law 120 120 = true := by decide +kernel
set_option maxRecDepth 100000 in
theorem lk_240 : codeBr P_Lw_law 240 120 = true := by decide +kernel
set_option maxRecDepth 100000 in
theorem lk_360 : codeBr P_Lw_law 360 120 = true := by decide +kernel
