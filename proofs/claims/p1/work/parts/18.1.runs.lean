/-! THE RUNS OF THE CASES -/
set_option maxRecDepth 1000000 in
theorem rm_r_L0 : rm_chk (rm_runL 0 []) = true := by decide +kernel
set_option maxRecDepth 1000000 in
theorem rm_r_L1 : rm_chk (rm_runL 1 []) = true := by decide +kernel
set_option maxRecDepth 1000000 in
theorem rm_r_L2 : rm_chk (rm_runL 2 []) = true := by decide +kernel
set_option maxRecDepth 1000000 in
theorem rm_r_L3 : rm_chk (rm_runL 3 []) = true := by decide +kernel
set_option maxRecDepth 1000000 in
theorem rm_r_o4 : rm_chk (rm_runL 4 rm_cs_o4.2) = true := by decide +kernel
set_option maxRecDepth 1000000 in
theorem rm_r_o5 : rm_chk (rm_runL 4 rm_cs_o5.2) = true := by decide +kernel
set_option maxRecDepth 1000000 in
theorem rm_r_o6 : rm_chk (rm_runL 4 rm_cs_o6.2) = true := by decide +kernel
set_option maxRecDepth 1000000 in
theorem rm_r_o7 : rm_chk (rm_runL 4 rm_cs_o7.2) = true := by decide +kernel
set_option maxRecDepth 1000000 in
theorem rm_r_o8 : rm_chk (rm_runL 4 rm_cs_o8.2) = true := by decide +kernel
set_option maxRecDepth 1000000 in
theorem rm_r_o9 : rm_chk (rm_runL 4 rm_cs_o9.2) = true := by decide +kernel
set_option maxRecDepth 1000000 in
theorem rm_r_o10 : rm_chk (rm_runL 4 rm_cs_o10.2) = true := by decide +kernel
set_option maxRecDepth 1000000 in
theorem rm_r_o11 : rm_chk (rm_runL 4 rm_cs_o11.2) = true := by decide +kernel
set_option maxRecDepth 1000000 in
theorem rm_r_o12 : rm_chk (rm_runL 4 rm_cs_o12.2) = true := by decide +kernel
set_option maxRecDepth 1000000 in
theorem rm_r_o14 : rm_chk (rm_runL 4 rm_cs_o14.2) = true := by decide +kernel
set_option maxRecDepth 1000000 in
theorem rm_r_o15 : rm_chk (rm_runL 4 rm_cs_o15.2) = true := by decide +kernel
set_option maxRecDepth 1000000 in
theorem rm_r_o2 : rm_chk (rm_runL 4 rm_cs_o2.2) = true := by decide +kernel
set_option maxRecDepth 1000000 in
theorem rm_r_t0 : rm_chk (rm_runL 4 rm_cs_t0.2) = true := by decide +kernel
set_option maxRecDepth 1000000 in
theorem rm_r_t1 : rm_chk (rm_runL 4 rm_cs_t1.2) = true := by decide +kernel
set_option maxRecDepth 1000000 in
theorem rm_r_t2 : rm_chk (rm_runL 4 rm_cs_t2.2) = true := by decide +kernel
set_option maxRecDepth 1000000 in
theorem rm_r_c0 : rm_chk (rm_runL 4 rm_cs_c0.2) = true := by decide +kernel
set_option maxRecDepth 1000000 in
theorem rm_r_c1 : rm_chk (rm_runL 4 rm_cs_c1.2) = true := by decide +kernel
set_option maxRecDepth 1000000 in
theorem rm_r_c2 : rm_chk (rm_runL 4 rm_cs_c2.2) = true := by decide +kernel
set_option maxRecDepth 1000000 in
theorem rm_r_c3 : rm_chk (rm_runL 4 rm_cs_c3.2) = true := by decide +kernel
set_option maxRecDepth 1000000 in
theorem rm_r_c4 : rm_chk (rm_runL 4 rm_cs_c4.2) = true := by decide +kernel
set_option maxRecDepth 1000000 in
theorem rm_r_c5 : rm_chk (rm_runL 4 rm_cs_c5.2) = true := by decide +kernel
set_option maxRecDepth 1000000 in
theorem rm_r_e0 : rm_chk (rm_runL 4 rm_cs_e0.2) = true := by decide +kernel
set_option maxRecDepth 1000000 in
theorem rm_r_e1 : rm_chk (rm_runL 4 rm_cs_e1.2) = true := by decide +kernel
set_option maxRecDepth 1000000 in
theorem rm_r_e2 : rm_chk (rm_runL 4 rm_cs_e2.2) = true := by decide +kernel
