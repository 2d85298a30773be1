/-! runs -/
set_option maxRecDepth 1000000 in
theorem s_run_12 : s_chk s_P 20000 0 0 [(0, (4, 0, 0))] [] [] ((s_iv.set 21 (12, 12)).set 22 (6, 6)) 0 0 s_fin = true := by decide +kernel
set_option maxRecDepth 1000000 in
theorem s_run_13 : s_chk s_P 20000 0 0 [(0, (4, 0, 0))] [] [] ((s_iv.set 21 (13, 13)).set 22 (6, 6)) 0 0 s_fin = true := by decide +kernel
set_option maxRecDepth 1000000 in
theorem s_run_14 : s_chk s_P 20000 0 0 [(0, (4, 0, 0))] [] [] ((s_iv.set 21 (14, 14)).set 22 (6, 6)) 0 0 s_fin = true := by decide +kernel
set_option maxRecDepth 1000000 in
theorem s_run_15 : s_chk s_P 20000 0 0 [(0, (4, 0, 0))] [] [] ((s_iv.set 21 (15, 15)).set 22 (6, 6)) 0 0 s_fin = true := by decide +kernel
set_option maxRecDepth 1000000 in
theorem s_run_16 : s_chk s_P 20000 0 0 [(0, (4, 0, 0))] [] [] ((s_iv.set 21 (16, 16)).set 22 (6, 6)) 0 0 s_fin = true := by decide +kernel
set_option maxRecDepth 1000000 in
theorem s_run_17 : s_chk s_P 20000 0 0 [(0, (4, 0, 0))] [] [] ((s_iv.set 21 (17, 17)).set 22 (6, 6)) 0 0 s_fin = true := by decide +kernel
