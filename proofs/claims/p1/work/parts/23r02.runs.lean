/-! runs -/
set_option maxRecDepth 1000000 in
theorem s_run_6 : s_chk s_P 20000 0 0 [(0, (4, 0, 0))] [] [] ((s_iv.set 21 (6, 6)).set 22 (6, 6)) 0 0 s_fin = true := by decide +kernel
set_option maxRecDepth 1000000 in
theorem s_run_7 : s_chk s_P 20000 0 0 [(0, (4, 0, 0))] [] [] ((s_iv.set 21 (7, 7)).set 22 (6, 6)) 0 0 s_fin = true := by decide +kernel
set_option maxRecDepth 1000000 in
theorem s_run_8 : s_chk s_P 20000 0 0 [(0, (4, 0, 0))] [] [] ((s_iv.set 21 (8, 8)).set 22 (6, 6)) 0 0 s_fin = true := by decide +kernel
set_option maxRecDepth 1000000 in
theorem s_run_9 : s_chk s_P 20000 0 0 [(0, (4, 0, 0))] [] [] ((s_iv.set 21 (9, 9)).set 22 (6, 6)) 0 0 s_fin = true := by decide +kernel
set_option maxRecDepth 1000000 in
theorem s_run_10 : s_chk s_P 20000 0 0 [(0, (4, 0, 0))] [] [] ((s_iv.set 21 (10, 10)).set 22 (6, 6)) 0 0 s_fin = true := by decide +kernel
set_option maxRecDepth 1000000 in
theorem s_run_11 : s_chk s_P 20000 0 0 [(0, (4, 0, 0))] [] [] ((s_iv.set 21 (11, 11)).set 22 (6, 6)) 0 0 s_fin = true := by decide +kernel
