/-! runs -/
set_option maxRecDepth 1000000 in
theorem s_run_18_30 : s_chk s_P 20000 0 0 [(0, (4, 0, 0))] [] [] (((s_iv.set 21 (18, 18)).set 22 (6, 6)).set 2 (30, 30)) 0 0 s_fin = true := by decide +kernel
set_option maxRecDepth 1000000 in
theorem s_run_18h : s_chk s_P 20000 0 0 [(0, (4, 0, 0))] [] [] (((s_iv.set 21 (18, 18)).set 22 (6, 6)).set 2 (31, 2147483647)) 0 0 s_fin = true := by decide +kernel
set_option maxRecDepth 1000000 in
theorem s_run_19 : s_chk s_P 20000 0 0 [(0, (4, 0, 0))] [] [] ((s_iv.set 21 (19, 19)).set 22 (6, 6)) 0 0 s_fin = true := by decide +kernel
set_option maxRecDepth 1000000 in
theorem s_run_20 : s_chk s_P 20000 0 0 [(0, (4, 0, 0))] [] [] ((s_iv.set 21 (20, 20)).set 22 (6, 6)) 0 0 s_fin = true := by decide +kernel
set_option maxRecDepth 1000000 in
theorem s_run_21 : s_chk s_P 20000 0 0 [(0, (4, 0, 0))] [] [] ((s_iv.set 21 (21, 21)).set 22 (6, 6)) 0 0 s_fin = true := by decide +kernel
set_option maxRecDepth 1000000 in
theorem s_run_22 : s_chk s_P 20000 0 0 [(0, (4, 0, 0))] [] [] ((s_iv.set 21 (22, 22)).set 22 (6, 6)) 0 0 s_fin = true := by decide +kernel
