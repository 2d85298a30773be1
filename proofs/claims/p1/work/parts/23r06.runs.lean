/-! runs -/
set_option maxRecDepth 1000000 in
theorem s_run_18_12 : s_chk s_P 20000 0 0 [(0, (4, 0, 0))] [] [] (((s_iv.set 21 (18, 18)).set 22 (6, 6)).set 2 (12, 12)) 0 0 s_fin = true := by decide +kernel
set_option maxRecDepth 1000000 in
theorem s_run_18_13 : s_chk s_P 20000 0 0 [(0, (4, 0, 0))] [] [] (((s_iv.set 21 (18, 18)).set 22 (6, 6)).set 2 (13, 13)) 0 0 s_fin = true := by decide +kernel
set_option maxRecDepth 1000000 in
theorem s_run_18_14 : s_chk s_P 20000 0 0 [(0, (4, 0, 0))] [] [] (((s_iv.set 21 (18, 18)).set 22 (6, 6)).set 2 (14, 14)) 0 0 s_fin = true := by decide +kernel
set_option maxRecDepth 1000000 in
theorem s_run_18_15 : s_chk s_P 20000 0 0 [(0, (4, 0, 0))] [] [] (((s_iv.set 21 (18, 18)).set 22 (6, 6)).set 2 (15, 15)) 0 0 s_fin = true := by decide +kernel
set_option maxRecDepth 1000000 in
theorem s_run_18_16 : s_chk s_P 20000 0 0 [(0, (4, 0, 0))] [] [] (((s_iv.set 21 (18, 18)).set 22 (6, 6)).set 2 (16, 16)) 0 0 s_fin = true := by decide +kernel
set_option maxRecDepth 1000000 in
theorem s_run_18_17 : s_chk s_P 20000 0 0 [(0, (4, 0, 0))] [] [] (((s_iv.set 21 (18, 18)).set 22 (6, 6)).set 2 (17, 17)) 0 0 s_fin = true := by decide +kernel
