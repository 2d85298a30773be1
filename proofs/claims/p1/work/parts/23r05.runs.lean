/-! runs -/
set_option maxRecDepth 1000000 in
theorem s_run_18_6 : s_chk s_P 20000 0 0 [(0, (4, 0, 0))] [] [] (((s_iv.set 21 (18, 18)).set 22 (6, 6)).set 2 (6, 6)) 0 0 s_fin = true := by decide +kernel
set_option maxRecDepth 1000000 in
theorem s_run_18_7 : s_chk s_P 20000 0 0 [(0, (4, 0, 0))] [] [] (((s_iv.set 21 (18, 18)).set 22 (6, 6)).set 2 (7, 7)) 0 0 s_fin = true := by decide +kernel
set_option maxRecDepth 1000000 in
theorem s_run_18_8 : s_chk s_P 20000 0 0 [(0, (4, 0, 0))] [] [] (((s_iv.set 21 (18, 18)).set 22 (6, 6)).set 2 (8, 8)) 0 0 s_fin = true := by decide +kernel
set_option maxRecDepth 1000000 in
theorem s_run_18_9 : s_chk s_P 20000 0 0 [(0, (4, 0, 0))] [] [] (((s_iv.set 21 (18, 18)).set 22 (6, 6)).set 2 (9, 9)) 0 0 s_fin = true := by decide +kernel
set_option maxRecDepth 1000000 in
theorem s_run_18_10 : s_chk s_P 20000 0 0 [(0, (4, 0, 0))] [] [] (((s_iv.set 21 (18, 18)).set 22 (6, 6)).set 2 (10, 10)) 0 0 s_fin = true := by decide +kernel
set_option maxRecDepth 1000000 in
theorem s_run_18_11 : s_chk s_P 20000 0 0 [(0, (4, 0, 0))] [] [] (((s_iv.set 21 (18, 18)).set 22 (6, 6)).set 2 (11, 11)) 0 0 s_fin = true := by decide +kernel
