/-! runs -/
set_option maxRecDepth 1000000 in
theorem s_run_35 : s_chk s_P 20000 0 0 [(0, (4, 0, 0))] [] [] ((s_iv.set 21 (35, 35)).set 22 (6, 6)) 0 0 s_fin = true := by decide +kernel
set_option maxRecDepth 1000000 in
theorem s_run_36 : s_chk s_P 20000 0 0 [(0, (4, 0, 0))] [] [] ((s_iv.set 21 (36, 36)).set 22 (6, 6)) 0 0 s_fin = true := by decide +kernel
set_option maxRecDepth 1000000 in
theorem s_run_37 : s_chk s_P 20000 0 0 [(0, (4, 0, 0))] [] [] ((s_iv.set 21 (37, 37)).set 22 (6, 6)) 0 0 s_fin = true := by decide +kernel
set_option maxRecDepth 1000000 in
theorem s_run_38 : s_chk s_P 20000 0 0 [(0, (4, 0, 0))] [] [] ((s_iv.set 21 (38, 38)).set 22 (6, 6)) 0 0 s_fin = true := by decide +kernel
set_option maxRecDepth 1000000 in
theorem s_run_39 : s_chk s_P 20000 0 0 [(0, (4, 0, 0))] [] [] ((s_iv.set 21 (39, 39)).set 22 (6, 6)) 0 0 s_fin = true := by decide +kernel
set_option maxRecDepth 1000000 in
theorem s_run_40 : s_chk s_P 20000 0 0 [(0, (4, 0, 0))] [] [] ((s_iv.set 21 (40, 40)).set 22 (6, 6)) 0 0 s_fin = true := by decide +kernel
