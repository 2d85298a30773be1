/-! runs -/
set_option maxRecDepth 1000000 in
theorem s_run_23 : s_chk s_P 20000 0 0 [(0, (4, 0, 0))] [] [] ((s_iv.set 21 (23, 23)).set 22 (6, 6)) 0 0 s_fin = true := by decide +kernel
set_option maxRecDepth 1000000 in
theorem s_run_24 : s_chk s_P 20000 0 0 [(0, (4, 0, 0))] [] [] ((s_iv.set 21 (24, 24)).set 22 (6, 6)) 0 0 s_fin = true := by decide +kernel
set_option maxRecDepth 1000000 in
theorem s_run_25 : s_chk s_P 20000 0 0 [(0, (4, 0, 0))] [] [] ((s_iv.set 21 (25, 25)).set 22 (6, 6)) 0 0 s_fin = true := by decide +kernel
set_option maxRecDepth 1000000 in
theorem s_run_26 : s_chk s_P 20000 0 0 [(0, (4, 0, 0))] [] [] ((s_iv.set 21 (26, 26)).set 22 (6, 6)) 0 0 s_fin = true := by decide +kernel
set_option maxRecDepth 1000000 in
theorem s_run_27 : s_chk s_P 20000 0 0 [(0, (4, 0, 0))] [] [] ((s_iv.set 21 (27, 27)).set 22 (6, 6)) 0 0 s_fin = true := by decide +kernel
set_option maxRecDepth 1000000 in
theorem s_run_28 : s_chk s_P 20000 0 0 [(0, (4, 0, 0))] [] [] ((s_iv.set 21 (28, 28)).set 22 (6, 6)) 0 0 s_fin = true := by decide +kernel
