/-! runs -/
set_option maxRecDepth 1000000 in
theorem s_run_18_24 : s_chk s_P 20000 0 0 [(0, (4, 0, 0))] [] [] (((s_iv.set 21 (18, 18)).set 22 (6, 6)).set 2 (24, 24)) 0 0 s_fin = true := by decide +kernel
set_option maxRecDepth 1000000 in
theorem s_run_18_25 : s_chk s_P 20000 0 0 [(0, (4, 0, 0))] [] [] (((s_iv.set 21 (18, 18)).set 22 (6, 6)).set 2 (25, 25)) 0 0 s_fin = true := by decide +kernel
set_option maxRecDepth 1000000 in
theorem s_run_18_26 : s_chk s_P 20000 0 0 [(0, (4, 0, 0))] [] [] (((s_iv.set 21 (18, 18)).set 22 (6, 6)).set 2 (26, 26)) 0 0 s_fin = true := by decide +kernel
set_option maxRecDepth 1000000 in
theorem s_run_18_27 : s_chk s_P 20000 0 0 [(0, (4, 0, 0))] [] [] (((s_iv.set 21 (18, 18)).set 22 (6, 6)).set 2 (27, 27)) 0 0 s_fin = true := by decide +kernel
set_option maxRecDepth 1000000 in
theorem s_run_18_28 : s_chk s_P 20000 0 0 [(0, (4, 0, 0))] [] [] (((s_iv.set 21 (18, 18)).set 22 (6, 6)).set 2 (28, 28)) 0 0 s_fin = true := by decide +kernel
set_option maxRecDepth 1000000 in
theorem s_run_18_29 : s_chk s_P 20000 0 0 [(0, (4, 0, 0))] [] [] (((s_iv.set 21 (18, 18)).set 22 (6, 6)).set 2 (29, 29)) 0 0 s_fin = true := by decide +kernel
