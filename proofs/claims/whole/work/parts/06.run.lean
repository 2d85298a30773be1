def s_fin (z : sZ) : Bool := Nat.beq z.1 1 && (s_ile 1 z.2.1.2.1 && (s_ile z.2.1.2.1 1 && Nat.beq z.2.1.2.2 0))
set_option maxRecDepth 1000000 in
theorem s_test0 : s_chk s_P 20000 0 0 [(0, (4, 0, 0))] [] [] (s_iv.set 21 (0, 0)) 0 0 s_fin = true := by decide +kernel
set_option maxRecDepth 1000000 in
theorem s_test8 : s_chk s_P 20000 0 0 [(0, (4, 0, 0))] [] [] (s_iv.set 21 (8, 8)) 0 0 s_fin = true := by decide +kernel
