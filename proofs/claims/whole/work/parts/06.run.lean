set_option maxRecDepth 1000000 in
theorem s_test39 : s_chk s_P 2000 0 0 [(0, (4, 0, 0))] [] [] (s_iv.set 21 (39, 39)) 0 0 (fun z => Nat.beq z.1 1 && (s_ile 1 z.2.1.2.1 && (s_ile z.2.1.2.1 1 && Nat.beq z.2.1.2.2 0))) = true := by decide +kernel
