/-! THE TABLES' CHECKS, BY THE KERNEL -/
theorem s_m_18 : (List.range 10).all (fun i => s_mok (i + 181)) = true := by decide +kernel
theorem s_m_19 : (List.range 10).all (fun i => s_mok (i + 191)) = true := by decide +kernel
theorem s_m_20 : (List.range 3).all (fun i => s_mok (i + 201)) = true := by decide +kernel
theorem s_r0_0 : s_c0_0.all (s_rok 0) = true := by decide +kernel
theorem s_r0_1 : s_c0_1.all (s_rok 0) = true := by decide +kernel
theorem s_r0_2 : s_c0_2.all (s_rok 0) = true := by decide +kernel
