/-! THE TABLES' CHECKS, BY THE KERNEL -/
theorem s_m_0 : (List.range 15).all (fun i => s_mok (i + 1)) = true := by decide +kernel
theorem s_m_1 : (List.range 16).all (fun i => s_mok (i + 16)) = true := by decide +kernel
theorem s_m_2 : (List.range 20).all (fun i => s_mok (i + 32)) = true := by decide +kernel
theorem s_m_3 : (List.range 10).all (fun i => s_mok (i + 52)) = true := by decide +kernel
theorem s_m_4 : (List.range 8).all (fun i => s_mok (i + 62)) = true := by decide +kernel
theorem s_m_5 : (List.range 14).all (fun i => s_mok (i + 70)) = true := by decide +kernel
