/-! THE TABLES' CHECKS, BY THE KERNEL -/
theorem s_m_0 : (List.range 10).all (fun i => s_mok (i + 1)) = true := by decide +kernel
theorem s_m_1 : (List.range 10).all (fun i => s_mok (i + 11)) = true := by decide +kernel
theorem s_m_2 : (List.range 10).all (fun i => s_mok (i + 21)) = true := by decide +kernel
theorem s_m_3 : (List.range 10).all (fun i => s_mok (i + 31)) = true := by decide +kernel
theorem s_m_4 : (List.range 10).all (fun i => s_mok (i + 41)) = true := by decide +kernel
theorem s_m_5 : (List.range 10).all (fun i => s_mok (i + 51)) = true := by decide +kernel
