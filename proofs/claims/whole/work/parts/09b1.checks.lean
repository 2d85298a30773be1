/-! THE TABLES' CHECKS, BY THE KERNEL -/
theorem s_m_6 : (List.range 10).all (fun i => s_mok (i + 61)) = true := by decide +kernel
theorem s_m_7 : (List.range 10).all (fun i => s_mok (i + 71)) = true := by decide +kernel
theorem s_m_8 : (List.range 10).all (fun i => s_mok (i + 81)) = true := by decide +kernel
theorem s_m_9 : (List.range 10).all (fun i => s_mok (i + 91)) = true := by decide +kernel
theorem s_m_10 : (List.range 10).all (fun i => s_mok (i + 101)) = true := by decide +kernel
theorem s_m_11 : (List.range 10).all (fun i => s_mok (i + 111)) = true := by decide +kernel
