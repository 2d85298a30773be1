/-! THE TABLES' CHECKS, BY THE KERNEL -/
theorem s_m_12 : (List.range 10).all (fun i => s_mok (i + 121)) = true := by decide +kernel
theorem s_m_13 : (List.range 10).all (fun i => s_mok (i + 131)) = true := by decide +kernel
theorem s_m_14 : (List.range 10).all (fun i => s_mok (i + 141)) = true := by decide +kernel
theorem s_m_15 : (List.range 10).all (fun i => s_mok (i + 151)) = true := by decide +kernel
theorem s_m_16 : (List.range 10).all (fun i => s_mok (i + 161)) = true := by decide +kernel
theorem s_m_17 : (List.range 10).all (fun i => s_mok (i + 171)) = true := by decide +kernel
