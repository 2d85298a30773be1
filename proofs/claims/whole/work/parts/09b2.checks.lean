/-! THE TABLES' CHECKS, BY THE KERNEL -/
theorem s_m_12 : (List.range 6).all (fun i => s_mok (i + 151)) = true := by decide +kernel
theorem s_m_13 : (List.range 9).all (fun i => s_mok (i + 157)) = true := by decide +kernel
theorem s_m_14 : (List.range 10).all (fun i => s_mok (i + 166)) = true := by decide +kernel
theorem s_m_15 : (List.range 17).all (fun i => s_mok (i + 176)) = true := by decide +kernel
theorem s_m_16 : (List.range 11).all (fun i => s_mok (i + 193)) = true := by decide +kernel
