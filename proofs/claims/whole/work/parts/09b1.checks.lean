/-! THE TABLES' CHECKS, BY THE KERNEL -/
theorem s_m_6 : (List.range 16).all (fun i => s_mok (i + 84)) = true := by decide +kernel
theorem s_m_7 : (List.range 13).all (fun i => s_mok (i + 100)) = true := by decide +kernel
theorem s_m_8 : (List.range 9).all (fun i => s_mok (i + 113)) = true := by decide +kernel
theorem s_m_9 : (List.range 8).all (fun i => s_mok (i + 122)) = true := by decide +kernel
theorem s_m_10 : (List.range 11).all (fun i => s_mok (i + 130)) = true := by decide +kernel
theorem s_m_11 : (List.range 10).all (fun i => s_mok (i + 141)) = true := by decide +kernel
