/-! THE TABLES' CHECKS, BY THE KERNEL -/
theorem s_m_0 : (List.range 2).all (fun i => s_mok (i + 1)) = true := by decide +kernel
theorem s_m_1 : (List.range 5).all (fun i => s_mok (i + 3)) = true := by decide +kernel
theorem s_m_2 : (List.range 10).all (fun i => s_mok (i + 8)) = true := by decide +kernel
theorem s_m_3 : (List.range 5).all (fun i => s_mok (i + 18)) = true := by decide +kernel
theorem s_m_4 : (List.range 7).all (fun i => s_mok (i + 23)) = true := by decide +kernel
theorem s_m_5 : (List.range 7).all (fun i => s_mok (i + 30)) = true := by decide +kernel
theorem s_m_6 : (List.range 8).all (fun i => s_mok (i + 37)) = true := by decide +kernel
theorem s_m_7 : (List.range 8).all (fun i => s_mok (i + 45)) = true := by decide +kernel
theorem s_m_8 : (List.range 4).all (fun i => s_mok (i + 53)) = true := by decide +kernel
theorem s_m_9 : (List.range 3).all (fun i => s_mok (i + 57)) = true := by decide +kernel
