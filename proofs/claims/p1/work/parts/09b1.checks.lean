/-! THE TABLES' CHECKS, BY THE KERNEL -/
theorem s_m_10 : (List.range 4).all (fun i => s_mok (i + 60)) = true := by decide +kernel
theorem s_m_11 : (List.range 3).all (fun i => s_mok (i + 64)) = true := by decide +kernel
theorem s_m_12 : (List.range 3).all (fun i => s_mok (i + 67)) = true := by decide +kernel
theorem s_m_13 : (List.range 4).all (fun i => s_mok (i + 70)) = true := by decide +kernel
theorem s_m_14 : (List.range 5).all (fun i => s_mok (i + 74)) = true := by decide +kernel
theorem s_m_15 : (List.range 6).all (fun i => s_mok (i + 79)) = true := by decide +kernel
theorem s_m_16 : (List.range 7).all (fun i => s_mok (i + 85)) = true := by decide +kernel
theorem s_m_17 : (List.range 6).all (fun i => s_mok (i + 92)) = true := by decide +kernel
theorem s_m_18 : (List.range 5).all (fun i => s_mok (i + 98)) = true := by decide +kernel
theorem s_m_19 : (List.range 5).all (fun i => s_mok (i + 103)) = true := by decide +kernel
