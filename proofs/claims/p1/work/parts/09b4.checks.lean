/-! THE TABLES' CHECKS, BY THE KERNEL -/
theorem s_m_40 : (List.range 6).all (fun i => s_mok (i + 176)) = true := by decide +kernel
theorem s_m_41 : (List.range 8).all (fun i => s_mok (i + 182)) = true := by decide +kernel
theorem s_m_42 : (List.range 5).all (fun i => s_mok (i + 190)) = true := by decide +kernel
theorem s_m_43 : (List.range 4).all (fun i => s_mok (i + 195)) = true := by decide +kernel
theorem s_m_44 : (List.range 5).all (fun i => s_mok (i + 199)) = true := by decide +kernel
