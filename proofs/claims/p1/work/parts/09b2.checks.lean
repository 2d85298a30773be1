/-! THE TABLES' CHECKS, BY THE KERNEL -/
theorem s_m_20 : (List.range 5).all (fun i => s_mok (i + 108)) = true := by decide +kernel
theorem s_m_21 : (List.range 2).all (fun i => s_mok (i + 113)) = true := by decide +kernel
theorem s_m_22 : (List.range 1).all (fun i => s_mok (i + 115)) = true := by decide +kernel
theorem s_m_23 : (List.range 6).all (fun i => s_mok (i + 116)) = true := by decide +kernel
theorem s_m_24 : (List.range 2).all (fun i => s_mok (i + 122)) = true := by decide +kernel
theorem s_m_25 : (List.range 3).all (fun i => s_mok (i + 124)) = true := by decide +kernel
theorem s_m_26 : (List.range 3).all (fun i => s_mok (i + 127)) = true := by decide +kernel
theorem s_m_27 : (List.range 4).all (fun i => s_mok (i + 130)) = true := by decide +kernel
theorem s_m_28 : (List.range 5).all (fun i => s_mok (i + 134)) = true := by decide +kernel
theorem s_m_29 : (List.range 3).all (fun i => s_mok (i + 139)) = true := by decide +kernel
