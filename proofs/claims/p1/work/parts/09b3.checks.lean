/-! THE TABLES' CHECKS, BY THE KERNEL -/
theorem s_m_30 : (List.range 3).all (fun i => s_mok (i + 142)) = true := by decide +kernel
theorem s_m_31 : (List.range 6).all (fun i => s_mok (i + 145)) = true := by decide +kernel
theorem s_m_32 : (List.range 1).all (fun i => s_mok (i + 151)) = true := by decide +kernel
theorem s_m_33 : (List.range 3).all (fun i => s_mok (i + 152)) = true := by decide +kernel
theorem s_m_34 : (List.range 2).all (fun i => s_mok (i + 155)) = true := by decide +kernel
theorem s_m_35 : (List.range 5).all (fun i => s_mok (i + 157)) = true := by decide +kernel
theorem s_m_36 : (List.range 4).all (fun i => s_mok (i + 162)) = true := by decide +kernel
theorem s_m_37 : (List.range 1).all (fun i => s_mok (i + 166)) = true := by decide +kernel
theorem s_m_38 : (List.range 5).all (fun i => s_mok (i + 167)) = true := by decide +kernel
theorem s_m_39 : (List.range 4).all (fun i => s_mok (i + 172)) = true := by decide +kernel
