/-! what follows from the checks -/
theorem s_cus_ok9 : s_cus.all s_cok = true := by decide +kernel
theorem s_ath_ok9 : [0, 1, 2, 3, 5].all s_ath = true := by decide +kernel
theorem s_cus_ok {ci : Nat} (hc : ci ∈ s_cus) : s_cok ci = true := List.all_eq_true.mp s_cus_ok9 ci hc
theorem s_cas_ok : (List.range 23).all (fun ci => match vwCl[ci]? with | some r => s_wat (s_caw.getD ci 0) (.castable r.1 "java/lang/Object") | none => false) = true := by decide +kernel
theorem s_ath_ok {x : Nat} (hx : s_ate x = true) : s_ath x = true := by
  have key : x = 0 ∨ x = 1 ∨ x = 2 ∨ x = 3 ∨ x = 5 := by
    unfold s_ate at hx
    split at hx <;> first | omega | cases hx
  exact List.all_eq_true.mp s_ath_ok9 x (by rcases key with rfl | rfl | rfl | rfl | rfl <;> decide)
theorem s_mok_ok {y : Nat} (hy : y < s_M) (h0 : 0 < y) : s_mok y = true := by
  have hM : s_M = 204 := rfl
  have hc : (1 ≤ y ∧ y < 3) ∨ (3 ≤ y ∧ y < 8) ∨ (8 ≤ y ∧ y < 18) ∨ (18 ≤ y ∧ y < 23) ∨ (23 ≤ y ∧ y < 30) ∨ (30 ≤ y ∧ y < 37) ∨ (37 ≤ y ∧ y < 45) ∨ (45 ≤ y ∧ y < 53) ∨ (53 ≤ y ∧ y < 57) ∨ (57 ≤ y ∧ y < 60) ∨ (60 ≤ y ∧ y < 64) ∨ (64 ≤ y ∧ y < 67) ∨ (67 ≤ y ∧ y < 70) ∨ (70 ≤ y ∧ y < 74) ∨ (74 ≤ y ∧ y < 79) ∨ (79 ≤ y ∧ y < 85) ∨ (85 ≤ y ∧ y < 92) ∨ (92 ≤ y ∧ y < 98) ∨ (98 ≤ y ∧ y < 103) ∨ (103 ≤ y ∧ y < 108) ∨ (108 ≤ y ∧ y < 113) ∨ (113 ≤ y ∧ y < 115) ∨ (115 ≤ y ∧ y < 116) ∨ (116 ≤ y ∧ y < 122) ∨ (122 ≤ y ∧ y < 124) ∨ (124 ≤ y ∧ y < 127) ∨ (127 ≤ y ∧ y < 130) ∨ (130 ≤ y ∧ y < 134) ∨ (134 ≤ y ∧ y < 139) ∨ (139 ≤ y ∧ y < 142) ∨ (142 ≤ y ∧ y < 145) ∨ (145 ≤ y ∧ y < 151) ∨ (151 ≤ y ∧ y < 152) ∨ (152 ≤ y ∧ y < 155) ∨ (155 ≤ y ∧ y < 157) ∨ (157 ≤ y ∧ y < 162) ∨ (162 ≤ y ∧ y < 166) ∨ (166 ≤ y ∧ y < 167) ∨ (167 ≤ y ∧ y < 172) ∨ (172 ≤ y ∧ y < 176) ∨ (176 ≤ y ∧ y < 182) ∨ (182 ≤ y ∧ y < 190) ∨ (190 ≤ y ∧ y < 195) ∨ (195 ≤ y ∧ y < 199) ∨ (199 ≤ y ∧ y < 204) := by omega
  rcases hc with hc | hc | hc | hc | hc | hc | hc | hc | hc | hc | hc | hc | hc | hc | hc | hc | hc | hc | hc | hc | hc | hc | hc | hc | hc | hc | hc | hc | hc | hc | hc | hc | hc | hc | hc | hc | hc | hc | hc | hc | hc | hc | hc | hc | hc
  · have h9 : s_mok (y - 1 + 1) = true := List.all_eq_true.mp s_m_0 (y - 1) (List.mem_range.mpr (by omega))
    rwa [show y - 1 + 1 = y by omega] at h9
  · have h9 : s_mok (y - 3 + 3) = true := List.all_eq_true.mp s_m_1 (y - 3) (List.mem_range.mpr (by omega))
    rwa [show y - 3 + 3 = y by omega] at h9
  · have h9 : s_mok (y - 8 + 8) = true := List.all_eq_true.mp s_m_2 (y - 8) (List.mem_range.mpr (by omega))
    rwa [show y - 8 + 8 = y by omega] at h9
  · have h9 : s_mok (y - 18 + 18) = true := List.all_eq_true.mp s_m_3 (y - 18) (List.mem_range.mpr (by omega))
    rwa [show y - 18 + 18 = y by omega] at h9
  · have h9 : s_mok (y - 23 + 23) = true := List.all_eq_true.mp s_m_4 (y - 23) (List.mem_range.mpr (by omega))
    rwa [show y - 23 + 23 = y by omega] at h9
  · have h9 : s_mok (y - 30 + 30) = true := List.all_eq_true.mp s_m_5 (y - 30) (List.mem_range.mpr (by omega))
    rwa [show y - 30 + 30 = y by omega] at h9
  · have h9 : s_mok (y - 37 + 37) = true := List.all_eq_true.mp s_m_6 (y - 37) (List.mem_range.mpr (by omega))
    rwa [show y - 37 + 37 = y by omega] at h9
  · have h9 : s_mok (y - 45 + 45) = true := List.all_eq_true.mp s_m_7 (y - 45) (List.mem_range.mpr (by omega))
    rwa [show y - 45 + 45 = y by omega] at h9
  · have h9 : s_mok (y - 53 + 53) = true := List.all_eq_true.mp s_m_8 (y - 53) (List.mem_range.mpr (by omega))
    rwa [show y - 53 + 53 = y by omega] at h9
  · have h9 : s_mok (y - 57 + 57) = true := List.all_eq_true.mp s_m_9 (y - 57) (List.mem_range.mpr (by omega))
    rwa [show y - 57 + 57 = y by omega] at h9
  · have h9 : s_mok (y - 60 + 60) = true := List.all_eq_true.mp s_m_10 (y - 60) (List.mem_range.mpr (by omega))
    rwa [show y - 60 + 60 = y by omega] at h9
  · have h9 : s_mok (y - 64 + 64) = true := List.all_eq_true.mp s_m_11 (y - 64) (List.mem_range.mpr (by omega))
    rwa [show y - 64 + 64 = y by omega] at h9
  · have h9 : s_mok (y - 67 + 67) = true := List.all_eq_true.mp s_m_12 (y - 67) (List.mem_range.mpr (by omega))
    rwa [show y - 67 + 67 = y by omega] at h9
  · have h9 : s_mok (y - 70 + 70) = true := List.all_eq_true.mp s_m_13 (y - 70) (List.mem_range.mpr (by omega))
    rwa [show y - 70 + 70 = y by omega] at h9
  · have h9 : s_mok (y - 74 + 74) = true := List.all_eq_true.mp s_m_14 (y - 74) (List.mem_range.mpr (by omega))
    rwa [show y - 74 + 74 = y by omega] at h9
  · have h9 : s_mok (y - 79 + 79) = true := List.all_eq_true.mp s_m_15 (y - 79) (List.mem_range.mpr (by omega))
    rwa [show y - 79 + 79 = y by omega] at h9
  · have h9 : s_mok (y - 85 + 85) = true := List.all_eq_true.mp s_m_16 (y - 85) (List.mem_range.mpr (by omega))
    rwa [show y - 85 + 85 = y by omega] at h9
  · have h9 : s_mok (y - 92 + 92) = true := List.all_eq_true.mp s_m_17 (y - 92) (List.mem_range.mpr (by omega))
    rwa [show y - 92 + 92 = y by omega] at h9
  · have h9 : s_mok (y - 98 + 98) = true := List.all_eq_true.mp s_m_18 (y - 98) (List.mem_range.mpr (by omega))
    rwa [show y - 98 + 98 = y by omega] at h9
  · have h9 : s_mok (y - 103 + 103) = true := List.all_eq_true.mp s_m_19 (y - 103) (List.mem_range.mpr (by omega))
    rwa [show y - 103 + 103 = y by omega] at h9
  · have h9 : s_mok (y - 108 + 108) = true := List.all_eq_true.mp s_m_20 (y - 108) (List.mem_range.mpr (by omega))
    rwa [show y - 108 + 108 = y by omega] at h9
  · have h9 : s_mok (y - 113 + 113) = true := List.all_eq_true.mp s_m_21 (y - 113) (List.mem_range.mpr (by omega))
    rwa [show y - 113 + 113 = y by omega] at h9
  · have h9 : s_mok (y - 115 + 115) = true := List.all_eq_true.mp s_m_22 (y - 115) (List.mem_range.mpr (by omega))
    rwa [show y - 115 + 115 = y by omega] at h9
  · have h9 : s_mok (y - 116 + 116) = true := List.all_eq_true.mp s_m_23 (y - 116) (List.mem_range.mpr (by omega))
    rwa [show y - 116 + 116 = y by omega] at h9
  · have h9 : s_mok (y - 122 + 122) = true := List.all_eq_true.mp s_m_24 (y - 122) (List.mem_range.mpr (by omega))
    rwa [show y - 122 + 122 = y by omega] at h9
  · have h9 : s_mok (y - 124 + 124) = true := List.all_eq_true.mp s_m_25 (y - 124) (List.mem_range.mpr (by omega))
    rwa [show y - 124 + 124 = y by omega] at h9
  · have h9 : s_mok (y - 127 + 127) = true := List.all_eq_true.mp s_m_26 (y - 127) (List.mem_range.mpr (by omega))
    rwa [show y - 127 + 127 = y by omega] at h9
  · have h9 : s_mok (y - 130 + 130) = true := List.all_eq_true.mp s_m_27 (y - 130) (List.mem_range.mpr (by omega))
    rwa [show y - 130 + 130 = y by omega] at h9
  · have h9 : s_mok (y - 134 + 134) = true := List.all_eq_true.mp s_m_28 (y - 134) (List.mem_range.mpr (by omega))
    rwa [show y - 134 + 134 = y by omega] at h9
  · have h9 : s_mok (y - 139 + 139) = true := List.all_eq_true.mp s_m_29 (y - 139) (List.mem_range.mpr (by omega))
    rwa [show y - 139 + 139 = y by omega] at h9
  · have h9 : s_mok (y - 142 + 142) = true := List.all_eq_true.mp s_m_30 (y - 142) (List.mem_range.mpr (by omega))
    rwa [show y - 142 + 142 = y by omega] at h9
  · have h9 : s_mok (y - 145 + 145) = true := List.all_eq_true.mp s_m_31 (y - 145) (List.mem_range.mpr (by omega))
    rwa [show y - 145 + 145 = y by omega] at h9
  · have h9 : s_mok (y - 151 + 151) = true := List.all_eq_true.mp s_m_32 (y - 151) (List.mem_range.mpr (by omega))
    rwa [show y - 151 + 151 = y by omega] at h9
  · have h9 : s_mok (y - 152 + 152) = true := List.all_eq_true.mp s_m_33 (y - 152) (List.mem_range.mpr (by omega))
    rwa [show y - 152 + 152 = y by omega] at h9
  · have h9 : s_mok (y - 155 + 155) = true := List.all_eq_true.mp s_m_34 (y - 155) (List.mem_range.mpr (by omega))
    rwa [show y - 155 + 155 = y by omega] at h9
  · have h9 : s_mok (y - 157 + 157) = true := List.all_eq_true.mp s_m_35 (y - 157) (List.mem_range.mpr (by omega))
    rwa [show y - 157 + 157 = y by omega] at h9
  · have h9 : s_mok (y - 162 + 162) = true := List.all_eq_true.mp s_m_36 (y - 162) (List.mem_range.mpr (by omega))
    rwa [show y - 162 + 162 = y by omega] at h9
  · have h9 : s_mok (y - 166 + 166) = true := List.all_eq_true.mp s_m_37 (y - 166) (List.mem_range.mpr (by omega))
    rwa [show y - 166 + 166 = y by omega] at h9
  · have h9 : s_mok (y - 167 + 167) = true := List.all_eq_true.mp s_m_38 (y - 167) (List.mem_range.mpr (by omega))
    rwa [show y - 167 + 167 = y by omega] at h9
  · have h9 : s_mok (y - 172 + 172) = true := List.all_eq_true.mp s_m_39 (y - 172) (List.mem_range.mpr (by omega))
    rwa [show y - 172 + 172 = y by omega] at h9
  · have h9 : s_mok (y - 176 + 176) = true := List.all_eq_true.mp s_m_40 (y - 176) (List.mem_range.mpr (by omega))
    rwa [show y - 176 + 176 = y by omega] at h9
  · have h9 : s_mok (y - 182 + 182) = true := List.all_eq_true.mp s_m_41 (y - 182) (List.mem_range.mpr (by omega))
    rwa [show y - 182 + 182 = y by omega] at h9
  · have h9 : s_mok (y - 190 + 190) = true := List.all_eq_true.mp s_m_42 (y - 190) (List.mem_range.mpr (by omega))
    rwa [show y - 190 + 190 = y by omega] at h9
  · have h9 : s_mok (y - 195 + 195) = true := List.all_eq_true.mp s_m_43 (y - 195) (List.mem_range.mpr (by omega))
    rwa [show y - 195 + 195 = y by omega] at h9
  · have h9 : s_mok (y - 199 + 199) = true := List.all_eq_true.mp s_m_44 (y - 199) (List.mem_range.mpr (by omega))
    rwa [show y - 199 + 199 = y by omega] at h9
theorem s_ok_rows {mi : Nat} (hm : mi < s_M) : (s_code mi).all (s_rok mi) = true := by
  rcases Nat.eq_zero_or_pos mi with rfl | h0
  · show s_c0.all (s_rok 0) = true
    unfold s_c0
    simp only [List.all_append, Bool.and_eq_true]
    exact ⟨s_r0_0, s_r0_1, s_r0_2, s_r0_3, s_r0_4, s_r0_5, s_r0_6, s_r0_7, s_r0_8, s_r0_9, s_r0_10, s_r0_11, s_r0_12, s_r0_13, s_r0_14, s_r0_15, s_r0_16, s_r0_17, s_r0_18, s_r0_19, s_r0_20, s_r0_21, s_r0_22, s_r0_23⟩
  · have hok := s_mok_ok hm h0
    unfold s_mok at hok
    simp only [Bool.and_eq_true] at hok
    exact hok.2.2.2.2.2
