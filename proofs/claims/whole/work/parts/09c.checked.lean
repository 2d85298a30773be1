/-! what follows from the checks -/
theorem s_cus_ok9 : s_cus.all s_cok = true := by decide +kernel
theorem s_ath_ok9 : [0, 1, 2, 3, 5].all s_ath = true := by decide +kernel
theorem s_cus_ok {ci : Nat} (hc : ci ∈ s_cus) : s_cok ci = true := List.all_eq_true.mp s_cus_ok9 ci hc
theorem s_cas_ok : (List.range 23).all (fun ci => match vwCl[ci]? with | some r => s_wat (s_caw.getD ci 0) (.castable r.1 "java/lang/Object") | none => false) = true := by decide +kernel
theorem s_ath_ok {x : Nat} (hx : s_ate x = true) : s_ath x = true := by
  have key : x = 0 ∨ x = 1 ∨ x = 2 ∨ x = 3 ∨ x = 5 := by
    unfold s_ate at hx
    split at hx <;> first | omega | cases hx
  exact List.all_eq_true.mp s_ath_ok9 x (by rcases key with rfl | rfl | rfl | rfl | rfl <;> decide)
theorem s_mok_ok {y : Nat} (hy : y < s_M) (h0 : 0 < y) : s_mok y = true := by
  have hM : s_M = 204 := rfl
  have hc : (1 ≤ y ∧ y < 11) ∨ (11 ≤ y ∧ y < 21) ∨ (21 ≤ y ∧ y < 31) ∨ (31 ≤ y ∧ y < 41) ∨ (41 ≤ y ∧ y < 51) ∨ (51 ≤ y ∧ y < 61) ∨ (61 ≤ y ∧ y < 71) ∨ (71 ≤ y ∧ y < 81) ∨ (81 ≤ y ∧ y < 91) ∨ (91 ≤ y ∧ y < 101) ∨ (101 ≤ y ∧ y < 111) ∨ (111 ≤ y ∧ y < 121) ∨ (121 ≤ y ∧ y < 131) ∨ (131 ≤ y ∧ y < 141) ∨ (141 ≤ y ∧ y < 151) ∨ (151 ≤ y ∧ y < 161) ∨ (161 ≤ y ∧ y < 171) ∨ (171 ≤ y ∧ y < 181) ∨ (181 ≤ y ∧ y < 191) ∨ (191 ≤ y ∧ y < 201) ∨ (201 ≤ y ∧ y < 204) := by omega
  rcases hc with hc | hc | hc | hc | hc | hc | hc | hc | hc | hc | hc | hc | hc | hc | hc | hc | hc | hc | hc | hc | hc
  · have h9 : s_mok (y - 1 + 1) = true := List.all_eq_true.mp s_m_0 (y - 1) (List.mem_range.mpr (by omega))
    rwa [show y - 1 + 1 = y by omega] at h9
  · have h9 : s_mok (y - 11 + 11) = true := List.all_eq_true.mp s_m_1 (y - 11) (List.mem_range.mpr (by omega))
    rwa [show y - 11 + 11 = y by omega] at h9
  · have h9 : s_mok (y - 21 + 21) = true := List.all_eq_true.mp s_m_2 (y - 21) (List.mem_range.mpr (by omega))
    rwa [show y - 21 + 21 = y by omega] at h9
  · have h9 : s_mok (y - 31 + 31) = true := List.all_eq_true.mp s_m_3 (y - 31) (List.mem_range.mpr (by omega))
    rwa [show y - 31 + 31 = y by omega] at h9
  · have h9 : s_mok (y - 41 + 41) = true := List.all_eq_true.mp s_m_4 (y - 41) (List.mem_range.mpr (by omega))
    rwa [show y - 41 + 41 = y by omega] at h9
  · have h9 : s_mok (y - 51 + 51) = true := List.all_eq_true.mp s_m_5 (y - 51) (List.mem_range.mpr (by omega))
    rwa [show y - 51 + 51 = y by omega] at h9
  · have h9 : s_mok (y - 61 + 61) = true := List.all_eq_true.mp s_m_6 (y - 61) (List.mem_range.mpr (by omega))
    rwa [show y - 61 + 61 = y by omega] at h9
  · have h9 : s_mok (y - 71 + 71) = true := List.all_eq_true.mp s_m_7 (y - 71) (List.mem_range.mpr (by omega))
    rwa [show y - 71 + 71 = y by omega] at h9
  · have h9 : s_mok (y - 81 + 81) = true := List.all_eq_true.mp s_m_8 (y - 81) (List.mem_range.mpr (by omega))
    rwa [show y - 81 + 81 = y by omega] at h9
  · have h9 : s_mok (y - 91 + 91) = true := List.all_eq_true.mp s_m_9 (y - 91) (List.mem_range.mpr (by omega))
    rwa [show y - 91 + 91 = y by omega] at h9
  · have h9 : s_mok (y - 101 + 101) = true := List.all_eq_true.mp s_m_10 (y - 101) (List.mem_range.mpr (by omega))
    rwa [show y - 101 + 101 = y by omega] at h9
  · have h9 : s_mok (y - 111 + 111) = true := List.all_eq_true.mp s_m_11 (y - 111) (List.mem_range.mpr (by omega))
    rwa [show y - 111 + 111 = y by omega] at h9
  · have h9 : s_mok (y - 121 + 121) = true := List.all_eq_true.mp s_m_12 (y - 121) (List.mem_range.mpr (by omega))
    rwa [show y - 121 + 121 = y by omega] at h9
  · have h9 : s_mok (y - 131 + 131) = true := List.all_eq_true.mp s_m_13 (y - 131) (List.mem_range.mpr (by omega))
    rwa [show y - 131 + 131 = y by omega] at h9
  · have h9 : s_mok (y - 141 + 141) = true := List.all_eq_true.mp s_m_14 (y - 141) (List.mem_range.mpr (by omega))
    rwa [show y - 141 + 141 = y by omega] at h9
  · have h9 : s_mok (y - 151 + 151) = true := List.all_eq_true.mp s_m_15 (y - 151) (List.mem_range.mpr (by omega))
    rwa [show y - 151 + 151 = y by omega] at h9
  · have h9 : s_mok (y - 161 + 161) = true := List.all_eq_true.mp s_m_16 (y - 161) (List.mem_range.mpr (by omega))
    rwa [show y - 161 + 161 = y by omega] at h9
  · have h9 : s_mok (y - 171 + 171) = true := List.all_eq_true.mp s_m_17 (y - 171) (List.mem_range.mpr (by omega))
    rwa [show y - 171 + 171 = y by omega] at h9
  · have h9 : s_mok (y - 181 + 181) = true := List.all_eq_true.mp s_m_18 (y - 181) (List.mem_range.mpr (by omega))
    rwa [show y - 181 + 181 = y by omega] at h9
  · have h9 : s_mok (y - 191 + 191) = true := List.all_eq_true.mp s_m_19 (y - 191) (List.mem_range.mpr (by omega))
    rwa [show y - 191 + 191 = y by omega] at h9
  · have h9 : s_mok (y - 201 + 201) = true := List.all_eq_true.mp s_m_20 (y - 201) (List.mem_range.mpr (by omega))
    rwa [show y - 201 + 201 = y by omega] at h9
theorem s_ok_rows {mi : Nat} (hm : mi < s_M) : (s_code mi).all (s_rok mi) = true := by
  rcases Nat.eq_zero_or_pos mi with rfl | h0
  · show s_c0.all (s_rok 0) = true
    unfold s_c0
    simp only [List.all_append, Bool.and_eq_true]
    exact ⟨s_r0_0, s_r0_1, s_r0_2, s_r0_3, s_r0_4, s_r0_5, s_r0_6, s_r0_7, s_r0_8, s_r0_9, s_r0_10, s_r0_11, s_r0_12, s_r0_13, s_r0_14, s_r0_15, s_r0_16, s_r0_17, s_r0_18, s_r0_19, s_r0_20, s_r0_21, s_r0_22, s_r0_23⟩
  · have hok := s_mok_ok hm h0
    unfold s_mok at hok
    simp only [Bool.and_eq_true] at hok
    exact hok.2.2.2.2.2
