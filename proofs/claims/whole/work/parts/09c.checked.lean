/-! what follows from the checks -/
theorem s_cus_ok9 : s_cus.all s_cok = true := by decide +kernel
theorem s_ath_ok9 : [0, 1, 2, 3, 5].all s_ath = true := by decide +kernel
theorem s_cus_ok {ci : Nat} (hc : ci ∈ s_cus) : s_cok ci = true := List.all_eq_true.mp s_cus_ok9 ci hc
theorem s_cas_ok : (List.range 23).all (fun ci => match vwCl[ci]? with | some r => s_wat (s_caw.getD ci 0) (.castable r.1 "java/lang/Object") | none => false) = true := by decide +kernel
theorem s_ath_ok {x : Nat} (hx : s_ate x = true) : s_ath x = true := by
  have key : x = 0 ∨ x = 1 ∨ x = 2 ∨ x = 3 ∨ x = 5 := by
    unfold s_ate at hx
    split at hx <;> first | omega | cases hx
  exact List.all_eq_true.mp s_ath_ok9 x (by rcases key with rfl | rfl | rfl | rfl | rfl <;> decide)
theorem s_mok_ok {y : Nat} (hy : y < s_M) (h0 : 0 < y) : s_mok y = true := by
  have hM : s_M = 204 := rfl
  have hc : (1 ≤ y ∧ y < 16) ∨ (16 ≤ y ∧ y < 32) ∨ (32 ≤ y ∧ y < 52) ∨ (52 ≤ y ∧ y < 62) ∨ (62 ≤ y ∧ y < 70) ∨ (70 ≤ y ∧ y < 84) ∨ (84 ≤ y ∧ y < 100) ∨ (100 ≤ y ∧ y < 113) ∨ (113 ≤ y ∧ y < 122) ∨ (122 ≤ y ∧ y < 130) ∨ (130 ≤ y ∧ y < 141) ∨ (141 ≤ y ∧ y < 151) ∨ (151 ≤ y ∧ y < 157) ∨ (157 ≤ y ∧ y < 166) ∨ (166 ≤ y ∧ y < 176) ∨ (176 ≤ y ∧ y < 193) ∨ (193 ≤ y ∧ y < 204) := by omega
  rcases hc with hc | hc | hc | hc | hc | hc | hc | hc | hc | hc | hc | hc | hc | hc | hc | hc | hc
  · have h9 : s_mok (y - 1 + 1) = true := List.all_eq_true.mp s_m_0 (y - 1) (List.mem_range.mpr (by omega))
    rwa [show y - 1 + 1 = y by omega] at h9
  · have h9 : s_mok (y - 16 + 16) = true := List.all_eq_true.mp s_m_1 (y - 16) (List.mem_range.mpr (by omega))
    rwa [show y - 16 + 16 = y by omega] at h9
  · have h9 : s_mok (y - 32 + 32) = true := List.all_eq_true.mp s_m_2 (y - 32) (List.mem_range.mpr (by omega))
    rwa [show y - 32 + 32 = y by omega] at h9
  · have h9 : s_mok (y - 52 + 52) = true := List.all_eq_true.mp s_m_3 (y - 52) (List.mem_range.mpr (by omega))
    rwa [show y - 52 + 52 = y by omega] at h9
  · have h9 : s_mok (y - 62 + 62) = true := List.all_eq_true.mp s_m_4 (y - 62) (List.mem_range.mpr (by omega))
    rwa [show y - 62 + 62 = y by omega] at h9
  · have h9 : s_mok (y - 70 + 70) = true := List.all_eq_true.mp s_m_5 (y - 70) (List.mem_range.mpr (by omega))
    rwa [show y - 70 + 70 = y by omega] at h9
  · have h9 : s_mok (y - 84 + 84) = true := List.all_eq_true.mp s_m_6 (y - 84) (List.mem_range.mpr (by omega))
    rwa [show y - 84 + 84 = y by omega] at h9
  · have h9 : s_mok (y - 100 + 100) = true := List.all_eq_true.mp s_m_7 (y - 100) (List.mem_range.mpr (by omega))
    rwa [show y - 100 + 100 = y by omega] at h9
  · have h9 : s_mok (y - 113 + 113) = true := List.all_eq_true.mp s_m_8 (y - 113) (List.mem_range.mpr (by omega))
    rwa [show y - 113 + 113 = y by omega] at h9
  · have h9 : s_mok (y - 122 + 122) = true := List.all_eq_true.mp s_m_9 (y - 122) (List.mem_range.mpr (by omega))
    rwa [show y - 122 + 122 = y by omega] at h9
  · have h9 : s_mok (y - 130 + 130) = true := List.all_eq_true.mp s_m_10 (y - 130) (List.mem_range.mpr (by omega))
    rwa [show y - 130 + 130 = y by omega] at h9
  · have h9 : s_mok (y - 141 + 141) = true := List.all_eq_true.mp s_m_11 (y - 141) (List.mem_range.mpr (by omega))
    rwa [show y - 141 + 141 = y by omega] at h9
  · have h9 : s_mok (y - 151 + 151) = true := List.all_eq_true.mp s_m_12 (y - 151) (List.mem_range.mpr (by omega))
    rwa [show y - 151 + 151 = y by omega] at h9
  · have h9 : s_mok (y - 157 + 157) = true := List.all_eq_true.mp s_m_13 (y - 157) (List.mem_range.mpr (by omega))
    rwa [show y - 157 + 157 = y by omega] at h9
  · have h9 : s_mok (y - 166 + 166) = true := List.all_eq_true.mp s_m_14 (y - 166) (List.mem_range.mpr (by omega))
    rwa [show y - 166 + 166 = y by omega] at h9
  · have h9 : s_mok (y - 176 + 176) = true := List.all_eq_true.mp s_m_15 (y - 176) (List.mem_range.mpr (by omega))
    rwa [show y - 176 + 176 = y by omega] at h9
  · have h9 : s_mok (y - 193 + 193) = true := List.all_eq_true.mp s_m_16 (y - 193) (List.mem_range.mpr (by omega))
    rwa [show y - 193 + 193 = y by omega] at h9
theorem s_ok_rows {mi : Nat} (hm : mi < s_M) : (s_code mi).all (s_rok mi) = true := by
  rcases Nat.eq_zero_or_pos mi with rfl | h0
  · show s_c0.all (s_rok 0) = true
    unfold s_c0
    simp only [List.all_append, Bool.and_eq_true]
    exact ⟨s_r0_0, s_r0_1, s_r0_2, s_r0_3, s_r0_4, s_r0_5, s_r0_6, s_r0_7, s_r0_8, s_r0_9, s_r0_10, s_r0_11, s_r0_12, s_r0_13, s_r0_14, s_r0_15, s_r0_16, s_r0_17, s_r0_18, s_r0_19, s_r0_20, s_r0_21, s_r0_22, s_r0_23⟩
  · have hok := s_mok_ok hm h0
    unfold s_mok at hok
    simp only [Bool.and_eq_true] at hok
    exact hok.2.2.2.2.2
