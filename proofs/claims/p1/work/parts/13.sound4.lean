section S4
variable {l : Launch} {D : va_G} {tc : Nat → ClassId} {ξ : Nat → Nat} {xs : Nat → Int32} {ρ : Nat → Int} {f : sF}
variable {mi pc npc : Nat} {lo : sL} {st : List sV} {h : List sE} {iv : sI} {c n : Nat} {k : sZ → Bool}
theorem s_nat {a : Int} (h0 : 0 ≤ a) (h1 : a < 4294967296) : ∃ m : Nat, a = (m : Int) ∧ m < 2 ^ 32 ∧ Int32.ofInt a = nI m := by
  obtain ⟨m, rfl⟩ := Int.eq_ofNat_of_zero_le h0
  exact ⟨m, rfl, by omega, rfl⟩
theorem s_i2c_v {a : Int} (h0 : 0 ≤ a) (h1 : a ≤ 65535) : ((Int32.ofInt a).toUInt32 % 65536).toInt32 = Int32.ofInt a := by
  obtain ⟨m, hm, h2, h3⟩ := s_nat h0 (by omega)
  rw [h3, pk_char, pk_tn h2, Nat.mod_eq_of_lt (by omega)]
theorem s_i2b_v {a : Int} (h0 : -128 ≤ a) (h1 : a ≤ 127) : (Int32.ofInt a).toInt8.toInt32 = Int32.ofInt a := by
  rw [← Int32.toInt_inj, Int8.toInt_toInt32, Int32.toInt_toInt8, Int32.toInt_ofInt_of_le (by show -(2:Int)^31 ≤ _; omega) (by show _ < (2:Int)^31; omega)]
  rw [Int.bmod_def]
  split <;> omega
theorem s_i2b_w {a : Int} (h0 : 128 ≤ a) (h1 : a ≤ 255) : (Int32.ofInt a).toInt8.toInt32 = Int32.ofInt (a - 256) := by
  rw [← Int32.toInt_inj, Int8.toInt_toInt32, Int32.toInt_toInt8, Int32.toInt_ofInt_of_le (by show -(2:Int)^31 ≤ _; omega) (by show _ < (2:Int)^31; omega), Int32.toInt_ofInt_of_le (by show -(2:Int)^31 ≤ _; omega) (by show _ < (2:Int)^31; omega)]
  rw [Int.bmod_def]
  split <;> omega
theorem v_i2c (hih : s_All l D tc ξ xs ρ f) (hρ : s_ρ ρ xs) (hm : mi < s_M) (hd : decode (s_by mi) pc = .ok (.i2c, 1)) (hn : npc = pc + 1) (hh : s_i2c f mi pc npc lo st h iv c n k = true) : s_Snd l D tc ξ xs ρ mi pc lo st h iv c n k := by
  intro p e R s m args below meth cc A α α0 b0 H locs ls X hin hE hA hP hD hS hl hb0 hag
  unfold s_i2c at hh
  split at hh
  · next x r =>
    rw [Bool.and_eq_true] at hh
    obtain ⟨h1, h2⟩ := hh
    subst hn
    rw [List.map_cons]
    split at h2
    · next hr =>
      have q := s_rg_v hin hr
      rw [s_v0 h1]
      refine lv_i2c X.1 X.2.1 (v := Int32.ofInt (s_n ρ x)) hd (s_i2c_v q.1 q.2) ?_
      rw [← s_v0 (ρ := ρ) (α := α) (ξ := ξ) h1]
      exact hih mi _ lo (x :: r) h iv c n k hm h2 X hin hE hA hP hD hS hl hb0 hag
    · split at h2
      · next hr =>
        rw [Bool.and_eq_true, Bool.and_eq_true, Bool.and_eq_true, s_ile_iff, s_ile_iff] at hr
        obtain ⟨q1, q2, q3, q4⟩ := hr
        have q3 := Nat.le_of_ble_eq_true q3
        have q4 := Nat.le_of_ble_eq_true q4
        obtain ⟨j, hj⟩ : ∃ j, x.2.2 = j + 1 := ⟨x.2.2 - 1, by omega⟩
        have hz := hρ.2.1 j (by omega)
        rw [s_v0 h1]
        have e1 : s_n ρ x = (xs j).toInt := by
          unfold s_n
          rw [hj, hz.1]
          omega
        refine lv_i2c X.1 X.2.1 (v := Int32.ofInt (ρ (x.2.2 + 10) + 0)) hd ?_ ?_
        · rw [e1, Int32.ofInt_toInt, ← hz.2, hj, Int.add_zero]
        · exact hih mi _ lo ((0, 0, x.2.2 + 10) :: r) h iv c n k hm h2 X hin hE hA hP hD hS hl hb0 hag
      · cases h2
  · cases hh
theorem v_i2b (hih : s_All l D tc ξ xs ρ f) (hρ : s_ρ ρ xs) (hm : mi < s_M) (hd : decode (s_by mi) pc = .ok (.i2b, 1)) (hn : npc = pc + 1) (hh : s_i2b f mi pc npc lo st h iv c n k = true) : s_Snd l D tc ξ xs ρ mi pc lo st h iv c n k := by
  intro p e R s m args below meth cc A α α0 b0 H locs ls X hin hE hA hP hD hS hl hb0 hag
  unfold s_i2b at hh
  split at hh
  · next x r =>
    rw [Bool.and_eq_true] at hh
    obtain ⟨h1, h2⟩ := hh
    split at h2
    · next hr =>
      have q := s_rg_v hin hr
      subst hn
      rw [List.map_cons, s_v0 h1]
      refine lv_i2b X.1 X.2.1 (v := Int32.ofInt (s_n ρ x)) hd (s_i2b_v q.1 q.2) ?_
      rw [← s_v0 (ρ := ρ) (α := α) (ξ := ξ) h1]
      exact hih mi _ lo (x :: r) h iv c n k hm h2 X hin hE hA hP hD hS hl hb0 hag
    · split at h2
      · next hr =>
        have q := s_rg_v hin hr
        subst hn
        rw [List.map_cons, s_v0 h1]
        refine lv_i2b X.1 X.2.1 (v := Int32.ofInt (ρ x.2.2 + (x.2.1 - 256))) hd ?_ ?_
        · rw [s_i2b_w q.1 q.2]
          unfold s_n
          congr 1
          omega
        · exact hih mi _ lo ((0, x.2.1 - 256, x.2.2) :: r) h iv c n k hm h2 X hin hE hA hP hD hS hl hb0 hag
      · unfold s_spl at h2
        rw [Bool.and_eq_true] at h2
        rcases s_spl_v hin _ _ with q | q
        · exact hih mi pc lo _ h _ c n k hm h2.1 X q hE hA hP hD hS hl hb0 hag
        · exact hih mi pc lo _ h _ c n k hm h2.2 X q hE hA hP hD hS hl hb0 hag
  · cases hh
theorem v_ush (hih : s_All l D tc ξ xs ρ f) (hρ : s_ρ ρ xs) (hm : mi < s_M) (hd : decode (s_by mi) pc = .ok (.iushr, 1)) (hn : npc = pc + 1) (hh : s_ush f mi pc npc lo st h iv c n k = true) : s_Snd l D tc ξ xs ρ mi pc lo st h iv c n k := by
  intro p e R s m args below meth cc A α α0 b0 H locs ls X hin hE hA hP hD hS hl hb0 hag
  unfold s_ush at hh
  split at hh
  · next y x r =>
    rw [Bool.and_eq_true, Bool.and_eq_true, Bool.and_eq_true] at hh
    obtain ⟨h1, h3, h4, h2⟩ := hh
    have q8 := s_rg_v hin h4
    have e8 : s_n ρ y = 8 := by omega
    split at h2
    · next hr =>
      have q := s_rg_v hin hr
      subst hn
      rw [List.map_cons, List.map_cons, s_v0 h1, s_v0 h3, e8]
      obtain ⟨m, hm1, hm2, hm3⟩ := s_nat q.1 (by omega)
      refine lv_iushr X.1 X.2.1 (v := Int32.ofInt (ρ 0 + 0)) hd ?_ ?_
      · rw [hm3, pk_ushrN hm2 _ 8 (by decide), Nat.div_eq_of_lt (by omega), hρ.1]
        rfl
      · exact hih mi _ lo ((0, 0, 0) :: r) h iv c n k hm h2 X hin hE hA hP hD hS hl hb0 hag
    · split at h2
      · next hr =>
        rw [Bool.and_eq_true, Bool.and_eq_true, Bool.and_eq_true, s_ile_iff, s_ile_iff] at hr
        obtain ⟨q0, q1, q2, q3⟩ := hr
        have q := s_rg_v hin q0
        have q1 := Nat.eq_of_beq_eq_true q1
        have e1 : s_n ρ x = ρ 13 := by
          unfold s_n
          rw [q1]
          omega
        rw [e1] at q
        have e2 := hρ.2.2.2.1 q.1 q.2
        subst hn
        rw [List.map_cons, List.map_cons, s_v0 h1, s_v0 h3, e8, e1]
        obtain ⟨m, hm1, hm2, hm3⟩ := s_nat (a := ρ 13) (by omega) (by omega)
        refine lv_iushr X.1 X.2.1 (v := Int32.ofInt (ρ 33 + 0)) hd ?_ ?_
        · rw [hm3, pk_ushrN hm2 _ 8 (by decide), e2, hm1]
          rfl
        · exact hih mi _ lo ((0, 0, 33) :: r) h iv c n k hm h2 X hin hE hA hP hD hS hl hb0 hag
      · unfold s_spl at h2
        rw [Bool.and_eq_true] at h2
        rcases s_spl_v hin _ _ with q | q
        · exact hih mi pc lo _ h _ c n k hm h2.1 X q hE hA hP hD hS hl hb0 hag
        · exact hih mi pc lo _ h _ c n k hm h2.2 X q hE hA hP hD hS hl hb0 hag
  · cases hh
theorem v_shr (hih : s_All l D tc ξ xs ρ f) (hρ : s_ρ ρ xs) (hm : mi < s_M) (hd : decode (s_by mi) pc = .ok (.ishr, 1)) (hn : npc = pc + 1) (hh : s_shr f mi npc lo st h iv c n k = true) : s_Snd l D tc ξ xs ρ mi pc lo st h iv c n k := by
  intro p e R s m args below meth cc A α α0 b0 H locs ls X hin hE hA hP hD hS hl hb0 hag
  unfold s_shr at hh
  split at hh
  · next y x r =>
    rw [Bool.and_eq_true, Bool.and_eq_true, Bool.and_eq_true] at hh
    obtain ⟨h1, h3, h4, h2⟩ := hh
    have q8 := s_rg_v hin h4
    have e8 : s_n ρ y = 0 := by omega
    subst hn
    rw [List.map_cons, List.map_cons, s_v0 h1, s_v0 h3, e8]
    refine lv_ishr X.1 X.2.1 hd ?_
    have e : (Int32.ofInt (s_n ρ x)) >>> ((Int32.ofInt 0) &&& 31) = Int32.ofInt (s_n ρ x) := by
      rw [← Int32.toInt_inj, pk_shr _ _ 0 (by decide)]
      simp
    rw [e, ← s_v0 (ρ := ρ) (α := α) (ξ := ξ) h1]
    exact hih mi _ lo (x :: r) h iv c n k hm h2 X hin hE hA hP hD hS hl hb0 hag
  · cases hh
theorem v_and (hih : s_All l D tc ξ xs ρ f) (hρ : s_ρ ρ xs) (hm : mi < s_M) (hd : decode (s_by mi) pc = .ok (.iand, 1)) (hn : npc = pc + 1) (hh : s_and f mi npc lo st h iv c n k = true) : s_Snd l D tc ξ xs ρ mi pc lo st h iv c n k := by
  intro p e R s m args below meth cc A α α0 b0 H locs ls X hin hE hA hP hD hS hl hb0 hag
  unfold s_and at hh
  split at hh
  · next y x r =>
    rw [Bool.and_eq_true, Bool.and_eq_true, Bool.and_eq_true, Bool.and_eq_true, Bool.and_eq_true, Bool.and_eq_true, s_ile_iff, s_ile_iff] at hh
    obtain ⟨h1, h3, h4, h5, h6, h7, h2⟩ := hh
    have q8 := s_rg_v hin h4
    have e8 : s_n ρ y = 63 := by omega
    have h5 := Nat.eq_of_beq_eq_true h5
    have e1 : s_n ρ x = (xs 0).toInt := by
      unfold s_n
      rw [h5, (hρ.2.1 0 (by omega)).1]
      omega
    subst hn
    rw [List.map_cons, List.map_cons, s_v0 h1, s_v0 h3, e8, e1, Int32.ofInt_toInt]
    refine lv_iand X.1 X.2.1 hd ?_
    have e : xs 0 &&& Int32.ofInt 63 = Int32.ofInt (ρ 21 + 0) := by
      rw [Int.add_zero, hρ.2.2.1]
      rfl
    rw [e]
    exact hih mi _ lo ((0, 0, 21) :: r) h iv c n k hm h2 X hin hE hA hP hD hS hl hb0 hag
  · cases hh
theorem v_tab (hih : s_All l D tc ξ xs ρ f) (hρ : s_ρ ρ xs) (hm : mi < s_M) {d lw hw : Int} {offs : Array Int} {info : List Nat} {ln : Nat} (hd : decode (s_by mi) pc = .ok (.tableswitch d lw hw offs, ln)) (ht : (pc : Int) + d = (s_tgt info : Int)) (hsz : hw - lw + 1 = (offs.size : Int)) (hoff : offs.toList.map (fun o => (pc : Int) + o) = info.tail.map (fun t : Nat => (t : Int))) (hh : s_tab f mi pc lo st h iv c n k lw info = true) : s_Snd l D tc ξ xs ρ mi pc lo st h iv c n k := by
  intro p e R s m args below meth cc A α α0 b0 H locs ls X hin hE hA hP hD hS hl hb0 hag
  unfold s_tab at hh
  split at hh
  · next x r =>
    rw [Bool.and_eq_true, Bool.and_eq_true] at hh
    obtain ⟨h1, h2, h3⟩ := hh
    split at h3
    · next hk =>
      have e1 := s_isk_v hin hk
      have e2 := s_r32_v hin h2
      rw [List.map_cons, s_v0 h1]
      split at h3
      · next j hj =>
        have hj : s_lo iv x - lw = (j : Int) := hj
        split at h3
        · next t htt =>
          have hlen : j < info.tail.length := (List.getElem?_eq_some_iff.mp htt).1
          have hl2 := congrArg List.length hoff
          rw [List.length_map, List.length_map, Array.length_toList] at hl2
          have hg : (offs.toList.map (fun o => (pc : Int) + o))[j]? = some (t : Int) := by
            rw [hoff, List.getElem?_map, htt]
            rfl
          rw [List.getElem?_map] at hg
          cases ho : offs.toList[j]? with
          | none => rw [ho] at hg; cases hg
          | some o =>
            rw [ho] at hg
            have hg : (pc : Int) + o = (t : Int) := Option.some.inj hg
            refine lv_tableIn X.1 X.2.1 (off := o) (tgt := t) hd (by omega) (by omega) ?_ hg ?_
            · have : ((Int32.ofInt (s_n ρ x)).toInt - lw).toNat = j := by omega
              rw [this, ← Array.getElem?_toList]
              exact ho
            · exact hih mi t lo r h iv c n k hm h3 X hin hE hA hP hD hS hl hb0 hag
        · next htt =>
          have hlen : info.tail.length ≤ j := List.getElem?_eq_none_iff.mp htt
          have hl2 := congrArg List.length hoff
          rw [List.length_map, List.length_map, Array.length_toList] at hl2
          refine lv_tableOut X.1 X.2.1 hd (Or.inr (by omega)) ht ?_
          exact hih mi _ lo r h iv c n k hm h3 X hin hE hA hP hD hS hl hb0 hag
      · next hj =>
        have hneg : s_lo iv x - lw < 0 := by
          by_cases q : s_lo iv x - lw < 0
          · exact q
          · obtain ⟨j, hj2⟩ := Int.eq_ofNat_of_zero_le (show 0 ≤ s_lo iv x - lw by omega)
            exact absurd hj2 (hj j)
        refine lv_tableOut X.1 X.2.1 hd (Or.inl (by omega)) ht ?_
        exact hih mi _ lo r h iv c n k hm h3 X hin hE hA hP hD hS hl hb0 hag
    · unfold s_spl at h3
      rw [Bool.and_eq_true] at h3
      rcases s_spl_v hin _ _ with q | q
      · exact hih mi pc lo _ h _ c n k hm h3.1 X q hE hA hP hD hS hl hb0 hag
      · exact hih mi pc lo _ h _ c n k hm h3.2 X q hE hA hP hD hS hl hb0 hag
  · cases hh
theorem s_v2 {α : Nat → Nat} {x : sV} (h : x.1 = 2) : s_v ρ α ξ x = .null := by
  obtain ⟨t, c, n⟩ := x
  cases h
  rfl
theorem s_v3 {α : Nat → Nat} {x : sV} (h : x.1 = 3) : s_v ρ α ξ x = .ref (α x.2.2) := by
  obtain ⟨t, c, n⟩ := x
  cases h
  rfl
theorem s_v4 {α : Nat → Nat} {x : sV} (h : x.1 = 4) : s_v ρ α ξ x = .ref (ξ x.2.2) := by
  obtain ⟨t, c, n⟩ := x
  cases h
  rfl
theorem v_ifnull (hih : s_All l D tc ξ xs ρ f) (hρ : s_ρ ρ xs) (hm : mi < s_M) {off : Int} {tgt : Nat} (hd : decode (s_by mi) pc = .ok (.ifnull off, 3)) (hn : npc = pc + 3) (ht : (pc : Int) + off = (tgt : Int)) (hh : s_nul f mi npc lo st h iv c n k tgt = true) : s_Snd l D tc ξ xs ρ mi pc lo st h iv c n k := by
  intro p e R s m args below meth cc A α α0 b0 H locs ls X hin hE hA hP hD hS hl hb0 hag
  unfold s_nul at hh
  split at hh
  · next x r =>
    subst hn
    rw [List.map_cons]
    split at hh
    · next he =>
      rw [s_v2 he]
      refine lv_ifnullN X.1 X.2.1 hd ht ?_
      exact hih mi _ lo r h iv c n k hm hh X hin hE hA hP hD hS hl hb0 hag
    · next he =>
      rw [s_v3 he]
      refine lv_ifnull X.1 X.2.1 hd ?_
      exact hih mi _ lo r h iv c n k hm hh X hin hE hA hP hD hS hl hb0 hag
    · next he =>
      rw [s_v4 he]
      refine lv_ifnull X.1 X.2.1 hd ?_
      exact hih mi _ lo r h iv c n k hm hh X hin hE hA hP hD hS hl hb0 hag
    · cases hh
  · cases hh
theorem v_ifnonnull (hih : s_All l D tc ξ xs ρ f) (hρ : s_ρ ρ xs) (hm : mi < s_M) {off : Int} {tgt : Nat} (hd : decode (s_by mi) pc = .ok (.ifnonnull off, 3)) (hn : npc = pc + 3) (ht : (pc : Int) + off = (tgt : Int)) (hh : (match st with | x :: r => (match x.1 with | 2 => f mi npc lo r h iv c n k | 3 => f mi tgt lo r h iv c n k | 4 => f mi tgt lo r h iv c n k | _ => false) | [] => false) = true) : s_Snd l D tc ξ xs ρ mi pc lo st h iv c n k := by
  intro p e R s m args below meth cc A α α0 b0 H locs ls X hin hE hA hP hD hS hl hb0 hag
  split at hh
  · next x r =>
    subst hn
    rw [List.map_cons]
    split at hh
    · next he =>
      rw [s_v2 he]
      refine lv_ifnonnullN X.1 X.2.1 hd ?_
      exact hih mi _ lo r h iv c n k hm hh X hin hE hA hP hD hS hl hb0 hag
    · next he =>
      rw [s_v3 he]
      refine lv_ifnonnull X.1 X.2.1 hd ht ?_
      exact hih mi _ lo r h iv c n k hm hh X hin hE hA hP hD hS hl hb0 hag
    · next he =>
      rw [s_v4 he]
      refine lv_ifnonnull X.1 X.2.1 hd ht ?_
      exact hih mi _ lo r h iv c n k hm hh X hin hE hA hP hD hS hl hb0 hag
    · cases hh
  · cases hh
theorem v_acmp_eq (hih : s_All l D tc ξ xs ρ f) (hρ : s_ρ ρ xs) (hm : mi < s_M) {off : Int} {tgt : Nat} (hd : decode (s_by mi) pc = .ok (.if_acmp .eq off, 3)) (ht : (pc : Int) + off = (tgt : Int)) (hh : s_acn f mi tgt lo st h iv c n k = true) : s_Snd l D tc ξ xs ρ mi pc lo st h iv c n k := by
  intro p e R s m args below meth cc A α α0 b0 H locs ls X hin hE hA hP hD hS hl hb0 hag
  unfold s_acn at hh
  split at hh
  · next y x r =>
    rw [Bool.and_eq_true, Bool.and_eq_true, Bool.and_eq_true] at hh
    obtain ⟨h1, h2, h3, h4⟩ := hh
    have h3 := Nat.eq_of_beq_eq_true h3
    rw [List.map_cons, List.map_cons, s_v4 (s_tag_iff.mp h1), s_v4 (s_tag_iff.mp h2), ← h3]
    refine lv_acmp_eq X.1 X.2.1 (rx := some (ξ x.2.2)) (ry := some (ξ x.2.2)) hd ht (fun q => ?_) (fun q => ?_)
    · exact hih mi _ lo r h iv c n k hm h4 X hin hE hA hP hD hS hl hb0 hag
    · exact absurd rfl q
  · cases hh
theorem v_acmp_ne (hih : s_All l D tc ξ xs ρ f) (hρ : s_ρ ρ xs) (hm : mi < s_M) {off : Int} {tgt : Nat} (hd : decode (s_by mi) pc = .ok (.if_acmp .ne off, 3)) (ht : (pc : Int) + off = (tgt : Int)) (hh : s_acn f mi (pc + 3) lo st h iv c n k = true) : s_Snd l D tc ξ xs ρ mi pc lo st h iv c n k := by
  intro p e R s m args below meth cc A α α0 b0 H locs ls X hin hE hA hP hD hS hl hb0 hag
  unfold s_acn at hh
  split at hh
  · next y x r =>
    rw [Bool.and_eq_true, Bool.and_eq_true, Bool.and_eq_true] at hh
    obtain ⟨h1, h2, h3, h4⟩ := hh
    have h3 := Nat.eq_of_beq_eq_true h3
    rw [List.map_cons, List.map_cons, s_v4 (s_tag_iff.mp h1), s_v4 (s_tag_iff.mp h2), ← h3]
    refine lv_acmp_ne X.1 X.2.1 (rx := some (ξ x.2.2)) (ry := some (ξ x.2.2)) hd ht (fun q => ?_) (fun q => ?_)
    · exact absurd rfl q
    · exact hih mi _ lo r h iv c n k hm h4 X hin hE hA hP hD hS hl hb0 hag
  · cases hh
end S4
