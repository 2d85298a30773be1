section S6
variable {l : Launch} {D : va_G} {tc : Nat → ClassId} {ξ : Nat → Nat} {xs : Nat → Int32} {ρ : Nat → Int} {f : sF}
variable {mi pc npc : Nat} {lo : sL} {st : List sV} {h : List sE} {iv : sI} {c n : Nat} {k : sZ → Bool}
theorem s_cas {ci : Nat} {r : vw_C} (hr : vwCl[ci]? = some r) : Cond.castable r.1 "java/lang/Object" ∈ s_tbl := by
  have hlt : ci < 23 := (List.getElem?_eq_some_iff.mp hr).1
  have h := List.all_eq_true.mp s_cas_ok ci (List.mem_range.mpr hlt)
  rw [hr] at h
  exact s_wat_v h
theorem s_tys_v {tc : Nat → ClassId} {t : Nat} (h : t < 7) : (s_tys tc)[t]? = some (tc t, s_ft t) := by
  rcases (show t = 0 ∨ t = 1 ∨ t = 2 ∨ t = 3 ∨ t = 4 ∨ t = 5 ∨ t = 6 by omega) with rfl | rfl | rfl | rfl | rfl | rfl | rfl <;> rfl
theorem s_e_arr {α : Nat → Nat} {e : sE} (h : e.1 ≠ 0) : ∃ x, s_e tc ρ α ξ e = .inl (tc e.2.1, e.2.2.1, x) := by
  unfold s_e
  split
  · next q => exact absurd q h
  · exact ⟨_, rfl⟩
  · exact ⟨_, rfl⟩
  · exact ⟨_, rfl⟩
  · exact ⟨_, rfl⟩
theorem v_gs1 (hih : s_All l D tc ξ xs ρ f) (hρ : s_ρ ρ xs) (hm : mi < s_M) {ix : Nat} (hw : Cond.fieldLink (s_own mi) ix "java/util/ArrayList" "DEFAULTCAPACITY_EMPTY_ELEMENTDATA" "[Ljava/lang/Object;" ∈ s_U) (hd : decode (s_by mi) pc = .ok (.getstatic ix, 3)) (hn : npc = pc + 3) (hh : f mi npc lo ((4, 0, 1) :: st) h iv c n k = true) : s_Snd l D tc ξ xs ρ mi pc lo st h iv c n k := by
  intro p e R s m args below meth cc A α α0 b0 H locs ls X hin hE hA hP hD hS hl hb0 hag
  subst hn
  refine va_gets X.1 X.2.1 hE.2.1.1 hS X.2.2.2.2.2.1 (X.2.2.2.2.2.2.1 _ hw) (fun _ q => q) hd ?_
  exact hih mi _ lo ((4, 0, 1) :: st) h iv c n k hm hh X hin hE hA hP hD hS hl hb0 hag
theorem v_gs2 (hih : s_All l D tc ξ xs ρ f) (hρ : s_ρ ρ xs) (hm : mi < s_M) {ix : Nat} (hw : Cond.fieldLink (s_own mi) ix "java/lang/String" "COMPACT_STRINGS" "Z" ∈ s_U) (hd : decode (s_by mi) pc = .ok (.getstatic ix, 3)) (hn : npc = pc + 3) (hh : f mi npc lo ((0, 1, 0) :: st) h iv c n k = true) : s_Snd l D tc ξ xs ρ mi pc lo st h iv c n k := by
  intro p e R s m args below meth cc A α α0 b0 H locs ls X hin hE hA hP hD hS hl hb0 hag
  subst hn
  refine va_gets X.1 X.2.1 hE.2.1.2.2.1 hS X.2.2.2.2.2.1 (X.2.2.2.2.2.2.1 _ hw) (fun _ q => q) hd ?_
  have e2 : Value.int 1 = s_v ρ α ξ (0, 1, 0) := by
    show _ = Value.int (Int32.ofInt (ρ 0 + 1))
    rw [hρ.1]
    rfl
  rw [e2]
  exact hih mi _ lo ((0, 1, 0) :: st) h iv c n k hm hh X hin hE hA hP hD hS hl hb0 hag
theorem v_len (hih : s_All l D tc ξ xs ρ f) (hρ : s_ρ ρ xs) (hm : mi < s_M) (hd : decode (s_by mi) pc = .ok (.arraylength, 1)) (hn : npc = pc + 1) (hh : s_len f mi npc lo st h iv c n k = true) : s_Snd l D tc ξ xs ρ mi pc lo st h iv c n k := by
  intro p e R s m args below meth cc A α α0 b0 H locs ls X hin hE hA hP hD hS hl hb0 hag
  unfold s_len at hh
  split at hh
  · next x r =>
    subst hn
    rw [List.map_cons]
    split at hh
    · next hx =>
      split at hh
      · next e he =>
        rw [Bool.and_eq_true, Bool.and_eq_true, Nat.blt_eq, Nat.blt_eq] at hh
        obtain ⟨q1, q2, q3⟩ := hh
        have hg := s_h_get (tc := tc) (ρ := ρ) (α := α) (ξ := ξ) he
        obtain ⟨y, hy⟩ := s_e_arr (tc := tc) (ρ := ρ) (α := α) (ξ := ξ) (e := e) (by omega)
        rw [hy] at hg
        rw [s_v3 hx]
        refine va_alen X.1 X.2.1 hE.1.1 hP _ e.2.1 hg (s_tys_v q2) (v := Int32.ofInt (ρ 0 + Int.ofNat e.2.2.1)) ?_ hd ?_
        · rw [hρ.1, Int.zero_add]
          rfl
        · exact hih mi _ lo ((0, Int.ofNat e.2.2.1, 0) :: r) h iv c n k hm q3 X hin hE hA hP hD hS hl hb0 hag
      · cases hh
    · next hx =>
      rw [s_v4 hx]
      split at hh
      · next e =>
        rw [e]
        refine va_slen X.1 X.2.1 hE.2.2.1 hE.2.2.2.1 hE.2.2.2.2 hS hd ?_
        have e2 : Value.int (Int32.ofNat (xs 7).toNatClampNeg) = s_v ρ α ξ (0, 0, 22) := by
          show _ = Value.int (Int32.ofInt (ρ 22 + 0))
          rw [hρ.2.2.2.2.1, Int.add_zero]
          rfl
        rw [e2]
        exact hih mi _ lo ((0, 0, 22) :: r) h iv c n k hm hh X hin hE hA hP hD hS hl hb0 hag
      · next e =>
        rw [e]
        refine va_tlen X.1 X.2.1 hE.2.1.2.1 hS rfl hd ?_
        have e2 : Value.int (Int32.ofNat 0) = s_v ρ α ξ (0, 0, 0) := by
          show _ = Value.int (Int32.ofInt (ρ 0 + 0))
          rw [hρ.1]
          rfl
        rw [e2]
        exact hih mi _ lo ((0, 0, 0) :: r) h iv c n k hm hh X hin hE hA hP hD hS hl hb0 hag
      · next e =>
        rw [e]
        refine va_tlen X.1 X.2.1 hE.2.1.2.2.2.2.2.2.2.2 hS rfl hd ?_
        have e2 : Value.int (Int32.ofNat 4) = s_v ρ α ξ (0, 4, 0) := by
          show _ = Value.int (Int32.ofInt (ρ 0 + 4))
          rw [hρ.1]
          rfl
        rw [e2]
        exact hih mi _ lo ((0, 4, 0) :: r) h iv c n k hm hh X hin hE hA hP hD hS hl hb0 hag
      · cases hh
    · cases hh
  · cases hh
theorem v_ial (hih : s_All l D tc ξ xs ρ f) (hρ : s_ρ ρ xs) (hm : mi < s_M) (hd : decode (s_by mi) pc = .ok (.iaload, 1)) (hn : npc = pc + 1) (hh : s_ial f mi npc lo st h iv c n k = true) : s_Snd l D tc ξ xs ρ mi pc lo st h iv c n k := by
  intro p e R s m args below meth cc A α α0 b0 H locs ls X hin hE hA hP hD hS hl hb0 hag
  unfold s_ial at hh
  split at hh
  · next y x r =>
    rw [Bool.and_eq_true, Bool.and_eq_true] at hh
    obtain ⟨q1, q2, q3⟩ := hh
    replace q2 := Nat.eq_of_beq_eq_true q2
    split at q3
    · next j hj =>
      obtain ⟨j1, j2, j3, j4⟩ := s_ix_v hin hj
      have j5 : j < (xs 7).toNatClampNeg := by
        have h1 := (s_in_b hin (0, 0, 22)).1
        have h2 : s_n ρ (0, 0, 22) = ((xs 7).toNatClampNeg : Int) := by
          show ρ 22 + 0 = _
          rw [hρ.2.2.2.2.1, Int.add_zero]
        rw [h2] at h1
        unfold s_toN at j3
        split at j3
        · next b hb =>
          rw [hb] at h1
          have := Int.ofNat_le.mp h1
          omega
        · omega
      have j6 : j < 6 := Nat.lt_of_lt_of_le j5 hρ.2.2.2.2.2
      obtain ⟨k1, k2⟩ := s_ixI j5 j4
      subst hn
      rw [List.map_cons, List.map_cons, s_v4 (s_tag_iff.mp q1), q2, s_v0 j1, j2]
      refine va_sld X.1 X.2.1 hE.2.2.1 hE.2.2.2.1 hE.2.2.2.2 hS k1 hd ?_
      have e2 : Value.int (xs (Int32.ofInt (j : Int)).toNatClampNeg) = s_v ρ α ξ (0, 0, j + 1) := by
        show _ = Value.int (Int32.ofInt (ρ (j + 1) + 0))
        rw [k2, Int.add_zero, (hρ.2.1 j j6).1, Int32.ofInt_toInt]
      rw [e2]
      exact hih mi _ lo ((0, 0, j + 1) :: r) h iv c n k hm q3 X hin hE hA hP hD hS hl hb0 hag
    · cases q3
  · cases hh
theorem v_bal (hih : s_All l D tc ξ xs ρ f) (hρ : s_ρ ρ xs) (hm : mi < s_M) (hd : decode (s_by mi) pc = .ok (.baload, 1)) (hn : npc = pc + 1) (hh : s_bal f mi npc lo st h iv c n k = true) : s_Snd l D tc ξ xs ρ mi pc lo st h iv c n k := by
  intro p e R s m args below meth cc A α α0 b0 H locs ls X hin hE hA hP hD hS hl hb0 hag
  unfold s_bal at hh
  split at hh
  · next y x r =>
    rw [Bool.and_eq_true, Bool.and_eq_true] at hh
    obtain ⟨q1, q2, q3⟩ := hh
    replace q2 := Nat.eq_of_beq_eq_true q2
    split at q3
    · next j hj =>
      obtain ⟨j1, j2, j3, j4⟩ := s_ix_v hin hj
      obtain ⟨k1, k2⟩ := s_ixI j3 j4
      subst hn
      rw [List.map_cons, List.map_cons, s_v4 (s_tag_iff.mp q1), q2, s_v0 j1, j2]
      refine va_tb X.1 X.2.1 hE.2.1.2.2.2.2.2.2.2.2 hS k1 rfl hd ?_
      rw [k2]
      have e2 : Value.int (Int32.ofInt (s_fg j)) = s_v ρ α ξ (0, s_fg j, 0) := by
        show _ = Value.int (Int32.ofInt (ρ 0 + s_fg j))
        rw [hρ.1, Int.zero_add]
      rw [e2]
      exact hih mi _ lo ((0, s_fg j, 0) :: r) h iv c n k hm q3 X hin hE hA hP hD hS hl hb0 hag
    · cases q3
  · cases hh
theorem v_lal (hih : s_All l D tc ξ xs ρ f) (hρ : s_ρ ρ xs) (hm : mi < s_M) (hd : decode (s_by mi) pc = .ok (.laload, 1)) (hn : npc = pc + 1) (hh : s_lal f mi npc lo st h iv c n k = true) : s_Snd l D tc ξ xs ρ mi pc lo st h iv c n k := by
  intro p e R s m args below meth cc A α α0 b0 H locs ls X hin hE hA hP hD hS hl hb0 hag
  unfold s_lal at hh
  split at hh
  · next y x r =>
    split at hh
    · next e he =>
      split at hh
      · next j hj =>
        rw [Bool.and_eq_true] at hh
        obtain ⟨q1, q2⟩ := hh
        replace q1 := Nat.eq_of_beq_eq_true q1
        obtain ⟨j1, j2, j3, j4⟩ := s_ix_v hin hj
        obtain ⟨k1, k2⟩ := s_ixI j3 j4
        obtain ⟨hx, hcell, hkd⟩ := s_arr_v he
        have hg := s_h_get (tc := tc) (ρ := ρ) (α := α) (ξ := ξ) hcell
        obtain ⟨e1, e2, e3, e4⟩ := e
        dsimp only at hkd q1 q2 hg k1 j3
        subst hkd; subst q1
        subst hn
        rw [List.map_cons, List.map_cons, s_v3 hx, s_v0 j1, j2]
        refine va_lald X.1 X.2.1 hE.1.1 hP _ 4 hg (s_tys_v (by omega)) k1 hd ?_
        rw [k2]
        exact hih mi _ lo ((1, (s_look e4 j).2) :: r) h iv c n k hm q2 X hin hE hA hP hD hS hl hb0 hag
      · cases hh
    · cases hh
  · cases hh
theorem s_q3 {α : Nat → Nat} {x : sV} (h : x.1 = 3) : s_q α ξ x = some (α x.2.2) := by
  obtain ⟨t, c, n⟩ := x
  cases h
  rfl
theorem s_look_c (j : Nat) (v : sV) (w : List (Nat × sV)) (i : Nat) : s_look ((j, v) :: w) i = if i = j then v else s_look w i := by
  unfold s_look
  by_cases e : j = i
  · subst e
    simp
  · have : Nat.beq j i = false := by
      cases q : Nat.beq j i with
      | true => exact absurd (Nat.eq_of_beq_eq_true q) e
      | false => rfl
    rw [show Nat.beq (j, v).1 i = Nat.beq j i from rfl, this, if_neg (fun q => e q.symm)]
    cases w <;> rfl
theorem s_narC {a : Int} (h0 : 0 ≤ a) (h1 : a ≤ 65535) : vp_nar .char (Int32.ofInt a) = Int32.ofInt a := by
  obtain ⟨m, hm1, hm2, hm3⟩ := s_nat h0 (by omega)
  unfold vp_nar
  rw [hm3, (pk_charN (show m < 65536 by omega)).1]
theorem s_narB {a : Int} (h0 : -128 ≤ a) (h1 : a ≤ 127) : vp_nar .byte (Int32.ofInt a) = Int32.ofInt a := by
  rw [← s_i2b_v h0 h1]
  exact pk_vb _
theorem v_last (hih : s_All l D tc ξ xs ρ f) (hρ : s_ρ ρ xs) (hm : mi < s_M) (hd : decode (s_by mi) pc = .ok (.lastore, 1)) (hn : npc = pc + 1) (hh : s_ast f mi npc lo st h iv c n k 2 4 3 = true) : s_Snd l D tc ξ xs ρ mi pc lo st h iv c n k := by
  intro p e R s m args below meth cc A α α0 b0 H locs ls X hin hE hA hP hD hS hl hb0 hag
  unfold s_ast at hh
  split at hh
  · next v y x r =>
    split at hh
    · next e he =>
      split at hh
      · next j hj =>
        rw [Bool.and_eq_true, Bool.and_eq_true] at hh
        obtain ⟨q1, q2, q3⟩ := hh
        replace q1 := Nat.eq_of_beq_eq_true q1
        obtain ⟨j1, j2, j3, j4⟩ := s_ix_v hin hj
        obtain ⟨k1, k2⟩ := s_ixI j3 j4
        obtain ⟨hx, hcell, hkd⟩ := s_arr_v he
        have hg := s_h_get (tc := tc) (ρ := ρ) (α := α) (ξ := ξ) hcell
        obtain ⟨e1, e2, e3, e4⟩ := e
        dsimp only at hkd q1 q3 hg k1 j3
        subst hkd; subst q1
        subst hn
        have q2 : s_tag 1 v = true := q2
        rw [List.map_cons, List.map_cons, List.map_cons, s_v3 hx, s_v0 j1, j2, s_v1 q2]
        refine va_last X.1 X.2.1 hE.1.1 hP hD hS _ 4 hg (s_tys_v (by omega)) k1 hd (fun H1 locs1 hP1 hD1 hS1 => ?_)
        rw [k2] at hP1 hD1
        have he9 : (Sum.inl (tc 4, e3, Sum.inr (Sum.inl (fun i => s_l ρ (s_look ((j, v) :: e4) i)))) : va_E) = .inl (tc 4, e3, .inr (.inl (vp_updL (fun i => s_l ρ (s_look e4 i)) j (Int64.ofInt (s_n ρ v))))) := by
          congr 5
          funext i
          rw [s_look_c]
          unfold vp_updL
          split <;> rfl
        have hset := s_h_set tc ρ α ξ h x.2.2 (2, 4, e3, (j, v) :: e4)
        rw [show s_e tc ρ α ξ (2, 4, e3, (j, v) :: e4) = _ from he9] at hset
        rw [hset] at hP1 hD1
        exact hih mi _ lo r _ iv c n k hm q3 X hin hE hA hP1 hD1 hS1 hl (by rw [List.length_set]; exact hb0) hag
      · cases hh
    · cases hh
  · cases hh
theorem v_cast (hih : s_All l D tc ξ xs ρ f) (hρ : s_ρ ρ xs) (hm : mi < s_M) (hd : decode (s_by mi) pc = .ok (.castore, 1)) (hn : npc = pc + 1) (hh : s_ast f mi npc lo st h iv c n k 1 1 2 = true) : s_Snd l D tc ξ xs ρ mi pc lo st h iv c n k := by
  intro p e R s m args below meth cc A α α0 b0 H locs ls X hin hE hA hP hD hS hl hb0 hag
  unfold s_ast at hh
  split at hh
  · next v y x r =>
    split at hh
    · next e he =>
      split at hh
      · next j hj =>
        rw [Bool.and_eq_true, Bool.and_eq_true] at hh
        obtain ⟨q1, q2, q3⟩ := hh
        replace q1 := Nat.eq_of_beq_eq_true q1
        obtain ⟨j1, j2, j3, j4⟩ := s_ix_v hin hj
        obtain ⟨k1, k2⟩ := s_ixI j3 j4
        obtain ⟨hx, hcell, hkd⟩ := s_arr_v he
        have hg := s_h_get (tc := tc) (ρ := ρ) (α := α) (ξ := ξ) hcell
        obtain ⟨e1, e2, e3, e4⟩ := e
        dsimp only at hkd q1 q3 hg k1 j3
        subst hkd; subst q1
        subst hn
        have q2 : (s_tag 0 v && s_rg 0 65535 iv v) = true := q2
        rw [Bool.and_eq_true] at q2
        have hnar := s_narC (s_rg_v hin q2.2).1 (s_rg_v hin q2.2).2
        rw [List.map_cons, List.map_cons, List.map_cons, s_v3 hx, s_v0 j1, j2, s_v0 q2.1]
        refine va_cast X.1 X.2.1 hE.1.1 hP hD hS _ 1 hg (s_tys_v (by omega)) k1 hd (fun H1 locs1 hP1 hD1 hS1 => ?_)
        rw [k2] at hP1 hD1
        have he9 : (Sum.inl (tc 1, e3, Sum.inl (fun i => s_i ρ (s_look ((j, v) :: e4) i))) : va_E) = .inl (tc 1, e3, .inl (upd (fun i => s_i ρ (s_look e4 i)) j (vp_nar .char (Int32.ofInt (s_n ρ v))))) := by
          rw [hnar]
          congr 4
          funext i
          rw [s_look_c]
          unfold upd
          split <;> rfl
        have hset := s_h_set tc ρ α ξ h x.2.2 (1, 1, e3, (j, v) :: e4)
        rw [show s_e tc ρ α ξ (1, 1, e3, (j, v) :: e4) = _ from he9] at hset
        rw [hset] at hP1 hD1
        exact hih mi _ lo r _ iv c n k hm q3 X hin hE hA hP1 hD1 hS1 hl (by rw [List.length_set]; exact hb0) hag
      · cases hh
    · cases hh
  · cases hh
theorem v_bast (hih : s_All l D tc ξ xs ρ f) (hρ : s_ρ ρ xs) (hm : mi < s_M) (hd : decode (s_by mi) pc = .ok (.bastore, 1)) (hn : npc = pc + 1) (hh : s_ast f mi npc lo st h iv c n k 1 2 5 = true) : s_Snd l D tc ξ xs ρ mi pc lo st h iv c n k := by
  intro p e R s m args below meth cc A α α0 b0 H locs ls X hin hE hA hP hD hS hl hb0 hag
  unfold s_ast at hh
  split at hh
  · next v y x r =>
    split at hh
    · next e he =>
      split at hh
      · next j hj =>
        rw [Bool.and_eq_true, Bool.and_eq_true] at hh
        obtain ⟨q1, q2, q3⟩ := hh
        replace q1 := Nat.eq_of_beq_eq_true q1
        obtain ⟨j1, j2, j3, j4⟩ := s_ix_v hin hj
        obtain ⟨k1, k2⟩ := s_ixI j3 j4
        obtain ⟨hx, hcell, hkd⟩ := s_arr_v he
        have hg := s_h_get (tc := tc) (ρ := ρ) (α := α) (ξ := ξ) hcell
        obtain ⟨e1, e2, e3, e4⟩ := e
        dsimp only at hkd q1 q3 hg k1 j3
        subst hkd; subst q1
        subst hn
        have q2 : (s_tag 0 v && s_rg (-128) 127 iv v) = true := q2
        rw [Bool.and_eq_true] at q2
        have hnar := s_narB (s_rg_v hin q2.2).1 (s_rg_v hin q2.2).2
        rw [List.map_cons, List.map_cons, List.map_cons, s_v3 hx, s_v0 j1, j2, s_v0 q2.1]
        refine va_bast X.1 X.2.1 hE.1.1 hP hD hS _ 2 hg (s_tys_v (by omega)) k1 hd (fun H1 locs1 hP1 hD1 hS1 => ?_)
        rw [k2] at hP1 hD1
        have he9 : (Sum.inl (tc 2, e3, Sum.inl (fun i => s_i ρ (s_look ((j, v) :: e4) i))) : va_E) = .inl (tc 2, e3, .inl (upd (fun i => s_i ρ (s_look e4 i)) j (vp_nar .byte (Int32.ofInt (s_n ρ v))))) := by
          rw [hnar]
          congr 4
          funext i
          rw [s_look_c]
          unfold upd
          split <;> rfl
        have hset := s_h_set tc ρ α ξ h x.2.2 (1, 2, e3, (j, v) :: e4)
        rw [show s_e tc ρ α ξ (1, 2, e3, (j, v) :: e4) = _ from he9] at hset
        rw [hset] at hP1 hD1
        exact hih mi _ lo r _ iv c n k hm q3 X hin hE hA hP1 hD1 hS1 hl (by rw [List.length_set]; exact hb0) hag
      · cases hh
    · cases hh
  · cases hh
theorem v_aas (hih : s_All l D tc ξ xs ρ f) (hρ : s_ρ ρ xs) (hm : mi < s_M) (hd : decode (s_by mi) pc = .ok (.aastore, 1)) (hn : npc = pc + 1) (hh : s_aas f mi npc lo st h iv c n k = true) : s_Snd l D tc ξ xs ρ mi pc lo st h iv c n k := by
  intro p e R s m args below meth cc A α α0 b0 H locs ls X hin hE hA hP hD hS hl hb0 hag
  unfold s_aas at hh
  split at hh
  · next v y x r =>
    split at hh
    · next e he =>
      split at hh
      · next j hj =>
        rw [Bool.and_eq_true] at hh
        obtain ⟨q0, hh⟩ := hh
        split at hh
        · next w hw =>
          rw [Bool.and_eq_true, Bool.and_eq_true] at hh
          obtain ⟨q1, q2, q3⟩ := hh
          replace q1 := Nat.eq_of_beq_eq_true q1
          replace q2 := Nat.eq_of_beq_eq_true q2
          obtain ⟨j1, j2, j3, j4⟩ := s_ix_v hin hj
          obtain ⟨k1, k2⟩ := s_ixI j3 j4
          obtain ⟨hx, hcell, hkd⟩ := s_arr_v he
          have hg := s_h_get (tc := tc) (ρ := ρ) (α := α) (ξ := ξ) hcell
          have hgw := s_h_get (tc := tc) (ρ := ρ) (α := α) (ξ := ξ) hw
          obtain ⟨e1, e2, e3, e4⟩ := e
          obtain ⟨w1, w2, w3, w4⟩ := w
          dsimp only at hkd q1 q2 q3 hg k1 j3 hgw
          subst hkd; subst q2; subst q1
          subst hn
          obtain ⟨rw9, hr9, -⟩ := hP _ _ hgw
          rw [List.map_cons, List.map_cons, List.map_cons, s_v3 hx, s_v0 j1, j2, s_v3 (s_tag_iff.mp q0)]
          refine va_astqO X.1 X.2.1 hE.1.1 hP hD hS _ 6 _ w2 hg (s_tys_v (by omega)) (hE.1.2.1 _ (s_cas hr9) rfl) hgw hr9 k1 hd (fun H1 locs1 hP1 hD1 hS1 => ?_)
          rw [k2] at hP1 hD1
          have he9 : (Sum.inl (tc 6, e3, Sum.inr (Sum.inr (Sum.inr (Sum.inr (fun i => s_q α ξ (s_look ((j, v) :: e4) i)))))) : va_E) = .inl (tc 6, e3, .inr (.inr (.inr (.inr (va_up (fun i => s_q α ξ (s_look e4 i)) j (some (α v.2.2))))))) := by
            congr 8
            funext i
            rw [s_look_c]
            unfold va_up
            have : s_q α ξ v = some (α v.2.2) := s_q3 (s_tag_iff.mp q0)
            split
            · exact this
            · rfl
          have hset := s_h_set tc ρ α ξ h x.2.2 (4, 6, e3, (j, v) :: e4)
          rw [show s_e tc ρ α ξ (4, 6, e3, (j, v) :: e4) = _ from he9] at hset
          rw [hset] at hP1 hD1
          exact hih mi _ lo r _ iv c n k hm q3 X hin hE hA hP1 hD1 hS1 hl (by rw [List.length_set]; exact hb0) hag
        · cases hh
      · cases hh
    · cases hh
  · cases hh
end S6
