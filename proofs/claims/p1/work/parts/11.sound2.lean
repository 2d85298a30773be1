section S2
variable {l : Launch} {D : va_G} {tc : Nat → ClassId} {ξ α : Nat → Nat} {xs : Nat → Int32} {ρ : Nat → Int} {f : sF}
variable {mi pc npc : Nat} {lo : sL} {st : List sV} {h : List sE} {iv : sI} {c n : Nat} {k : sZ → Bool}
theorem s_add_n {iv : sI} (hin : s_in ρ iv) {x y z : sV} (hz : s_add iv x y = some z) : z.1 = x.1 ∧ s_n ρ z = s_n ρ x + s_n ρ y := by
  unfold s_add at hz
  split at hz
  · next e =>
    cases hz
    have := s_isk_v hin e
    refine ⟨rfl, ?_⟩
    unfold s_n at *
    dsimp only at *
    omega
  · split at hz
    · next e =>
      cases hz
      have := s_isk_v hin e
      refine ⟨rfl, ?_⟩
      unfold s_n at *
      dsimp only at *
      omega
    · cases hz
theorem s_sub_n {iv : sI} (hin : s_in ρ iv) {x y z : sV} (hz : s_sub iv x y = some z) : z.1 = x.1 ∧ s_n ρ z = s_n ρ x - s_n ρ y := by
  unfold s_sub at hz
  split at hz
  · next e =>
    cases hz
    have := s_isk_v hin e
    refine ⟨rfl, ?_⟩
    unfold s_n at *
    dsimp only at *
    omega
  · cases hz
theorem s_mul_n {iv : sI} (hin : s_in ρ iv) (h0 : ρ 0 = 0) {x y z : sV} (hz : s_mul iv x y = some z) : z.1 = x.1 ∧ s_n ρ z = s_n ρ x * s_n ρ y := by
  unfold s_mul at hz
  split at hz
  · next e =>
    rw [Bool.and_eq_true] at e
    cases hz
    refine ⟨rfl, ?_⟩
    rw [s_isk_v hin e.1, s_isk_v hin e.2]
    show ρ 0 + s_lo iv x * s_lo iv y = _
    rw [h0, Int.zero_add]
  · cases hz
theorem s_addI {iv : sI} (hin : s_in ρ iv) {x y z : sV} (h1 : s_tag 0 x = true) (_ : s_tag 0 y = true) (hz : s_add iv x y = some z) : Value.int (Int32.ofInt (s_n ρ x) + Int32.ofInt (s_n ρ y)) = s_v ρ α ξ z := by
  obtain ⟨a, b⟩ := s_add_n hin hz
  rw [s_v0 (s_tag_iff.mpr (a.trans (s_tag_iff.mp h1))), b, Int32.ofInt_add]
theorem s_addL {iv : sI} (hin : s_in ρ iv) {x y z : sV} (h1 : s_tag 1 x = true) (_ : s_tag 1 y = true) (hz : s_add iv x y = some z) : Value.long (Int64.ofInt (s_n ρ x) + Int64.ofInt (s_n ρ y)) = s_v ρ α ξ z := by
  obtain ⟨a, b⟩ := s_add_n hin hz
  rw [s_v1 (s_tag_iff.mpr (a.trans (s_tag_iff.mp h1))), b, Int64.ofInt_add]
theorem s_subI {iv : sI} (hin : s_in ρ iv) {x y z : sV} (h1 : s_tag 0 x = true) (_ : s_tag 0 y = true) (hz : s_sub iv x y = some z) : Value.int (Int32.ofInt (s_n ρ x) - Int32.ofInt (s_n ρ y)) = s_v ρ α ξ z := by
  obtain ⟨a, b⟩ := s_sub_n hin hz
  rw [s_v0 (s_tag_iff.mpr (a.trans (s_tag_iff.mp h1))), b, Int32.ofInt_sub]
theorem s_r32_64 {iv : sI} {x : sV} (h : s_r32 iv x = true) : s_r64 iv x = true := by
  unfold s_r32 at h
  unfold s_r64
  rw [Bool.and_eq_true, s_ile_iff, s_ile_iff] at h ⊢
  omega
theorem v_bipush (hih : s_All l D tc ξ xs ρ f) (hρ : s_ρ ρ xs) (hm : mi < s_M) {v : Int} (hd : decode (s_by mi) pc = .ok (.bipush v, 2)) (hn : npc = pc + 2) (hh : f mi npc lo ((0, v, 0) :: st) h iv c n k = true) (hv : (Int8.ofInt v).toInt32 = Int32.ofInt v) : s_Snd l D tc ξ xs ρ mi pc lo st h iv c n k := by
  intro p e R s m args below meth cc A α α0 b0 H locs ls X hin hE hA hP hD hS hl hb0 hag
  subst hn
  refine lv_bipush X.1 X.2.1 hd (v := Int32.ofInt (ρ 0 + v)) (by rw [hρ.1, Int.zero_add]; exact hv) ?_
  exact hih mi _ lo _ h iv c n k hm hh X hin hE hA hP hD hS (hl) hb0 hag
theorem v_sipush (hih : s_All l D tc ξ xs ρ f) (hρ : s_ρ ρ xs) (hm : mi < s_M) {v : Int} (hd : decode (s_by mi) pc = .ok (.sipush v, 3)) (hn : npc = pc + 3) (hh : f mi npc lo ((0, v, 0) :: st) h iv c n k = true) (hv : (Int16.ofInt v).toInt32 = Int32.ofInt v) : s_Snd l D tc ξ xs ρ mi pc lo st h iv c n k := by
  intro p e R s m args below meth cc A α α0 b0 H locs ls X hin hE hA hP hD hS hl hb0 hag
  subst hn
  refine lv_sipush X.1 X.2.1 hd (v := Int32.ofInt (ρ 0 + v)) (by rw [hρ.1, Int.zero_add]; exact hv) ?_
  exact hih mi _ lo _ h iv c n k hm hh X hin hE hA hP hD hS (hl) hb0 hag
theorem v_lconst (hih : s_All l D tc ξ xs ρ f) (hρ : s_ρ ρ xs) (hm : mi < s_M) {v : Fin 2} (hd : decode (s_by mi) pc = .ok (.lconst v, 1)) (hn : npc = pc + 1) (hh : f mi npc lo ((1, Int.ofNat v.val, 0) :: st) h iv c n k = true) : s_Snd l D tc ξ xs ρ mi pc lo st h iv c n k := by
  intro p e R s m args below meth cc A α α0 b0 H locs ls X hin hE hA hP hD hS hl hb0 hag
  subst hn
  refine lv_lconst X.1 X.2.1 hd (v := Int64.ofInt (ρ 0 + Int.ofNat v.val)) (by rw [hρ.1, Int.zero_add]; rfl) ?_
  exact hih mi _ lo _ h iv c n k hm hh X hin hE hA hP hD hS (hl) hb0 hag
theorem v_fconst (hih : s_All l D tc ξ xs ρ f) (hρ : s_ρ ρ xs) (hm : mi < s_M) (hd : decode (s_by mi) pc = .ok (.fconst 0, 1)) (hn : npc = pc + 1) (hh : f mi npc lo ((5, 0, 0) :: st) h iv c n k = true) : s_Snd l D tc ξ xs ρ mi pc lo st h iv c n k := by
  intro p e R s m args below meth cc A α α0 b0 H locs ls X hin hE hA hP hD hS hl hb0 hag
  subst hn
  refine lv_fconst0 X.1 X.2.1 hd ?_
  exact hih mi _ lo _ h iv c n k hm hh X hin hE hA hP hD hS (hl) hb0 hag
theorem v_dconst (hih : s_All l D tc ξ xs ρ f) (hρ : s_ρ ρ xs) (hm : mi < s_M) (hd : decode (s_by mi) pc = .ok (.dconst 0, 1)) (hn : npc = pc + 1) (hh : f mi npc lo ((6, 0, 0) :: st) h iv c n k = true) : s_Snd l D tc ξ xs ρ mi pc lo st h iv c n k := by
  intro p e R s m args below meth cc A α α0 b0 H locs ls X hin hE hA hP hD hS hl hb0 hag
  subst hn
  refine lv_dconst0 X.1 X.2.1 hd ?_
  exact hih mi _ lo _ h iv c n k hm hh X hin hE hA hP hD hS (hl) hb0 hag
theorem v_null (hih : s_All l D tc ξ xs ρ f) (hρ : s_ρ ρ xs) (hm : mi < s_M) (hd : decode (s_by mi) pc = .ok (.aconst_null, 1)) (hn : npc = pc + 1) (hh : f mi npc lo ((2, 0, 0) :: st) h iv c n k = true) : s_Snd l D tc ξ xs ρ mi pc lo st h iv c n k := by
  intro p e R s m args below meth cc A α α0 b0 H locs ls X hin hE hA hP hD hS hl hb0 hag
  subst hn
  refine lv_null X.1 X.2.1 hd ?_
  exact hih mi _ lo _ h iv c n k hm hh X hin hE hA hP hD hS (hl) hb0 hag
theorem v_ldc (hih : s_All l D tc ξ xs ρ f) (hρ : s_ρ ρ xs) (hm : mi < s_M) {ix : Nat} {v : Int} (hd : decode (s_by mi) pc = .ok (.ldc ix, 2)) (hn : npc = pc + 2) (hh : f mi npc lo ((0, v, 0) :: st) h iv c n k = true) (hw : Cond.constant (s_own mi) ix (Int32.ofInt v) ∈ s_U) : s_Snd l D tc ξ xs ρ mi pc lo st h iv c n k := by
  intro p e R s m args below meth cc A α α0 b0 H locs ls X hin hE hA hP hD hS hl hb0 hag
  subst hn
  refine lv_ldc X.1 X.2.1 (v := Int32.ofInt (ρ 0 + v)) X.2.2.2.2.2.1 (by rw [hρ.1, Int.zero_add]; exact X.2.2.2.2.2.2.1 _ hw) hd ?_
  exact hih mi _ lo _ h iv c n k hm hh X hin hE hA hP hD hS (hl) hb0 hag
theorem v_ldcw (hih : s_All l D tc ξ xs ρ f) (hρ : s_ρ ρ xs) (hm : mi < s_M) {ix : Nat} {v : Int} (hd : decode (s_by mi) pc = .ok (.ldc_w ix, 3)) (hn : npc = pc + 3) (hh : f mi npc lo ((0, v, 0) :: st) h iv c n k = true) (hw : Cond.constant (s_own mi) ix (Int32.ofInt v) ∈ s_U) : s_Snd l D tc ξ xs ρ mi pc lo st h iv c n k := by
  intro p e R s m args below meth cc A α α0 b0 H locs ls X hin hE hA hP hD hS hl hb0 hag
  subst hn
  refine lv_ldcw X.1 X.2.1 (v := Int32.ofInt (ρ 0 + v)) X.2.2.2.2.2.1 (by rw [hρ.1, Int.zero_add]; exact X.2.2.2.2.2.2.1 _ hw) hd ?_
  exact hih mi _ lo _ h iv c n k hm hh X hin hE hA hP hD hS (hl) hb0 hag
theorem v_ldc2 (hih : s_All l D tc ξ xs ρ f) (hρ : s_ρ ρ xs) (hm : mi < s_M) {ix : Nat} {v : Int} (hd : decode (s_by mi) pc = .ok (.ldc2_w ix, 3)) (hn : npc = pc + 3) (hh : f mi npc lo ((1, v, 0) :: st) h iv c n k = true) (hw : Cond.constantLong (s_own mi) ix (Int64.ofInt v) ∈ s_U) : s_Snd l D tc ξ xs ρ mi pc lo st h iv c n k := by
  intro p e R s m args below meth cc A α α0 b0 H locs ls X hin hE hA hP hD hS hl hb0 hag
  subst hn
  refine lv_ldc2 X.1 X.2.1 (v := Int64.ofInt (ρ 0 + v)) X.2.2.2.2.2.1 (by rw [hρ.1, Int.zero_add]; exact X.2.2.2.2.2.2.1 _ hw) hd ?_
  exact hih mi _ lo _ h iv c n k hm hh X hin hE hA hP hD hS (hl) hb0 hag
theorem v_iload (hih : s_All l D tc ξ xs ρ f) (hρ : s_ρ ρ xs) (hm : mi < s_M) {i : Nat} (hd : decode (s_by mi) pc = .ok (.iload i, 2)) (hn : npc = pc + 2) (hh : s_load f mi npc lo st h iv c n k (s_tag 0) i = true) : s_Snd l D tc ξ xs ρ mi pc lo st h iv c n k := by
  intro p e R s m args below meth cc A α α0 b0 H locs ls X hin hE hA hP hD hS hl hb0 hag
  subst hn
  unfold s_load at hh
  split at hh
  · next v hv =>
    rw [Bool.and_eq_true] at hh
    have hg := s_ll_get hv hl
    rw [s_v0 hh.1] at hg
    refine lv_iload X.1 X.2.1 hd hg ?_
    rw [← s_v0 (ρ := ρ) (α := α) (ξ := ξ) hh.1]
    exact hih mi _ lo _ h iv c n k hm hh.2 X hin hE hA hP hD hS hl hb0 hag
  · cases hh
theorem v_iload_n (hih : s_All l D tc ξ xs ρ f) (hρ : s_ρ ρ xs) (hm : mi < s_M) {i : Fin 4} (hd : decode (s_by mi) pc = .ok (.iload_n i, 1)) (hn : npc = pc + 1) (hh : s_load f mi npc lo st h iv c n k (s_tag 0) i.val = true) : s_Snd l D tc ξ xs ρ mi pc lo st h iv c n k := by
  intro p e R s m args below meth cc A α α0 b0 H locs ls X hin hE hA hP hD hS hl hb0 hag
  subst hn
  unfold s_load at hh
  split at hh
  · next v hv =>
    rw [Bool.and_eq_true] at hh
    have hg := s_ll_get hv hl
    rw [s_v0 hh.1] at hg
    refine lv_iload_n X.1 X.2.1 hd rfl hg ?_
    rw [← s_v0 (ρ := ρ) (α := α) (ξ := ξ) hh.1]
    exact hih mi _ lo _ h iv c n k hm hh.2 X hin hE hA hP hD hS hl hb0 hag
  · cases hh
theorem v_lload (hih : s_All l D tc ξ xs ρ f) (hρ : s_ρ ρ xs) (hm : mi < s_M) {i : Nat} (hd : decode (s_by mi) pc = .ok (.lload i, 2)) (hn : npc = pc + 2) (hh : s_load f mi npc lo st h iv c n k (s_tag 1) i = true) : s_Snd l D tc ξ xs ρ mi pc lo st h iv c n k := by
  intro p e R s m args below meth cc A α α0 b0 H locs ls X hin hE hA hP hD hS hl hb0 hag
  subst hn
  unfold s_load at hh
  split at hh
  · next v hv =>
    rw [Bool.and_eq_true] at hh
    have hg := s_ll_get hv hl
    rw [s_v1 hh.1] at hg
    refine lv_lload X.1 X.2.1 hd hg ?_
    rw [← s_v1 (ρ := ρ) (α := α) (ξ := ξ) hh.1]
    exact hih mi _ lo _ h iv c n k hm hh.2 X hin hE hA hP hD hS hl hb0 hag
  · cases hh
theorem v_lload_n (hih : s_All l D tc ξ xs ρ f) (hρ : s_ρ ρ xs) (hm : mi < s_M) {i : Fin 4} (hd : decode (s_by mi) pc = .ok (.lload_n i, 1)) (hn : npc = pc + 1) (hh : s_load f mi npc lo st h iv c n k (s_tag 1) i.val = true) : s_Snd l D tc ξ xs ρ mi pc lo st h iv c n k := by
  intro p e R s m args below meth cc A α α0 b0 H locs ls X hin hE hA hP hD hS hl hb0 hag
  subst hn
  unfold s_load at hh
  split at hh
  · next v hv =>
    rw [Bool.and_eq_true] at hh
    have hg := s_ll_get hv hl
    rw [s_v1 hh.1] at hg
    refine lv_lload_n X.1 X.2.1 hd rfl hg ?_
    rw [← s_v1 (ρ := ρ) (α := α) (ξ := ξ) hh.1]
    exact hih mi _ lo _ h iv c n k hm hh.2 X hin hE hA hP hD hS hl hb0 hag
  · cases hh
theorem v_aload (hih : s_All l D tc ξ xs ρ f) (hρ : s_ρ ρ xs) (hm : mi < s_M) {i : Nat} (hd : decode (s_by mi) pc = .ok (.aload i, 2)) (hn : npc = pc + 2) (hh : s_load f mi npc lo st h iv c n k (s_isA) i = true) : s_Snd l D tc ξ xs ρ mi pc lo st h iv c n k := by
  intro p e R s m args below meth cc A α α0 b0 H locs ls X hin hE hA hP hD hS hl hb0 hag
  subst hn
  unfold s_load at hh
  split at hh
  · next v hv =>
    rw [Bool.and_eq_true] at hh
    have hg := s_ll_get hv hl
    rcases s_vA (ρ := ρ) (α := α) (ξ := ξ) hh.1 with hz | ⟨a, hz⟩
    · rw [hz] at hg
      refine lv_aloadN X.1 X.2.1 hd hg ?_
      rw [← hz]
      exact hih mi _ lo _ h iv c n k hm hh.2 X hin hE hA hP hD hS hl hb0 hag
    · rw [hz] at hg
      refine lv_aload X.1 X.2.1 hd hg ?_
      rw [← hz]
      exact hih mi _ lo _ h iv c n k hm hh.2 X hin hE hA hP hD hS hl hb0 hag
  · cases hh
theorem v_aload_n (hih : s_All l D tc ξ xs ρ f) (hρ : s_ρ ρ xs) (hm : mi < s_M) {i : Fin 4} (hd : decode (s_by mi) pc = .ok (.aload_n i, 1)) (hn : npc = pc + 1) (hh : s_load f mi npc lo st h iv c n k (s_isA) i.val = true) : s_Snd l D tc ξ xs ρ mi pc lo st h iv c n k := by
  intro p e R s m args below meth cc A α α0 b0 H locs ls X hin hE hA hP hD hS hl hb0 hag
  subst hn
  unfold s_load at hh
  split at hh
  · next v hv =>
    rw [Bool.and_eq_true] at hh
    have hg := s_ll_get hv hl
    rcases s_vA (ρ := ρ) (α := α) (ξ := ξ) hh.1 with hz | ⟨a, hz⟩
    · rw [hz] at hg
      refine lv_aload_nN X.1 X.2.1 hd rfl hg ?_
      rw [← hz]
      exact hih mi _ lo _ h iv c n k hm hh.2 X hin hE hA hP hD hS hl hb0 hag
    · rw [hz] at hg
      refine lv_aload_n X.1 X.2.1 hd rfl hg ?_
      rw [← hz]
      exact hih mi _ lo _ h iv c n k hm hh.2 X hin hE hA hP hD hS hl hb0 hag
  · cases hh
theorem v_istore (hih : s_All l D tc ξ xs ρ f) (hρ : s_ρ ρ xs) (hm : mi < s_M) {i : Nat} (hd : decode (s_by mi) pc = .ok (.istore i, 2)) (hn : npc = pc + 2) (hh : s_sto f s_P mi npc lo st h iv c n k (s_tag 0) i = true) : s_Snd l D tc ξ xs ρ mi pc lo st h iv c n k := by
  intro p e R s m args below meth cc A α α0 b0 H locs ls X hin hE hA hP hD hS hl hb0 hag
  subst hn
  unfold s_sto at hh
  split at hh
  · next v r =>
    rw [Bool.and_eq_true, Bool.and_eq_true] at hh
    obtain ⟨h1, h2, h3⟩ := hh
    have h2 : i < (s_meta mi).1 := by simpa [Nat.blt_eq] using h2
    rw [List.map_cons]
    rw [s_v0 h1]
    refine lv_istore X.1 X.2.1 hd (lv' := s_ll ρ α ξ (s_put lo i v)) hl h2 (by rw [← s_ll_put, s_v0 h1]) (fun ls hl => ?_)
    exact hih mi _ _ r h iv c n k hm h3 X hin hE hA hP hD hS hl hb0 hag
  · cases hh
theorem v_istore_n (hih : s_All l D tc ξ xs ρ f) (hρ : s_ρ ρ xs) (hm : mi < s_M) {i : Fin 4} (hd : decode (s_by mi) pc = .ok (.istore_n i, 1)) (hn : npc = pc + 1) (hh : s_sto f s_P mi npc lo st h iv c n k (s_tag 0) i.val = true) : s_Snd l D tc ξ xs ρ mi pc lo st h iv c n k := by
  intro p e R s m args below meth cc A α α0 b0 H locs ls X hin hE hA hP hD hS hl hb0 hag
  subst hn
  unfold s_sto at hh
  split at hh
  · next v r =>
    rw [Bool.and_eq_true, Bool.and_eq_true] at hh
    obtain ⟨h1, h2, h3⟩ := hh
    have h2 : i.val < (s_meta mi).1 := by simpa [Nat.blt_eq] using h2
    rw [List.map_cons]
    rw [s_v0 h1]
    refine lv_istore_n X.1 X.2.1 hd rfl (lv' := s_ll ρ α ξ (s_put lo i.val v)) hl h2 (by rw [← s_ll_put, s_v0 h1]) (fun ls hl => ?_)
    exact hih mi _ _ r h iv c n k hm h3 X hin hE hA hP hD hS hl hb0 hag
  · cases hh
theorem v_fstore (hih : s_All l D tc ξ xs ρ f) (hρ : s_ρ ρ xs) (hm : mi < s_M) {i : Nat} (hd : decode (s_by mi) pc = .ok (.fstore i, 2)) (hn : npc = pc + 2) (hh : s_sto f s_P mi npc lo st h iv c n k (s_tag 5) i = true) : s_Snd l D tc ξ xs ρ mi pc lo st h iv c n k := by
  intro p e R s m args below meth cc A α α0 b0 H locs ls X hin hE hA hP hD hS hl hb0 hag
  subst hn
  unfold s_sto at hh
  split at hh
  · next v r =>
    rw [Bool.and_eq_true, Bool.and_eq_true] at hh
    obtain ⟨h1, h2, h3⟩ := hh
    have h2 : i < (s_meta mi).1 := by simpa [Nat.blt_eq] using h2
    rw [List.map_cons]
    rw [s_v5 h1]
    refine lv_fstore X.1 X.2.1 hd (lv' := s_ll ρ α ξ (s_put lo i v)) hl h2 (by rw [← s_ll_put, s_v5 h1]) (fun ls hl => ?_)
    exact hih mi _ _ r h iv c n k hm h3 X hin hE hA hP hD hS hl hb0 hag
  · cases hh
theorem v_lstore (hih : s_All l D tc ξ xs ρ f) (hρ : s_ρ ρ xs) (hm : mi < s_M) {i : Nat} (hd : decode (s_by mi) pc = .ok (.lstore i, 2)) (hn : npc = pc + 2) (hh : s_sto2 f s_P mi npc lo st h iv c n k (s_tag 1) i = true) : s_Snd l D tc ξ xs ρ mi pc lo st h iv c n k := by
  intro p e R s m args below meth cc A α α0 b0 H locs ls X hin hE hA hP hD hS hl hb0 hag
  subst hn
  unfold s_sto2 at hh
  split at hh
  · next v r =>
    rw [Bool.and_eq_true, Bool.and_eq_true] at hh
    obtain ⟨h1, h2, h3⟩ := hh
    have h2 : i + 1 < (s_meta mi).1 := by simpa [Nat.blt_eq] using h2
    rw [List.map_cons]
    rw [s_v1 h1]
    refine lv_lstore X.1 X.2.1 hd (lv' := s_ll ρ α ξ (s_put2 lo i v)) hl h2 (by rw [← s_ll_put2, s_v1 h1]) (fun ls hl => ?_)
    exact hih mi _ _ r h iv c n k hm h3 X hin hE hA hP hD hS hl hb0 hag
  · cases hh
theorem v_lstore_n (hih : s_All l D tc ξ xs ρ f) (hρ : s_ρ ρ xs) (hm : mi < s_M) {i : Fin 4} (hd : decode (s_by mi) pc = .ok (.lstore_n i, 1)) (hn : npc = pc + 1) (hh : s_sto2 f s_P mi npc lo st h iv c n k (s_tag 1) i.val = true) : s_Snd l D tc ξ xs ρ mi pc lo st h iv c n k := by
  intro p e R s m args below meth cc A α α0 b0 H locs ls X hin hE hA hP hD hS hl hb0 hag
  subst hn
  unfold s_sto2 at hh
  split at hh
  · next v r =>
    rw [Bool.and_eq_true, Bool.and_eq_true] at hh
    obtain ⟨h1, h2, h3⟩ := hh
    have h2 : i.val + 1 < (s_meta mi).1 := by simpa [Nat.blt_eq] using h2
    rw [List.map_cons]
    rw [s_v1 h1]
    refine lv_lstore_n X.1 X.2.1 hd rfl (lv' := s_ll ρ α ξ (s_put2 lo i.val v)) hl h2 (by rw [← s_ll_put2, s_v1 h1]) (fun ls hl => ?_)
    exact hih mi _ _ r h iv c n k hm h3 X hin hE hA hP hD hS hl hb0 hag
  · cases hh
theorem v_dstore (hih : s_All l D tc ξ xs ρ f) (hρ : s_ρ ρ xs) (hm : mi < s_M) {i : Nat} (hd : decode (s_by mi) pc = .ok (.dstore i, 2)) (hn : npc = pc + 2) (hh : s_sto2 f s_P mi npc lo st h iv c n k (s_tag 6) i = true) : s_Snd l D tc ξ xs ρ mi pc lo st h iv c n k := by
  intro p e R s m args below meth cc A α α0 b0 H locs ls X hin hE hA hP hD hS hl hb0 hag
  subst hn
  unfold s_sto2 at hh
  split at hh
  · next v r =>
    rw [Bool.and_eq_true, Bool.and_eq_true] at hh
    obtain ⟨h1, h2, h3⟩ := hh
    have h2 : i + 1 < (s_meta mi).1 := by simpa [Nat.blt_eq] using h2
    rw [List.map_cons]
    rw [s_v6 h1]
    refine lv_dstore X.1 X.2.1 hd (lv' := s_ll ρ α ξ (s_put2 lo i v)) hl h2 (by rw [← s_ll_put2, s_v6 h1]) (fun ls hl => ?_)
    exact hih mi _ _ r h iv c n k hm h3 X hin hE hA hP hD hS hl hb0 hag
  · cases hh
theorem v_astore (hih : s_All l D tc ξ xs ρ f) (hρ : s_ρ ρ xs) (hm : mi < s_M) {i : Nat} (hd : decode (s_by mi) pc = .ok (.astore i, 2)) (hn : npc = pc + 2) (hh : s_sto f s_P mi npc lo st h iv c n k (s_isA) i = true) : s_Snd l D tc ξ xs ρ mi pc lo st h iv c n k := by
  intro p e R s m args below meth cc A α α0 b0 H locs ls X hin hE hA hP hD hS hl hb0 hag
  subst hn
  unfold s_sto at hh
  split at hh
  · next v r =>
    rw [Bool.and_eq_true, Bool.and_eq_true] at hh
    obtain ⟨h1, h2, h3⟩ := hh
    have h2 : i < (s_meta mi).1 := by simpa [Nat.blt_eq] using h2
    rw [List.map_cons]
    rcases s_vA (ρ := ρ) (α := α) (ξ := ξ) h1 with hz | ⟨a, hz⟩
    · rw [hz]
      refine lv_astoreN X.1 X.2.1 hd (lv' := s_ll ρ α ξ (s_put lo i v)) hl h2 (by rw [← s_ll_put, hz]) (fun ls hl => ?_)
      exact hih mi _ _ r h iv c n k hm h3 X hin hE hA hP hD hS hl hb0 hag
    · rw [hz]
      refine lv_astore X.1 X.2.1 hd (lv' := s_ll ρ α ξ (s_put lo i v)) hl h2 (by rw [← s_ll_put, hz]) (fun ls hl => ?_)
      exact hih mi _ _ r h iv c n k hm h3 X hin hE hA hP hD hS hl hb0 hag
  · cases hh
theorem v_astore_n (hih : s_All l D tc ξ xs ρ f) (hρ : s_ρ ρ xs) (hm : mi < s_M) {i : Fin 4} (hd : decode (s_by mi) pc = .ok (.astore_n i, 1)) (hn : npc = pc + 1) (hh : s_sto f s_P mi npc lo st h iv c n k (s_isA) i.val = true) : s_Snd l D tc ξ xs ρ mi pc lo st h iv c n k := by
  intro p e R s m args below meth cc A α α0 b0 H locs ls X hin hE hA hP hD hS hl hb0 hag
  subst hn
  unfold s_sto at hh
  split at hh
  · next v r =>
    rw [Bool.and_eq_true, Bool.and_eq_true] at hh
    obtain ⟨h1, h2, h3⟩ := hh
    have h2 : i.val < (s_meta mi).1 := by simpa [Nat.blt_eq] using h2
    rw [List.map_cons]
    rcases s_vA (ρ := ρ) (α := α) (ξ := ξ) h1 with hz | ⟨a, hz⟩
    · rw [hz]
      refine lv_astore_nN X.1 X.2.1 hd rfl (lv' := s_ll ρ α ξ (s_put lo i.val v)) hl h2 (by rw [← s_ll_put, hz]) (fun ls hl => ?_)
      exact hih mi _ _ r h iv c n k hm h3 X hin hE hA hP hD hS hl hb0 hag
    · rw [hz]
      refine lv_astore_n X.1 X.2.1 hd rfl (lv' := s_ll ρ α ξ (s_put lo i.val v)) hl h2 (by rw [← s_ll_put, hz]) (fun ls hl => ?_)
      exact hih mi _ _ r h iv c n k hm h3 X hin hE hA hP hD hS hl hb0 hag
  · cases hh
theorem v_iadd (hih : s_All l D tc ξ xs ρ f) (hρ : s_ρ ρ xs) (hm : mi < s_M) (hd : decode (s_by mi) pc = .ok (.iadd, 1)) (hn : npc = pc + 1) (hh : s_bin f mi npc lo st h iv c n k 0 s_add = true) : s_Snd l D tc ξ xs ρ mi pc lo st h iv c n k := by
  intro p e R s m args below meth cc A α α0 b0 H locs ls X hin hE hA hP hD hS hl hb0 hag
  subst hn
  unfold s_bin at hh
  split at hh
  · next y x r =>
    rw [Bool.and_eq_true, Bool.and_eq_true] at hh
    obtain ⟨h1, h2, h3⟩ := hh
    split at h3
    · next z hz =>
      rw [List.map_cons, List.map_cons, s_v0 h1, s_v0 h2]
      refine lv_iadd X.1 X.2.1 hd ?_
      have hq := s_addI (α := α) (ξ := ξ) hin h1 h2 hz
      rw [hq]
      exact hih mi _ lo (z :: r) h iv c n k hm h3 X hin hE hA hP hD hS hl hb0 hag
    · cases h3
  · cases hh
theorem v_isub (hih : s_All l D tc ξ xs ρ f) (hρ : s_ρ ρ xs) (hm : mi < s_M) (hd : decode (s_by mi) pc = .ok (.isub, 1)) (hn : npc = pc + 1) (hh : s_bin f mi npc lo st h iv c n k 0 s_sub = true) : s_Snd l D tc ξ xs ρ mi pc lo st h iv c n k := by
  intro p e R s m args below meth cc A α α0 b0 H locs ls X hin hE hA hP hD hS hl hb0 hag
  subst hn
  unfold s_bin at hh
  split at hh
  · next y x r =>
    rw [Bool.and_eq_true, Bool.and_eq_true] at hh
    obtain ⟨h1, h2, h3⟩ := hh
    split at h3
    · next z hz =>
      rw [List.map_cons, List.map_cons, s_v0 h1, s_v0 h2]
      refine lv_isub X.1 X.2.1 hd ?_
      have hq := s_subI (α := α) (ξ := ξ) hin h1 h2 hz
      rw [hq]
      exact hih mi _ lo (z :: r) h iv c n k hm h3 X hin hE hA hP hD hS hl hb0 hag
    · cases h3
  · cases hh
theorem v_ladd (hih : s_All l D tc ξ xs ρ f) (hρ : s_ρ ρ xs) (hm : mi < s_M) (hd : decode (s_by mi) pc = .ok (.ladd, 1)) (hn : npc = pc + 1) (hh : s_bin f mi npc lo st h iv c n k 1 s_add = true) : s_Snd l D tc ξ xs ρ mi pc lo st h iv c n k := by
  intro p e R s m args below meth cc A α α0 b0 H locs ls X hin hE hA hP hD hS hl hb0 hag
  subst hn
  unfold s_bin at hh
  split at hh
  · next y x r =>
    rw [Bool.and_eq_true, Bool.and_eq_true] at hh
    obtain ⟨h1, h2, h3⟩ := hh
    split at h3
    · next z hz =>
      rw [List.map_cons, List.map_cons, s_v1 h1, s_v1 h2]
      refine lv_ladd X.1 X.2.1 hd ?_
      have hq := s_addL (α := α) (ξ := ξ) hin h1 h2 hz
      rw [hq]
      exact hih mi _ lo (z :: r) h iv c n k hm h3 X hin hE hA hP hD hS hl hb0 hag
    · cases h3
  · cases hh
theorem v_lmul (hih : s_All l D tc ξ xs ρ f) (hρ : s_ρ ρ xs) (hm : mi < s_M) (hd : decode (s_by mi) pc = .ok (.lmul, 1)) (hn : npc = pc + 1) (hh : s_bin f mi npc lo st h iv c n k 1 s_mul = true) : s_Snd l D tc ξ xs ρ mi pc lo st h iv c n k := by
  intro p e R s m args below meth cc A α α0 b0 H locs ls X hin hE hA hP hD hS hl hb0 hag
  subst hn
  unfold s_bin at hh
  split at hh
  · next y x r =>
    rw [Bool.and_eq_true, Bool.and_eq_true] at hh
    obtain ⟨h1, h2, h3⟩ := hh
    split at h3
    · next z hz =>
      rw [List.map_cons, List.map_cons, s_v1 h1, s_v1 h2]
      refine lv_lmul X.1 X.2.1 hd ?_
      obtain ⟨a, b⟩ := s_mul_n hin hρ.1 hz
      rw [← Int64.ofInt_mul, ← b, ← s_v1 (ρ := ρ) (α := α) (ξ := ξ) (s_tag_iff.mpr (a.trans (s_tag_iff.mp h1)))]
      exact hih mi _ lo (z :: r) h iv c n k hm h3 X hin hE hA hP hD hS hl hb0 hag
    · cases h3
  · cases hh
theorem v_iinc (hih : s_All l D tc ξ xs ρ f) (hρ : s_ρ ρ xs) (hm : mi < s_M) {i : Nat} {d : Int} (hd : decode (s_by mi) pc = .ok (.iinc i d, 3)) (hn : npc = pc + 3) (hh : (match s_get lo i with | some v => s_tag 0 v && (Nat.blt i (s_P.2.1 mi).1 && f mi npc (s_put lo i (0, v.2.1 + d, v.2.2)) st h iv c n k) | none => false) = true) : s_Snd l D tc ξ xs ρ mi pc lo st h iv c n k := by
  intro p e R s m args below meth cc A α α0 b0 H locs ls X hin hE hA hP hD hS hl hb0 hag
  subst hn
  split at hh
  · next v hv =>
    rw [Bool.and_eq_true, Bool.and_eq_true] at hh
    obtain ⟨h1, h2, h3⟩ := hh
    have h2 : i < (s_meta mi).1 := by simpa [Nat.blt_eq] using h2
    obtain ⟨q, hq⟩ := List.getElem?_of_mem (show (i, s_v ρ α ξ v) ∈ s_ll ρ α ξ lo from List.mem_map.mpr ⟨(i, v), s_get_v hv, rfl⟩)
    rw [s_v0 h1] at hq
    refine lv_iinc X.1 X.2.1 (v := Int32.ofInt (ρ v.2.2 + (v.2.1 + d))) (lv' := s_ll ρ α ξ (s_put lo i (0, v.2.1 + d, v.2.2))) hd hl hq ?_ h2 (by rw [← s_ll_put]; rfl) (fun ls hl => ?_)
    · rw [← Int32.ofInt_add]
      unfold s_n
      rw [Int.add_assoc]
    · exact hih mi _ _ _ h iv c n k hm h3 X hin hE hA hP hD hS hl hb0 hag
  · cases hh
theorem v_dup (hih : s_All l D tc ξ xs ρ f) (hρ : s_ρ ρ xs) (hm : mi < s_M) (hd : decode (s_by mi) pc = .ok (.dup, 1)) (hn : npc = pc + 1) (hh : (match st with | x :: r => Nat.beq (s_cat x) 1 && f mi npc lo (x :: x :: r) h iv c n k | [] => false) = true) : s_Snd l D tc ξ xs ρ mi pc lo st h iv c n k := by
  intro p e R s m args below meth cc A α α0 b0 H locs ls X hin hE hA hP hD hS hl hb0 hag
  subst hn
  split at hh
  · next x r =>
    rw [Bool.and_eq_true] at hh
    rw [List.map_cons]
    refine lv_dup X.1 X.2.1 hd (by rw [s_cat_v]; exact Nat.eq_of_beq_eq_true hh.1) ?_
    exact hih mi _ lo (x :: x :: r) h iv c n k hm hh.2 X hin hE hA hP hD hS hl hb0 hag
  · cases hh
theorem v_pop (hih : s_All l D tc ξ xs ρ f) (hρ : s_ρ ρ xs) (hm : mi < s_M) (hd : decode (s_by mi) pc = .ok (.pop, 1)) (hn : npc = pc + 1) (hh : (match st with | x :: r => Nat.beq (s_cat x) 1 && f mi npc lo r h iv c n k | [] => false) = true) : s_Snd l D tc ξ xs ρ mi pc lo st h iv c n k := by
  intro p e R s m args below meth cc A α α0 b0 H locs ls X hin hE hA hP hD hS hl hb0 hag
  subst hn
  split at hh
  · next x r =>
    rw [Bool.and_eq_true] at hh
    rw [List.map_cons]
    refine lv_pop X.1 X.2.1 hd (by rw [s_cat_v]; exact Nat.eq_of_beq_eq_true hh.1) ?_
    exact hih mi _ lo r h iv c n k hm hh.2 X hin hE hA hP hD hS hl hb0 hag
  · cases hh
theorem v_dup_x1 (hih : s_All l D tc ξ xs ρ f) (hρ : s_ρ ρ xs) (hm : mi < s_M) (hd : decode (s_by mi) pc = .ok (.dup_x1, 1)) (hn : npc = pc + 1) (hh : (match st with | x :: y :: r => Nat.beq (s_cat x) 1 && (Nat.beq (s_cat y) 1 && f mi npc lo (x :: y :: x :: r) h iv c n k) | _ => false) = true) : s_Snd l D tc ξ xs ρ mi pc lo st h iv c n k := by
  intro p e R s m args below meth cc A α α0 b0 H locs ls X hin hE hA hP hD hS hl hb0 hag
  subst hn
  split at hh
  · next x y r =>
    rw [Bool.and_eq_true, Bool.and_eq_true] at hh
    rw [List.map_cons, List.map_cons]
    refine lv_dup_x1 X.1 X.2.1 hd (by rw [s_cat_v]; exact Nat.eq_of_beq_eq_true hh.1) (by rw [s_cat_v]; exact Nat.eq_of_beq_eq_true hh.2.1) ?_
    exact hih mi _ lo (x :: y :: x :: r) h iv c n k hm hh.2.2 X hin hE hA hP hD hS hl hb0 hag
  · cases hh
theorem v_i2l (hih : s_All l D tc ξ xs ρ f) (hρ : s_ρ ρ xs) (hm : mi < s_M) (hd : decode (s_by mi) pc = .ok (.i2l, 1)) (hn : npc = pc + 1) (hh : (match st with | x :: r => s_tag 0 x && (s_r32 iv x && f mi npc lo ((1, x.2) :: r) h iv c n k) | [] => false) = true) : s_Snd l D tc ξ xs ρ mi pc lo st h iv c n k := by
  intro p e R s m args below meth cc A α α0 b0 H locs ls X hin hE hA hP hD hS hl hb0 hag
  subst hn
  split at hh
  · next x r =>
    rw [Bool.and_eq_true, Bool.and_eq_true] at hh
    obtain ⟨h1, h2, h3⟩ := hh
    rw [List.map_cons, s_v0 h1]
    refine lv_i2l X.1 X.2.1 (v := Int64.ofInt (s_n ρ x)) hd ?_ ?_
    · rw [← Int64.toInt_inj, Int32.toInt_toInt64, s_r32_v hin h2, s_r64_v hin (s_r32_64 h2)]
    · exact hih mi _ lo ((1, x.2) :: r) h iv c n k hm h3 X hin hE hA hP hD hS hl hb0 hag
  · cases hh
theorem v_l2i (hih : s_All l D tc ξ xs ρ f) (hρ : s_ρ ρ xs) (hm : mi < s_M) (hd : decode (s_by mi) pc = .ok (.l2i, 1)) (hn : npc = pc + 1) (hh : (match st with | x :: r => s_tag 1 x && (s_r32 iv x && f mi npc lo ((0, x.2) :: r) h iv c n k) | [] => false) = true) : s_Snd l D tc ξ xs ρ mi pc lo st h iv c n k := by
  intro p e R s m args below meth cc A α α0 b0 H locs ls X hin hE hA hP hD hS hl hb0 hag
  subst hn
  split at hh
  · next x r =>
    rw [Bool.and_eq_true, Bool.and_eq_true] at hh
    obtain ⟨h1, h2, h3⟩ := hh
    rw [List.map_cons, s_v1 h1]
    refine lv_l2i X.1 X.2.1 (v := Int32.ofInt (s_n ρ x)) hd ?_ ?_
    · rw [← Int32.ofInt_int64ToInt, s_r64_v hin (s_r32_64 h2)]
    · exact hih mi _ lo ((0, x.2) :: r) h iv c n k hm h3 X hin hE hA hP hD hS hl hb0 hag
  · cases hh
theorem v_goto (hih : s_All l D tc ξ xs ρ f) (hρ : s_ρ ρ xs) (hm : mi < s_M) {off : Int} {t : Nat} (hd : decode (s_by mi) pc = .ok (.goto off, 3)) (hn : npc = pc + 3) (hh : f mi t lo st h iv c n k = true) (ht : (pc : Int) + off = (t : Int)) : s_Snd l D tc ξ xs ρ mi pc lo st h iv c n k := by
  intro p e R s m args below meth cc A α α0 b0 H locs ls X hin hE hA hP hD hS hl hb0 hag
  subst hn
  refine lv_goto X.1 X.2.1 hd ht ?_
  exact hih mi _ lo _ h iv c n k hm hh X hin hE hA hP hD hS (hl) hb0 hag
end S2
