section S3
variable {l : Launch} {D : va_G} {tc : Nat → ClassId} {ξ : Nat → Nat} {xs : Nat → Int32} {ρ : Nat → Int} {f : sF}
variable {mi pc npc : Nat} {lo : sL} {st : List sV} {h : List sE} {iv : sI} {c n : Nat} {k : sZ → Bool}
theorem s_cmp_go (hih : s_All l D tc ξ xs ρ f) (hm : mi < s_M) {o : Jvm.ClassFile.Cond} {x y : sV} {rest : List sV} {tgt : Nat} (hh : s_cmp f mi pc lo st h iv c n k o x y rest tgt npc = true) {p : Program} {e : Env} {R : Room} {s : State} {m : MethodId} {args : Array Value} {below : List Frame} {meth : Method} {cc : Code} {A : Nat → Prop} {α α0 : Nat → Nat} {b0 : Nat} {H : Heap} {locs : List Loc} {ls : Array Slot} (X : s_Cx mi p l R s m args meth cc) (hin : s_in ρ iv) (hE : s_Env D tc ξ xs A s) (hA : ∀ q, s.heap.size ≤ q → A q) (hP : va_P D vwCl (s_h tc ρ α ξ h) H) (hD : va_D A (s_h tc ρ α ξ h)) (hS : va_S A s.heap H locs) (hl : lv_has ls (s_meta mi).1 (s_ll ρ α ξ lo)) (hb0 : b0 ≤ h.length) (hag : s_ag α0 α b0)
    (br : (s_ho o (s_n ρ x) (s_n ρ y) → W p l e R s m args below meth cc H locs c n (vx_MQ below (s_Qc D tc ξ ρ k A α0 b0) (s_Xc D tc ξ ρ k A α0 b0) args s (s_meta mi).2.2.1 (s_meta mi).2.2.2.1 A) (F0 m tgt ls (rest.map (s_v ρ α ξ)))) → (¬ s_ho o (s_n ρ x) (s_n ρ y) → W p l e R s m args below meth cc H locs c n (vx_MQ below (s_Qc D tc ξ ρ k A α0 b0) (s_Xc D tc ξ ρ k A α0 b0) args s (s_meta mi).2.2.1 (s_meta mi).2.2.2.1 A) (F0 m npc ls (rest.map (s_v ρ α ξ)))) → W p l e R s m args below meth cc H locs c n (vx_MQ below (s_Qc D tc ξ ρ k A α0 b0) (s_Xc D tc ξ ρ k A α0 b0) args s (s_meta mi).2.2.1 (s_meta mi).2.2.2.1 A) (F0 m pc ls (st.map (s_v ρ α ξ)))) : W p l e R s m args below meth cc H locs c n (vx_MQ below (s_Qc D tc ξ ρ k A α0 b0) (s_Xc D tc ξ ρ k A α0 b0) args s (s_meta mi).2.2.1 (s_meta mi).2.2.2.1 A) (F0 m pc ls (st.map (s_v ρ α ξ))) := by
  unfold s_cmp at hh
  split at hh
  · next hd => exact br (fun _ => hih mi tgt lo rest h iv c n k hm hh X hin hE hA hP hD hS hl hb0 hag) (fun q => absurd ((s_dec_v hin hd).mpr rfl) q)
  · next hd => exact br (fun q => absurd ((s_dec_v hin hd).mp q) (by simp)) (fun _ => hih mi npc lo rest h iv c n k hm hh X hin hE hA hP hD hS hl hb0 hag)
  · unfold s_spl at hh
    rw [Bool.and_eq_true] at hh
    rcases s_spl_v hin (s_cut o iv x y).1 (s_cut o iv x y).2 with q | q
    · exact hih mi pc lo st h _ c n k hm hh.1 X q hE hA hP hD hS hl hb0 hag
    · exact hih mi pc lo st h _ c n k hm hh.2 X q hE hA hP hD hS hl hb0 hag
theorem s_iL {u v : Int} (hu : (Int32.ofInt u).toInt = u) (hv : (Int32.ofInt v).toInt = v) : (Int32.ofInt u < Int32.ofInt v ↔ u < v) ∧ (Int32.ofInt u ≤ Int32.ofInt v ↔ u ≤ v) ∧ (Int32.ofInt u = Int32.ofInt v ↔ u = v) := by
  refine ⟨?_, ?_, ?_⟩
  · rw [Int32.lt_iff_toInt_lt, hu, hv]
  · rw [Int32.le_iff_toInt_le, hu, hv]
  · rw [← Int32.toInt_inj, hu, hv]
theorem s_lL {u v : Int} (hu : (Int64.ofInt u).toInt = u) (hv : (Int64.ofInt v).toInt = v) : (Int64.ofInt u < Int64.ofInt v ↔ u < v) ∧ (Int64.ofInt u = Int64.ofInt v ↔ u = v) := by
  refine ⟨?_, ?_⟩
  · rw [Int64.lt_iff_toInt_lt, hu, hv]
  · rw [← Int64.toInt_inj, hu, hv]
theorem v_icmp (hih : s_All l D tc ξ xs ρ f) (hρ : s_ρ ρ xs) (hm : mi < s_M) {o : Jvm.ClassFile.Cond} {off : Int} {tgt : Nat} (hd : decode (s_by mi) pc = .ok (.if_icmp o off, 3)) (hn : npc = pc + 3) (ht : (pc : Int) + off = (tgt : Int)) (hh : s_icm f mi pc npc lo st h iv c n k o tgt = true) : s_Snd l D tc ξ xs ρ mi pc lo st h iv c n k := by
  intro p e R s m args below meth cc A α α0 b0 H locs ls X hin hE hA hP hD hS hl hb0 hag
  unfold s_icm at hh
  split at hh
  · next y x r =>
    rw [Bool.and_eq_true, Bool.and_eq_true, Bool.and_eq_true, Bool.and_eq_true] at hh
    obtain ⟨h1, h2, h3, h4, h5⟩ := hh
    have a1 := s_iL (s_r32_v hin h3) (s_r32_v hin h4)
    have a2 := s_iL (s_r32_v hin h4) (s_r32_v hin h3)
    refine s_cmp_go hih hm h5 X hin hE hA hP hD hS hl hb0 hag (fun kt kf => ?_)
    subst hn
    rw [List.map_cons, List.map_cons, s_v0 h1, s_v0 h2]
    cases o
    · exact lv_icmp_eq X.1 X.2.1 hd ht (fun q => kt (by simp only [s_ho]; first | exact a1.1.mp q | exact a2.1.mp q | exact a1.2.1.mp q | exact a2.2.1.mp q | exact a1.2.2.mp q | exact fun z => q (a1.2.2.mpr z))) (fun q => kf (by simp only [s_ho]; first | exact fun z => q (a1.1.mpr z) | exact fun z => q (a2.1.mpr z) | exact fun z => q (a1.2.1.mpr z) | exact fun z => q (a2.2.1.mpr z) | exact fun z => q (a1.2.2.mpr z) | exact fun z => q (fun w => z (a1.2.2.mp w)) | exact fun z => z (a1.2.2.mp q)))
    · exact lv_icmp_ne X.1 X.2.1 hd ht (fun q => kt (by simp only [s_ho]; first | exact a1.1.mp q | exact a2.1.mp q | exact a1.2.1.mp q | exact a2.2.1.mp q | exact a1.2.2.mp q | exact fun z => q (a1.2.2.mpr z))) (fun q => kf (by simp only [s_ho]; first | exact fun z => q (a1.1.mpr z) | exact fun z => q (a2.1.mpr z) | exact fun z => q (a1.2.1.mpr z) | exact fun z => q (a2.2.1.mpr z) | exact fun z => q (a1.2.2.mpr z) | exact fun z => q (fun w => z (a1.2.2.mp w)) | exact fun z => z (a1.2.2.mp q)))
    · exact lv_icmp_lt X.1 X.2.1 hd ht (fun q => kt (by simp only [s_ho]; first | exact a1.1.mp q | exact a2.1.mp q | exact a1.2.1.mp q | exact a2.2.1.mp q | exact a1.2.2.mp q | exact fun z => q (a1.2.2.mpr z))) (fun q => kf (by simp only [s_ho]; first | exact fun z => q (a1.1.mpr z) | exact fun z => q (a2.1.mpr z) | exact fun z => q (a1.2.1.mpr z) | exact fun z => q (a2.2.1.mpr z) | exact fun z => q (a1.2.2.mpr z) | exact fun z => q (fun w => z (a1.2.2.mp w)) | exact fun z => z (a1.2.2.mp q)))
    · exact lv_icmp_ge X.1 X.2.1 hd ht (fun q => kt (by simp only [s_ho]; first | exact a1.1.mp q | exact a2.1.mp q | exact a1.2.1.mp q | exact a2.2.1.mp q | exact a1.2.2.mp q | exact fun z => q (a1.2.2.mpr z))) (fun q => kf (by simp only [s_ho]; first | exact fun z => q (a1.1.mpr z) | exact fun z => q (a2.1.mpr z) | exact fun z => q (a1.2.1.mpr z) | exact fun z => q (a2.2.1.mpr z) | exact fun z => q (a1.2.2.mpr z) | exact fun z => q (fun w => z (a1.2.2.mp w)) | exact fun z => z (a1.2.2.mp q)))
    · exact lv_icmp_gt X.1 X.2.1 hd ht (fun q => kt (by simp only [s_ho]; first | exact a1.1.mp q | exact a2.1.mp q | exact a1.2.1.mp q | exact a2.2.1.mp q | exact a1.2.2.mp q | exact fun z => q (a1.2.2.mpr z))) (fun q => kf (by simp only [s_ho]; first | exact fun z => q (a1.1.mpr z) | exact fun z => q (a2.1.mpr z) | exact fun z => q (a1.2.1.mpr z) | exact fun z => q (a2.2.1.mpr z) | exact fun z => q (a1.2.2.mpr z) | exact fun z => q (fun w => z (a1.2.2.mp w)) | exact fun z => z (a1.2.2.mp q)))
    · exact lv_icmp_le X.1 X.2.1 hd ht (fun q => kt (by simp only [s_ho]; first | exact a1.1.mp q | exact a2.1.mp q | exact a1.2.1.mp q | exact a2.2.1.mp q | exact a1.2.2.mp q | exact fun z => q (a1.2.2.mpr z))) (fun q => kf (by simp only [s_ho]; first | exact fun z => q (a1.1.mpr z) | exact fun z => q (a2.1.mpr z) | exact fun z => q (a1.2.1.mpr z) | exact fun z => q (a2.2.1.mpr z) | exact fun z => q (a1.2.2.mpr z) | exact fun z => q (fun w => z (a1.2.2.mp w)) | exact fun z => z (a1.2.2.mp q)))
  · cases hh
theorem v_ifc (hih : s_All l D tc ξ xs ρ f) (hρ : s_ρ ρ xs) (hm : mi < s_M) {o : Jvm.ClassFile.Cond} {off : Int} {tgt : Nat} (hd : decode (s_by mi) pc = .ok (.ifCond o off, 3)) (hn : npc = pc + 3) (ht : (pc : Int) + off = (tgt : Int)) (hh : s_ifc f mi pc npc lo st h iv c n k o tgt = true) : s_Snd l D tc ξ xs ρ mi pc lo st h iv c n k := by
  intro p e R s m args below meth cc A α α0 b0 H locs ls X hin hE hA hP hD hS hl hb0 hag
  unfold s_ifc at hh
  split at hh
  · next x r =>
    rw [Bool.and_eq_true, Bool.and_eq_true] at hh
    obtain ⟨h1, h3, h5⟩ := hh
    have e0 : s_n ρ (0, 0, 0) = 0 := by
      show ρ 0 + 0 = 0
      rw [hρ.1]
      rfl
    have a1 := s_iL (s_r32_v hin h3) (show (Int32.ofInt 0).toInt = 0 by decide)
    have a2 := s_iL (show (Int32.ofInt 0).toInt = 0 by decide) (s_r32_v hin h3)
    refine s_cmp_go hih hm h5 X hin hE hA hP hD hS hl hb0 hag (fun kt kf => ?_)
    rw [e0] at kt kf
    subst hn
    rw [List.map_cons, s_v0 h1]
    cases o
    · exact lv_if_eq X.1 X.2.1 hd ht (fun q => kt (by simp only [s_ho]; first | exact a1.1.mp q | exact a2.1.mp q | exact a1.2.1.mp q | exact a2.2.1.mp q | exact a1.2.2.mp q | exact fun z => q (a1.2.2.mpr z))) (fun q => kf (by simp only [s_ho]; first | exact fun z => q (a1.1.mpr z) | exact fun z => q (a2.1.mpr z) | exact fun z => q (a1.2.1.mpr z) | exact fun z => q (a2.2.1.mpr z) | exact fun z => q (a1.2.2.mpr z) | exact fun z => q (fun w => z (a1.2.2.mp w)) | exact fun z => z (a1.2.2.mp q)))
    · exact lv_if_ne X.1 X.2.1 hd ht (fun q => kt (by simp only [s_ho]; first | exact a1.1.mp q | exact a2.1.mp q | exact a1.2.1.mp q | exact a2.2.1.mp q | exact a1.2.2.mp q | exact fun z => q (a1.2.2.mpr z))) (fun q => kf (by simp only [s_ho]; first | exact fun z => q (a1.1.mpr z) | exact fun z => q (a2.1.mpr z) | exact fun z => q (a1.2.1.mpr z) | exact fun z => q (a2.2.1.mpr z) | exact fun z => q (a1.2.2.mpr z) | exact fun z => q (fun w => z (a1.2.2.mp w)) | exact fun z => z (a1.2.2.mp q)))
    · exact lv_if_lt X.1 X.2.1 hd ht (fun q => kt (by simp only [s_ho]; first | exact a1.1.mp q | exact a2.1.mp q | exact a1.2.1.mp q | exact a2.2.1.mp q | exact a1.2.2.mp q | exact fun z => q (a1.2.2.mpr z))) (fun q => kf (by simp only [s_ho]; first | exact fun z => q (a1.1.mpr z) | exact fun z => q (a2.1.mpr z) | exact fun z => q (a1.2.1.mpr z) | exact fun z => q (a2.2.1.mpr z) | exact fun z => q (a1.2.2.mpr z) | exact fun z => q (fun w => z (a1.2.2.mp w)) | exact fun z => z (a1.2.2.mp q)))
    · exact lv_if_ge X.1 X.2.1 hd ht (fun q => kt (by simp only [s_ho]; first | exact a1.1.mp q | exact a2.1.mp q | exact a1.2.1.mp q | exact a2.2.1.mp q | exact a1.2.2.mp q | exact fun z => q (a1.2.2.mpr z))) (fun q => kf (by simp only [s_ho]; first | exact fun z => q (a1.1.mpr z) | exact fun z => q (a2.1.mpr z) | exact fun z => q (a1.2.1.mpr z) | exact fun z => q (a2.2.1.mpr z) | exact fun z => q (a1.2.2.mpr z) | exact fun z => q (fun w => z (a1.2.2.mp w)) | exact fun z => z (a1.2.2.mp q)))
    · exact lv_if_gt X.1 X.2.1 hd ht (fun q => kt (by simp only [s_ho]; first | exact a1.1.mp q | exact a2.1.mp q | exact a1.2.1.mp q | exact a2.2.1.mp q | exact a1.2.2.mp q | exact fun z => q (a1.2.2.mpr z))) (fun q => kf (by simp only [s_ho]; first | exact fun z => q (a1.1.mpr z) | exact fun z => q (a2.1.mpr z) | exact fun z => q (a1.2.1.mpr z) | exact fun z => q (a2.2.1.mpr z) | exact fun z => q (a1.2.2.mpr z) | exact fun z => q (fun w => z (a1.2.2.mp w)) | exact fun z => z (a1.2.2.mp q)))
    · exact lv_if_le X.1 X.2.1 hd ht (fun q => kt (by simp only [s_ho]; first | exact a1.1.mp q | exact a2.1.mp q | exact a1.2.1.mp q | exact a2.2.1.mp q | exact a1.2.2.mp q | exact fun z => q (a1.2.2.mpr z))) (fun q => kf (by simp only [s_ho]; first | exact fun z => q (a1.1.mpr z) | exact fun z => q (a2.1.mpr z) | exact fun z => q (a1.2.1.mpr z) | exact fun z => q (a2.2.1.mpr z) | exact fun z => q (a1.2.2.mpr z) | exact fun z => q (fun w => z (a1.2.2.mp w)) | exact fun z => z (a1.2.2.mp q)))
  · cases hh
theorem v_lcm (hih : s_All l D tc ξ xs ρ f) (hρ : s_ρ ρ xs) (hm : mi < s_M) (hd : decode (s_by mi) pc = .ok (.lcmp, 1)) (hn : npc = pc + 1) (hh : s_lcm f s_P mi pc npc lo st h iv c n k = true) : s_Snd l D tc ξ xs ρ mi pc lo st h iv c n k := by
  intro p e R s m args below meth cc A α α0 b0 H locs ls X hin hE hA hP hD hS hl hb0 hag
  unfold s_lcm at hh
  split at hh
  · next y x r =>
    rw [Bool.and_eq_true, Bool.and_eq_true, Bool.and_eq_true, Bool.and_eq_true] at hh
    obtain ⟨h1, h2, h3, h4, h5⟩ := hh
    split at h5
    · next e9 hf =>
      split at h5
      · next o off he =>
        obtain ⟨d1, d2, d3⟩ := s_row hm hf
        obtain ⟨t9, i9, n9, f9⟩ := e9
        dsimp only at he d1 d2 d3 h5
        subst he
        have d1 : decode (s_by mi) npc = .ok (.ifCond o off, 3) := d1
        have d2 : n9 = npc + 3 := d2
        have a1 := s_lL (s_r64_v hin h3) (s_r64_v hin h4)
        have a2 := s_lL (s_r64_v hin h4) (s_r64_v hin h3)
        refine s_cmp_go hih hm h5 X hin hE hA hP hD hS hl hb0 hag (fun kt kf => ?_)
        have ht : (npc : Int) + off = (s_tgt f9 : Int) := by
          have h0 : t9 = npc := (s_find_v hf).2
          have q : s_off (t9, .ifCond o off, n9, f9) off = true := d3
          have q := of_decide_eq_true q
          rw [← h0]
          exact q
        subst hn
        subst d2
        rw [List.map_cons, List.map_cons, s_v1 h1, s_v1 h2]
        refine W.lcmp X.1 X.2.1 hd ?_
        have v1 : lg_cmp (Int64.ofInt (s_n ρ x)) (Int64.ofInt (s_n ρ y)) = if s_n ρ y < s_n ρ x then 1 else if s_n ρ x < s_n ρ y then -1 else 0 := by
          unfold lg_cmp
          by_cases z1 : s_n ρ y < s_n ρ x
          · simp [a2.1.mpr z1, z1]
          · by_cases z2 : s_n ρ x < s_n ρ y
            · simp [z1, z2, a1.1, a2.1]
              try (intro w; exfalso; have := a1.2.mp w; omega)
            · have z3 : s_n ρ x = s_n ρ y := by omega
              simp [z3]
        rw [v1]
        cases o
        · exact lv_if_eq X.1 X.2.1 d1 ht (fun q => kt (by simp only [s_ho]; revert q; split <;> (try split) <;> intro q <;> first | omega | (exfalso; revert q; decide) | skip)) (fun q => kf (by simp only [s_ho]; revert q; split <;> (try split) <;> intro q <;> first | omega | (exfalso; revert q; decide) | skip))
        · exact lv_if_ne X.1 X.2.1 d1 ht (fun q => kt (by simp only [s_ho]; revert q; split <;> (try split) <;> intro q <;> first | omega | (exfalso; revert q; decide) | skip)) (fun q => kf (by simp only [s_ho]; revert q; split <;> (try split) <;> intro q <;> first | omega | (exfalso; revert q; decide) | skip))
        · exact lv_if_lt X.1 X.2.1 d1 ht (fun q => kt (by simp only [s_ho]; revert q; split <;> (try split) <;> intro q <;> first | omega | (exfalso; revert q; decide) | skip)) (fun q => kf (by simp only [s_ho]; revert q; split <;> (try split) <;> intro q <;> first | omega | (exfalso; revert q; decide) | skip))
        · exact lv_if_ge X.1 X.2.1 d1 ht (fun q => kt (by simp only [s_ho]; revert q; split <;> (try split) <;> intro q <;> first | omega | (exfalso; revert q; decide) | skip)) (fun q => kf (by simp only [s_ho]; revert q; split <;> (try split) <;> intro q <;> first | omega | (exfalso; revert q; decide) | skip))
        · exact lv_if_gt X.1 X.2.1 d1 ht (fun q => kt (by simp only [s_ho]; revert q; split <;> (try split) <;> intro q <;> first | omega | (exfalso; revert q; decide) | skip)) (fun q => kf (by simp only [s_ho]; revert q; split <;> (try split) <;> intro q <;> first | omega | (exfalso; revert q; decide) | skip))
        · exact lv_if_le X.1 X.2.1 d1 ht (fun q => kt (by simp only [s_ho]; revert q; split <;> (try split) <;> intro q <;> first | omega | (exfalso; revert q; decide) | skip)) (fun q => kf (by simp only [s_ho]; revert q; split <;> (try split) <;> intro q <;> first | omega | (exfalso; revert q; decide) | skip))
      · cases h5
    · cases h5
  · cases hh
end S3
