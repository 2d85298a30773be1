section S12k
variable {mi ix : Nat} {info : List Nat}
theorem s_cp_1 (hk : s_nth info 0 = 1) : s_cpre mi ix info = [.methodLink (s_own mi) ix (s_y (s_nth info 1)), .static (s_y (s_nth info 1)), .initialized (s_y (s_nth info 1)).cls] := by
  unfold s_cpre
  rw [hk]
  rfl
theorem s_ck_1 (hk : s_nth info 0 = 1) (hw : s_clk mi ix info = true) : (s_pre (s_cpre mi ix info) (info.drop 5) && ((Nat.blt 0 (s_nth info 1) && Nat.blt (s_nth info 1) s_M) && (s_mh (s_y (s_nth info 1)).cls && (s_np (s_y (s_nth info 1)) (s_nth info 2))))) = true := by
  unfold s_clk at hw
  rw [hk] at hw
  exact hw
theorem s_cp_2 (hk : s_nth info 0 = 2) : s_cpre mi ix info = [.methodLink (s_own mi) ix (s_y (s_nth info 1)), .instanceMethod (s_y (s_nth info 1)), .initialized (s_y (s_nth info 1)).cls] := by
  unfold s_cpre
  rw [hk]
  rfl
theorem s_ck_2 (hk : s_nth info 0 = 2) (hw : s_clk mi ix info = true) : (s_pre (s_cpre mi ix info) (info.drop 5) && ((Nat.blt 0 (s_nth info 1) && Nat.blt (s_nth info 1) s_M) && (s_mh (s_y (s_nth info 1)).cls && (s_np (s_y (s_nth info 1)) (s_nth info 2 - 1) && (Nat.blt 0 (s_nth info 2) && (decide ((s_y (s_nth info 1)).name = "<init>" ∧ s_rt (s_nth info 1) = none) && (s_emp (s_hx (s_nth info 1)) && Nat.beq (s_nth info 3) 1000))))))) = true := by
  unfold s_clk at hw
  rw [hk] at hw
  exact hw
theorem s_cp_5 (hk : s_nth info 0 = 5) : s_cpre mi ix info = [.methodLink (s_own mi) ix (s_y (s_nth info 1)), .sameMethod (s_y (s_nth info 1)).cls (s_y (s_nth info 1)).cls (s_y (s_nth info 1)).name (s_y (s_nth info 1)).desc, .superclass (s_own mi) (s_y (s_nth info 1)).cls, .instanceMethod (s_y (s_nth info 1)), .initialized (s_y (s_nth info 1)).cls] := by
  unfold s_cpre
  rw [hk]
  rfl
theorem s_ck_5 (hk : s_nth info 0 = 5) (hw : s_clk mi ix info = true) : (s_pre (s_cpre mi ix info) (info.drop 5) && ((Nat.blt 0 (s_nth info 1) && Nat.blt (s_nth info 1) s_M) && (s_mh (s_y (s_nth info 1)).cls && (s_np (s_y (s_nth info 1)) (s_nth info 2 - 1) && (Nat.blt 0 (s_nth info 2) && (decide ((s_y (s_nth info 1)).name ≠ "<init>") && (s_emp (s_hx (s_nth info 1)) && (s_rci (s_nth info 3) && Nat.blt (s_nth info 3) 1000)))))))) = true := by
  unfold s_clk at hw
  rw [hk] at hw
  exact hw
theorem s_cp_12 (hk : s_nth info 0 = 12) : s_cpre mi ix info = [.instanceMethod (s_y (s_nth info 1)), .initialized (s_y (s_nth info 1)).cls] := by
  unfold s_cpre
  rw [hk]
  rfl
theorem s_ck_12 (hk : s_nth info 0 = 12) (hw : s_clk mi ix info = true) : (s_pre (s_cpre mi ix info) (info.drop 5) && ((Nat.blt 0 (s_nth info 1) && Nat.blt (s_nth info 1) s_M) && (s_mh (s_y (s_nth info 1)).cls && (s_np (s_y (s_nth info 1)) (s_nth info 2 - 1) && (Nat.blt 0 (s_nth info 2) && (decide ((s_y (s_nth info 1)).name = "<init>" ∧ s_rt (s_nth info 1) = none) && (s_emp (s_hx (s_nth info 1)) && Nat.beq (s_nth info 3) 1000 && s_wat ((info.drop 5).getLast?.getD 0) (.methodLinkNest (s_own mi) ix (s_y (s_nth info 1)) (s_host (s_nth info 4)))))))))) = true := by
  unfold s_clk at hw
  rw [hk] at hw
  exact hw
theorem s_cp_3 (hk : s_nth info 0 = 3) : s_cpre mi ix info = [.methodLink (s_own mi) ix (s_y (s_nth info 1)), .instanceMethod (s_y (s_nth info 1)), .selects (s_cln (s_nth info 3)) (s_y (s_nth info 1)) (s_y (s_nth info 1)), .initialized (s_cln (s_nth info 3))] := by
  unfold s_cpre
  rw [hk]
  rfl
theorem s_ck_3 (hk : s_nth info 0 = 3) (hw : s_clk mi ix info = true) : (s_pre (s_cpre mi ix info) (info.drop 5) && ((Nat.blt 0 (s_nth info 1) && Nat.blt (s_nth info 1) s_M) && (s_mh (s_y (s_nth info 1)).cls && (s_np (s_y (s_nth info 1)) (s_nth info 2 - 1) && (Nat.blt 0 (s_nth info 2) && (decide ((s_y (s_nth info 1)).cls = s_cln (s_nth info 3)) && (s_emp (s_hx (s_nth info 1)) && s_rci (s_nth info 3)))))))) = true := by
  unfold s_clk at hw
  rw [hk] at hw
  exact hw
theorem s_cp_6 (hk : s_nth info 0 = 6) : s_cpre mi ix info = [.methodLink (s_own mi) ix (s_y (s_nth info 1)), .sameMethod (s_y (s_nth info 1)).cls (s_y (s_nth info 1)).cls (s_y (s_nth info 1)).name (s_y (s_nth info 1)).desc, .selects (s_cln (s_nth info 3)) (s_y (s_nth info 1)) (s_y (s_nth info 1)), .instanceMethod (s_y (s_nth info 1)), .initialized (s_y (s_nth info 1)).cls] := by
  unfold s_cpre
  rw [hk]
  rfl
theorem s_ck_6 (hk : s_nth info 0 = 6) (hw : s_clk mi ix info = true) : (s_pre (s_cpre mi ix info) (info.drop 5) && ((Nat.blt 0 (s_nth info 1) && Nat.blt (s_nth info 1) s_M) && (s_mh (s_y (s_nth info 1)).cls && (s_np (s_y (s_nth info 1)) (s_nth info 2 - 1) && (Nat.blt 0 (s_nth info 2) && (s_emp (s_hx (s_nth info 1)) && s_rci (s_nth info 3))))))) = true := by
  unfold s_clk at hw
  rw [hk] at hw
  exact hw
theorem s_cp_13 (hk : s_nth info 0 = 13) : s_cpre mi ix info = [.instanceMethod (s_y (s_nth info 1)), .selects (s_cln (s_nth info 3)) (s_y (s_nth info 1)) (s_y (s_nth info 1)), .initialized (s_y (s_nth info 1)).cls] := by
  unfold s_cpre
  rw [hk]
  rfl
theorem s_ck_13 (hk : s_nth info 0 = 13) (hw : s_clk mi ix info = true) : (s_pre (s_cpre mi ix info) (info.drop 5) && ((Nat.blt 0 (s_nth info 1) && Nat.blt (s_nth info 1) s_M) && (s_mh (s_y (s_nth info 1)).cls && (s_np (s_y (s_nth info 1)) (s_nth info 2 - 1) && (Nat.blt 0 (s_nth info 2) && (s_emp (s_hx (s_nth info 1)) && (s_rci (s_nth info 3) && s_wat ((info.drop 5).getLast?.getD 0) (.methodLinkNest (s_own mi) ix (s_y (s_nth info 1)) (s_host (s_nth info 4)))))))))) = true := by
  unfold s_clk at hw
  rw [hk] at hw
  exact hw
theorem s_cp_4 (hk : s_nth info 0 = 4) : s_cpre mi ix info = [.methodLink (s_own mi) ix s_iX, .selects "java/util/ArrayList$Itr" s_iX s_iY, .instanceMethod s_iY, .initialized s_iY.cls] := by
  unfold s_cpre
  rw [hk]
  rfl
theorem s_ck_4 (hk : s_nth info 0 = 4) (hw : s_clk mi ix info = true) : (s_pre (s_cpre mi ix info) (info.drop 5) && ((Nat.blt 0 (s_nth info 1) && Nat.blt (s_nth info 1) s_M) && (s_mh (s_y (s_nth info 1)).cls && (decide (s_y (s_nth info 1) = s_iY ∧ s_cln (s_nth info 3) = "java/util/ArrayList$Itr") && (Nat.beq (s_nth info 2) 1 && (s_emp (s_hx (s_nth info 1)) && s_rci (s_nth info 3))))))) = true := by
  unfold s_clk at hw
  rw [hk] at hw
  exact hw
end S12k
section S12
variable {l : Launch} {D : va_G} {tc : Nat → ClassId} {ξ : Nat → Nat} {xs : Nat → Int32} {ρ : Nat → Int} {f : sF}
variable {mi pc npc : Nat} {lo : sL} {st : List sV} {h : List sE} {iv : sI} {c n : Nat} {k : sZ → Bool}
theorem s_recv {as ys : List sV} {x : sV} {ci b : Nat} {α : Nat → Nat} {A : Nat → Prop} {s : State} {H : Heap} {locs : List Loc} (hE : s_Env D tc ξ xs A s) (hP : va_P D vwCl (s_h tc ρ α ξ h) H) (hS : va_S A s.heap H locs) (hr : s_rcv h as ci = true) (hys : as = ys ++ [x]) (hb : s_v ρ α ξ x = .ref b) (hx3 : x.1 = 3 ∨ x.1 = 4 ∧ x.2.2 = 2 ∧ ci = 1001) (hobj : ∀ cj, ci = cj + 1 → ci ≠ 1000 → ci ≠ 1001 → ∃ fs, s_obj h x cj = some fs) (hci : ci ≠ 0) (hc0 : ci ≠ 1000) :
    (∃ cellB : Cell, H[b]? = some cellB ∧ cellB.vm.isStatics = false ∧ s.vm.findClass (s_cln ci) = some cellB.cls) ∧ (ci ≠ 1001 → ∃ cC, ClassAt s (s_cln ci) cC) := by
  rcases hx3 with hx3 | ⟨hx4, hx5, hx6⟩
  · rw [s_v3 hx3] at hb
    cases hb
    obtain ⟨cj, hcj⟩ : ∃ cj, ci = cj + 1 := ⟨ci - 1, by omega⟩
    by_cases h1 : ci = 1001
    · exfalso
      unfold s_rcv at hr
      rw [hys, List.getLast?_concat, h1] at hr
      have hr : (s_tag 4 x && Nat.beq x.2.2 2) = true := hr
      rw [Bool.and_eq_true] at hr
      have := s_tag_iff.mp hr.1
      omega
    · obtain ⟨fs, hfs⟩ := hobj cj hcj hc0 h1
      obtain ⟨-, z, hz⟩ := s_obj_v hfs
      have hg := s_h_get (tc := tc) (ρ := ρ) (α := α) (ξ := ξ) hz
      obtain ⟨r9, hr9, -⟩ := hP _ _ hg
      have hr9 : vwCl[cj]? = some r9 := hr9
      have := va_recv hE.1.1 hP hr9 hg
      have e9 : s_cln ci = r9.1 := by
        rw [hcj]
        unfold s_cln
        rw [hcj] at h1
        split
        · next q => omega
        · next q => exact absurd q h1
        · next q => cases q; rw [hr9]
      rw [e9]
      exact ⟨this, fun _ => ⟨_, (hE.1.1.1 cj r9 hr9).2⟩⟩
  · rw [s_v4 hx4, hx5] at hb
    cases hb
    obtain ⟨cell, q1, q2, q3, -⟩ := (hE.2.1.2.2.2.2.2.1).kept hS.2.1
    rw [hx6]
    exact ⟨⟨cell, q1, q2, q3⟩, fun q => absurd rfl q⟩
theorem v_callI (hls : l.stackTraces = false) (hih : s_All l D tc ξ xs ρ f) (hm : mi < s_M) {ix : Nat} {info : List Nat} (hk : s_nth info 0 = 2) (hw : s_clk mi ix info = true) (hd : decode (s_by mi) pc = .ok (.invokespecial ix, 3)) (hn : npc = pc + 3) (hh : s_call f s_P mi pc npc lo st h iv c n k (s_nth info 1) (s_nth info 2) (s_nth info 3) = true) : s_Snd l D tc ξ xs ρ mi pc lo st h iv c n k := by
  have hclk := s_ck_2 hk hw
  rw [Bool.and_eq_true, Bool.and_eq_true, Bool.and_eq_true, Bool.and_eq_true] at hclk
  obtain ⟨c1, c2, c3, c4⟩ := hclk
  have g1 := s_pre_v c1
  rw [s_cp_2 hk] at g1
  rw [Nat.blt_eq, Nat.blt_eq] at c2
  obtain ⟨h0, c2⟩ := c2
  have c3 := of_decide_eq_true c3
  rw [Bool.and_eq_true, Bool.and_eq_true, Bool.and_eq_true, Bool.and_eq_true] at c4
  obtain ⟨d1, d2, d3, d4, d5⟩ := c4
  have d3 := of_decide_eq_true d3
  rw [Nat.blt_eq] at d2
  have hci : s_nth info 3 ≠ 0 := by have := Nat.eq_of_beq_eq_true d5; omega
  intro p e R s m args below meth cc A α α0 b0 H locs ls X hin hE hA hP hD hS hl hb0 hag
  have hx9 := s_call_x hh
  obtain ⟨ys, x, hys, ⟨b, hb⟩, hx3, hobj⟩ := s_inst (ρ := ρ) (ξ := ξ) (α := α) hx9.2.2.2.1 hci
  have hlen : ys.length + 1 = s_nth info 2 := by
    have := congrArg List.length hys
    rw [List.length_take, List.length_append, Nat.min_eq_left hx9.1] at this
    exact this.symm
  have hst : st.map (s_v ρ α ξ) = ((ys.reverse.map (s_v ρ α ξ)).reverse) ++ .ref b :: (st.drop (s_nth info 2)).map (s_v ρ α ξ) := by
    rw [s_stk (ρ := ρ) (ξ := ξ) α (s_nth info 2), hys, List.reverse_append, List.reverse_singleton, List.singleton_append, List.map_cons, hb, List.reverse_cons, List.append_assoc]
    rfl
  have has : ((st.take (s_nth info 2)).reverse).map (s_v ρ α ξ) = .ref b :: ys.reverse.map (s_v ρ α ξ) := by
    rw [hys, List.reverse_append, List.reverse_singleton, List.singleton_append, List.map_cons, hb]
  have hts := X.2.2.2.2.2.2.1
  have hfix : CallFix p m cc (s_by mi) (s_meta mi).1 s args s_U (s_own mi) := ⟨X.1, X.2.1, X.2.2.1, X.2.2.2.2.2.1, hts⟩
  refine s_call_W hls hih hm c2 h0 hh X hin hE hA hP hD hS hl hb0 hag hn (a := (Value.ref b :: ys.reverse.map (s_v ρ α ξ)).toArray) (fun {Qc XC} hM hPc hf hR hW => ?_)
  rw [has] at hPc
  exact vx_runI (S := hfix) (hM := hM) (As := ys.reverse.map (s_v ρ α ξ)) (cw := cwI (s_nth info 2 - 1) hts (s_good (pre := []) c2 h0 (fun _ q => absurd q List.not_mem_nil)) (by rw [s_ws_nil d4, d3.2]) rfl rfl (hts _ (g1 _ (by simp))) (hts _ (g1 _ (by simp))) (hts _ (g1 _ (by simp))) d3.1 ⟨c3.1, c3.2, (s_np_v d1)⟩ hR) (hp := ⟨s_Pc_blind, hPc⟩) (hg := rfl) (hn := by rw [List.length_map, List.length_reverse]; omega) (hsize := hl.1) (hstack := hst) (hW := hW) (hdg := hd) (hf := hf)
theorem v_callIN (hls : l.stackTraces = false) (hih : s_All l D tc ξ xs ρ f) (hm : mi < s_M) {ix : Nat} {info : List Nat} (hk : s_nth info 0 = 12) (hw : s_clk mi ix info = true) (hd : decode (s_by mi) pc = .ok (.invokespecial ix, 3)) (hn : npc = pc + 3) (hh : s_call f s_P mi pc npc lo st h iv c n k (s_nth info 1) (s_nth info 2) (s_nth info 3) = true) : s_Snd l D tc ξ xs ρ mi pc lo st h iv c n k := by
  have hclk := s_ck_12 hk hw
  rw [Bool.and_eq_true, Bool.and_eq_true, Bool.and_eq_true, Bool.and_eq_true] at hclk
  obtain ⟨c1, c2, c3, c4⟩ := hclk
  have g1 := s_pre_v c1
  rw [s_cp_12 hk] at g1
  rw [Nat.blt_eq, Nat.blt_eq] at c2
  obtain ⟨h0, c2⟩ := c2
  have c3 := of_decide_eq_true c3
  rw [Bool.and_eq_true, Bool.and_eq_true, Bool.and_eq_true, Bool.and_eq_true, Bool.and_eq_true] at c4
  obtain ⟨d1, d2, d3, ⟨d4, d5⟩, d6⟩ := c4
  have d3 := of_decide_eq_true d3
  rw [Nat.blt_eq] at d2
  have hci : s_nth info 3 ≠ 0 := by have := Nat.eq_of_beq_eq_true d5; omega
  intro p e R s m args below meth cc A α α0 b0 H locs ls X hin hE hA hP hD hS hl hb0 hag
  have hx9 := s_call_x hh
  obtain ⟨ys, x, hys, ⟨b, hb⟩, hx3, hobj⟩ := s_inst (ρ := ρ) (ξ := ξ) (α := α) hx9.2.2.2.1 hci
  have hlen : ys.length + 1 = s_nth info 2 := by
    have := congrArg List.length hys
    rw [List.length_take, List.length_append, Nat.min_eq_left hx9.1] at this
    exact this.symm
  have hst : st.map (s_v ρ α ξ) = ((ys.reverse.map (s_v ρ α ξ)).reverse) ++ .ref b :: (st.drop (s_nth info 2)).map (s_v ρ α ξ) := by
    rw [s_stk (ρ := ρ) (ξ := ξ) α (s_nth info 2), hys, List.reverse_append, List.reverse_singleton, List.singleton_append, List.map_cons, hb, List.reverse_cons, List.append_assoc]
    rfl
  have has : ((st.take (s_nth info 2)).reverse).map (s_v ρ α ξ) = .ref b :: ys.reverse.map (s_v ρ α ξ) := by
    rw [hys, List.reverse_append, List.reverse_singleton, List.singleton_append, List.map_cons, hb]
  have hts := X.2.2.2.2.2.2.1
  have hfix : CallFix p m cc (s_by mi) (s_meta mi).1 s args s_U (s_own mi) := ⟨X.1, X.2.1, X.2.2.1, X.2.2.2.2.2.1, hts⟩
  refine s_call_W hls hih hm c2 h0 hh X hin hE hA hP hD hS hl hb0 hag hn (a := (Value.ref b :: ys.reverse.map (s_v ρ α ξ)).toArray) (fun {Qc XC} hM hPc hf hR hW => ?_)
  rw [has] at hPc
  exact vx_runIN (S := hfix) (hM := hM) (As := ys.reverse.map (s_v ρ α ξ)) (cw := ⟨va_cnB (s_nth info 2 - 1) hts (s_good (pre := []) c2 h0 (fun _ q => absurd q List.not_mem_nil)) (by rw [s_ws_nil d4, d3.2]) rfl rfl (hE.1.2.1 _ (s_wat_v d6) rfl) (hts _ (g1 _ (by simp))) ⟨c3.1, c3.2, (s_np_v d1)⟩ hR, d3.1, hts _ (g1 _ (by simp))⟩) (hp := ⟨s_Pc_blind, hPc⟩) (hg := rfl) (hn := by rw [List.length_map, List.length_reverse]; omega) (hsize := hl.1) (hstack := hst) (hW := hW) (hdg := hd) (hf := hf)
theorem v_callV (hls : l.stackTraces = false) (hih : s_All l D tc ξ xs ρ f) (hm : mi < s_M) {ix : Nat} {info : List Nat} (hk : s_nth info 0 = 3) (hw : s_clk mi ix info = true) (hd : decode (s_by mi) pc = .ok (.invokevirtual ix, 3)) (hn : npc = pc + 3) (hh : s_call f s_P mi pc npc lo st h iv c n k (s_nth info 1) (s_nth info 2) (s_nth info 3) = true) : s_Snd l D tc ξ xs ρ mi pc lo st h iv c n k := by
  have hclk := s_ck_3 hk hw
  rw [Bool.and_eq_true, Bool.and_eq_true, Bool.and_eq_true, Bool.and_eq_true] at hclk
  obtain ⟨c1, c2, c3, c4⟩ := hclk
  have g1 := s_pre_v c1
  rw [s_cp_3 hk] at g1
  rw [Nat.blt_eq, Nat.blt_eq] at c2
  obtain ⟨h0, c2⟩ := c2
  have c3 := of_decide_eq_true c3
  rw [Bool.and_eq_true, Bool.and_eq_true, Bool.and_eq_true, Bool.and_eq_true] at c4
  obtain ⟨d1, d2, d3, d4, d5⟩ := c4
  have d3 := of_decide_eq_true d3
  rw [Nat.blt_eq] at d2
  have hci : s_nth info 3 ≠ 0 := by
    intro q
    rw [q] at d5
    cases d5
  have hc0 : s_nth info 3 ≠ 1000 := by
    intro q
    rw [q] at d5
    cases d5
  intro p e R s m args below meth cc A α α0 b0 H locs ls X hin hE hA hP hD hS hl hb0 hag
  have hx9 := s_call_x hh
  obtain ⟨ys, x, hys, ⟨b, hb⟩, hx3, hobj⟩ := s_inst (ρ := ρ) (ξ := ξ) (α := α) hx9.2.2.2.1 hci
  have hlen : ys.length + 1 = s_nth info 2 := by
    have := congrArg List.length hys
    rw [List.length_take, List.length_append, Nat.min_eq_left hx9.1] at this
    exact this.symm
  have hst : st.map (s_v ρ α ξ) = ((ys.reverse.map (s_v ρ α ξ)).reverse) ++ .ref b :: (st.drop (s_nth info 2)).map (s_v ρ α ξ) := by
    rw [s_stk (ρ := ρ) (ξ := ξ) α (s_nth info 2), hys, List.reverse_append, List.reverse_singleton, List.singleton_append, List.map_cons, hb, List.reverse_cons, List.append_assoc]
    rfl
  have has : ((st.take (s_nth info 2)).reverse).map (s_v ρ α ξ) = .ref b :: ys.reverse.map (s_v ρ α ξ) := by
    rw [hys, List.reverse_append, List.reverse_singleton, List.singleton_append, List.map_cons, hb]
  have hts := X.2.2.2.2.2.2.1
  have hfix : CallFix p m cc (s_by mi) (s_meta mi).1 s args s_U (s_own mi) := ⟨X.1, X.2.1, X.2.2.1, X.2.2.2.2.2.1, hts⟩
  obtain ⟨hcell, hat⟩ := s_recv hE hP hS hx9.2.2.2.1 hys hb hx3 hobj hci hc0
  refine s_call_W hls hih hm c2 h0 hh X hin hE hA hP hD hS hl hb0 hag hn (a := (Value.ref b :: ys.reverse.map (s_v ρ α ξ)).toArray) (fun {Qc XC} hM hPc hf hR hW => ?_)
  rw [has] at hPc
  exact vx_runV (S := hfix) (hM := hM) (As := ys.reverse.map (s_v ρ α ξ)) (cw := cwV (C := s_cln (s_nth info 3)) (s_nth info 2 - 1) hts (s_good (pre := [.methodLink (s_own mi) ix (s_y (s_nth info 1)), .instanceMethod (s_y (s_nth info 1)), .selects (s_cln (s_nth info 3)) (s_y (s_nth info 1)) (s_y (s_nth info 1)), .initialized (s_cln (s_nth info 3))]) c2 h0 g1) (by rw [s_ws_nil d4]) rfl rfl ⟨d3, c3.1, c3.2, (s_np_v d1)⟩ hR) (hp := ⟨s_Pc_blind, hcell, hPc⟩) (hg := rfl) (hn := by rw [List.length_map, List.length_reverse]; omega) (hsize := hl.1) (hstack := hst) (hW := hW) (hdg := hd) (hf := hf)
theorem v_callU (hls : l.stackTraces = false) (hih : s_All l D tc ξ xs ρ f) (hm : mi < s_M) {ix : Nat} {info : List Nat} (hk : s_nth info 0 = 6) (hw : s_clk mi ix info = true) (hd : decode (s_by mi) pc = .ok (.invokevirtual ix, 3)) (hn : npc = pc + 3) (hh : s_call f s_P mi pc npc lo st h iv c n k (s_nth info 1) (s_nth info 2) (s_nth info 3) = true) : s_Snd l D tc ξ xs ρ mi pc lo st h iv c n k := by
  have hclk := s_ck_6 hk hw
  rw [Bool.and_eq_true, Bool.and_eq_true, Bool.and_eq_true, Bool.and_eq_true] at hclk
  obtain ⟨c1, c2, c3, c4⟩ := hclk
  have g1 := s_pre_v c1
  rw [s_cp_6 hk] at g1
  rw [Nat.blt_eq, Nat.blt_eq] at c2
  obtain ⟨h0, c2⟩ := c2
  have c3 := of_decide_eq_true c3
  rw [Bool.and_eq_true, Bool.and_eq_true, Bool.and_eq_true] at c4
  obtain ⟨d1, d2, d4, d5⟩ := c4
  rw [Nat.blt_eq] at d2
  have hci : s_nth info 3 ≠ 0 := by
    intro q
    rw [q] at d5
    cases d5
  have hc0 : s_nth info 3 ≠ 1000 := by
    intro q
    rw [q] at d5
    cases d5
  intro p e R s m args below meth cc A α α0 b0 H locs ls X hin hE hA hP hD hS hl hb0 hag
  have hx9 := s_call_x hh
  obtain ⟨ys, x, hys, ⟨b, hb⟩, hx3, hobj⟩ := s_inst (ρ := ρ) (ξ := ξ) (α := α) hx9.2.2.2.1 hci
  have hlen : ys.length + 1 = s_nth info 2 := by
    have := congrArg List.length hys
    rw [List.length_take, List.length_append, Nat.min_eq_left hx9.1] at this
    exact this.symm
  have hst : st.map (s_v ρ α ξ) = ((ys.reverse.map (s_v ρ α ξ)).reverse) ++ .ref b :: (st.drop (s_nth info 2)).map (s_v ρ α ξ) := by
    rw [s_stk (ρ := ρ) (ξ := ξ) α (s_nth info 2), hys, List.reverse_append, List.reverse_singleton, List.singleton_append, List.map_cons, hb, List.reverse_cons, List.append_assoc]
    rfl
  have has : ((st.take (s_nth info 2)).reverse).map (s_v ρ α ξ) = .ref b :: ys.reverse.map (s_v ρ α ξ) := by
    rw [hys, List.reverse_append, List.reverse_singleton, List.singleton_append, List.map_cons, hb]
  have hts := X.2.2.2.2.2.2.1
  have hfix : CallFix p m cc (s_by mi) (s_meta mi).1 s args s_U (s_own mi) := ⟨X.1, X.2.1, X.2.2.1, X.2.2.2.2.2.1, hts⟩
  obtain ⟨hcell, hat⟩ := s_recv hE hP hS hx9.2.2.2.1 hys hb hx3 hobj hci hc0
  refine s_call_W hls hih hm c2 h0 hh X hin hE hA hP hD hS hl hb0 hag hn (a := (Value.ref b :: ys.reverse.map (s_v ρ α ξ)).toArray) (fun {Qc XC} hM hPc hf hR hW => ?_)
  rw [has] at hPc
  exact vx_runU (S := hfix) (hM := hM) (As := ys.reverse.map (s_v ρ α ξ)) (cw := va_cwU (C := s_cln (s_nth info 3)) (owner := (s_y (s_nth info 1)).cls) (x := s_y (s_nth info 1)) (s_nth info 2 - 1) hts (s_good (pre := [.methodLink (s_own mi) ix (s_y (s_nth info 1)), .sameMethod (s_y (s_nth info 1)).cls (s_y (s_nth info 1)).cls (s_y (s_nth info 1)).name (s_y (s_nth info 1)).desc, .selects (s_cln (s_nth info 3)) (s_y (s_nth info 1)) (s_y (s_nth info 1)), .instanceMethod (s_y (s_nth info 1)), .initialized (s_y (s_nth info 1)).cls]) c2 h0 g1) (by rw [s_ws_nil d4]) rfl rfl rfl ⟨c3.1, c3.2, (s_np_v d1)⟩ hR) (hp := ⟨s_Pc_blind, hcell, hPc⟩) (hg := rfl) (hn := by rw [List.length_map, List.length_reverse]; omega) (hsize := hl.1) (hstack := hst) (hW := hW) (hdg := hd) (hf := hf)
theorem v_callVN (hls : l.stackTraces = false) (hih : s_All l D tc ξ xs ρ f) (hm : mi < s_M) {ix : Nat} {info : List Nat} (hk : s_nth info 0 = 13) (hw : s_clk mi ix info = true) (hd : decode (s_by mi) pc = .ok (.invokevirtual ix, 3)) (hn : npc = pc + 3) (hh : s_call f s_P mi pc npc lo st h iv c n k (s_nth info 1) (s_nth info 2) (s_nth info 3) = true) : s_Snd l D tc ξ xs ρ mi pc lo st h iv c n k := by
  have hclk := s_ck_13 hk hw
  rw [Bool.and_eq_true, Bool.and_eq_true, Bool.and_eq_true, Bool.and_eq_true] at hclk
  obtain ⟨c1, c2, c3, c4⟩ := hclk
  have g1 := s_pre_v c1
  rw [s_cp_13 hk] at g1
  rw [Nat.blt_eq, Nat.blt_eq] at c2
  obtain ⟨h0, c2⟩ := c2
  have c3 := of_decide_eq_true c3
  rw [Bool.and_eq_true, Bool.and_eq_true, Bool.and_eq_true, Bool.and_eq_true] at c4
  obtain ⟨d1, d2, d4, d5, d6⟩ := c4
  rw [Nat.blt_eq] at d2
  have hci : s_nth info 3 ≠ 0 := by
    intro q
    rw [q] at d5
    cases d5
  have hc0 : s_nth info 3 ≠ 1000 := by
    intro q
    rw [q] at d5
    cases d5
  intro p e R s m args below meth cc A α α0 b0 H locs ls X hin hE hA hP hD hS hl hb0 hag
  have hx9 := s_call_x hh
  obtain ⟨ys, x, hys, ⟨b, hb⟩, hx3, hobj⟩ := s_inst (ρ := ρ) (ξ := ξ) (α := α) hx9.2.2.2.1 hci
  have hlen : ys.length + 1 = s_nth info 2 := by
    have := congrArg List.length hys
    rw [List.length_take, List.length_append, Nat.min_eq_left hx9.1] at this
    exact this.symm
  have hst : st.map (s_v ρ α ξ) = ((ys.reverse.map (s_v ρ α ξ)).reverse) ++ .ref b :: (st.drop (s_nth info 2)).map (s_v ρ α ξ) := by
    rw [s_stk (ρ := ρ) (ξ := ξ) α (s_nth info 2), hys, List.reverse_append, List.reverse_singleton, List.singleton_append, List.map_cons, hb, List.reverse_cons, List.append_assoc]
    rfl
  have has : ((st.take (s_nth info 2)).reverse).map (s_v ρ α ξ) = .ref b :: ys.reverse.map (s_v ρ α ξ) := by
    rw [hys, List.reverse_append, List.reverse_singleton, List.singleton_append, List.map_cons, hb]
  have hts := X.2.2.2.2.2.2.1
  have hfix : CallFix p m cc (s_by mi) (s_meta mi).1 s args s_U (s_own mi) := ⟨X.1, X.2.1, X.2.2.1, X.2.2.2.2.2.1, hts⟩
  obtain ⟨hcell, hat⟩ := s_recv hE hP hS hx9.2.2.2.1 hys hb hx3 hobj hci hc0
  refine s_call_W hls hih hm c2 h0 hh X hin hE hA hP hD hS hl hb0 hag hn (a := (Value.ref b :: ys.reverse.map (s_v ρ α ξ)).toArray) (fun {Qc XC} hM hPc hf hR hW => ?_)
  rw [has] at hPc
  exact vx_runVN (S := hfix) (hM := hM) (As := ys.reverse.map (s_v ρ α ξ)) (cw := ⟨va_cnB (s_nth info 2 - 1) hts (s_good (pre := []) c2 h0 (fun _ q => absurd q List.not_mem_nil)) (by rw [s_ws_nil d4]) rfl rfl (hE.1.2.1 _ (s_wat_v d6) rfl) (hts _ (g1 _ (by simp))) ⟨c3.1, c3.2, (s_np_v d1)⟩ hR, hts _ (g1 _ (by simp)), hts _ (g1 (.selects (s_cln (s_nth info 3)) (s_y (s_nth info 1)) (s_y (s_nth info 1))) (by simp))⟩) (hp := ⟨s_Pc_blind, hcell, hPc⟩) (hg := rfl) (hn := by rw [List.length_map, List.length_reverse]; omega) (hsize := hl.1) (hstack := hst) (hW := hW) (hdg := hd) (hf := hf)
theorem v_callSU (hls : l.stackTraces = false) (hih : s_All l D tc ξ xs ρ f) (hm : mi < s_M) {ix : Nat} {info : List Nat} (hk : s_nth info 0 = 5) (hw : s_clk mi ix info = true) (hd : decode (s_by mi) pc = .ok (.invokespecial ix, 3)) (hn : npc = pc + 3) (hh : s_call f s_P mi pc npc lo st h iv c n k (s_nth info 1) (s_nth info 2) (s_nth info 3) = true) : s_Snd l D tc ξ xs ρ mi pc lo st h iv c n k := by
  have hclk := s_ck_5 hk hw
  rw [Bool.and_eq_true, Bool.and_eq_true, Bool.and_eq_true, Bool.and_eq_true] at hclk
  obtain ⟨c1, c2, c3, c4⟩ := hclk
  have g1 := s_pre_v c1
  rw [s_cp_5 hk] at g1
  rw [Nat.blt_eq, Nat.blt_eq] at c2
  obtain ⟨h0, c2⟩ := c2
  have c3 := of_decide_eq_true c3
  rw [Bool.and_eq_true, Bool.and_eq_true, Bool.and_eq_true, Bool.and_eq_true] at c4
  obtain ⟨d1, d2, d3, d4, d5⟩ := c4
  have d3 := of_decide_eq_true d3
  rw [Nat.blt_eq] at d2
  rw [Bool.and_eq_true, Nat.blt_eq] at d5
  obtain ⟨d5, d6⟩ := d5
  have hci : s_nth info 3 ≠ 0 := by
    intro q
    rw [q] at d5
    cases d5
  have hc0 : s_nth info 3 ≠ 1000 := by
    intro q
    rw [q] at d5
    cases d5
  intro p e R s m args below meth cc A α α0 b0 H locs ls X hin hE hA hP hD hS hl hb0 hag
  have hx9 := s_call_x hh
  obtain ⟨ys, x, hys, ⟨b, hb⟩, hx3, hobj⟩ := s_inst (ρ := ρ) (ξ := ξ) (α := α) hx9.2.2.2.1 hci
  have hlen : ys.length + 1 = s_nth info 2 := by
    have := congrArg List.length hys
    rw [List.length_take, List.length_append, Nat.min_eq_left hx9.1] at this
    exact this.symm
  have hst : st.map (s_v ρ α ξ) = ((ys.reverse.map (s_v ρ α ξ)).reverse) ++ .ref b :: (st.drop (s_nth info 2)).map (s_v ρ α ξ) := by
    rw [s_stk (ρ := ρ) (ξ := ξ) α (s_nth info 2), hys, List.reverse_append, List.reverse_singleton, List.singleton_append, List.map_cons, hb, List.reverse_cons, List.append_assoc]
    rfl
  have has : ((st.take (s_nth info 2)).reverse).map (s_v ρ α ξ) = .ref b :: ys.reverse.map (s_v ρ α ξ) := by
    rw [hys, List.reverse_append, List.reverse_singleton, List.singleton_append, List.map_cons, hb]
  have hts := X.2.2.2.2.2.2.1
  have hfix : CallFix p m cc (s_by mi) (s_meta mi).1 s args s_U (s_own mi) := ⟨X.1, X.2.1, X.2.2.1, X.2.2.2.2.2.1, hts⟩
  obtain ⟨hcell, hat⟩ := s_recv hE hP hS hx9.2.2.2.1 hys hb hx3 hobj hci hc0
  refine s_call_W hls hih hm c2 h0 hh X hin hE hA hP hD hS hl hb0 hag hn (a := (Value.ref b :: ys.reverse.map (s_v ρ α ξ)).toArray) (fun {Qc XC} hM hPc hf hR hW => ?_)
  rw [has] at hPc
  obtain ⟨kC, hkC⟩ := hat (by omega)
  exact vx_runSU (C := s_cln (s_nth info 3)) hkC (S := hfix) (hM := hM) (As := ys.reverse.map (s_v ρ α ξ)) (cw := va_cwSU (s_nth info 2 - 1) hts (s_good (pre := [.methodLink (s_own mi) ix (s_y (s_nth info 1)), .sameMethod (s_y (s_nth info 1)).cls (s_y (s_nth info 1)).cls (s_y (s_nth info 1)).name (s_y (s_nth info 1)).desc, .superclass (s_own mi) (s_y (s_nth info 1)).cls, .instanceMethod (s_y (s_nth info 1)), .initialized (s_y (s_nth info 1)).cls]) c2 h0 g1) (by rw [s_ws_nil d4]) rfl rfl ⟨d3, (s_np_v d1)⟩ hR) (hp := ⟨s_Pc_blind, hcell, hPc⟩) (hg := rfl) (hn := by rw [List.length_map, List.length_reverse]; omega) (hsize := hl.1) (hstack := hst) (hW := hW) (hdg := hd) (hf := hf)
theorem v_callF (hls : l.stackTraces = false) (hih : s_All l D tc ξ xs ρ f) (hm : mi < s_M) {ix ct : Nat} {info : List Nat} (hk : s_nth info 0 = 4) (hw : s_clk mi ix info = true) (hd : decode (s_by mi) pc = .ok (.invokeinterface ix ct, 5)) (hn : npc = pc + 5) (hh : s_call f s_P mi pc npc lo st h iv c n k (s_nth info 1) (s_nth info 2) (s_nth info 3) = true) : s_Snd l D tc ξ xs ρ mi pc lo st h iv c n k := by
  have hclk := s_ck_4 hk hw
  rw [Bool.and_eq_true, Bool.and_eq_true, Bool.and_eq_true, Bool.and_eq_true] at hclk
  obtain ⟨c1, c2, c3, c4⟩ := hclk
  have g1 := s_pre_v c1
  rw [s_cp_4 hk] at g1
  rw [Nat.blt_eq, Nat.blt_eq] at c2
  obtain ⟨h0, c2⟩ := c2
  have c3 := of_decide_eq_true c3
  rw [Bool.and_eq_true, Bool.and_eq_true, Bool.and_eq_true] at c4
  obtain ⟨d3, d2, d4, d5⟩ := c4
  have d3 := of_decide_eq_true d3
  have d2 := Nat.eq_of_beq_eq_true d2
  have hci : s_nth info 3 ≠ 0 := by
    intro q
    rw [q] at d5
    cases d5
  have hc0 : s_nth info 3 ≠ 1000 := by
    intro q
    rw [q] at d5
    cases d5
  intro p e R s m args below meth cc A α α0 b0 H locs ls X hin hE hA hP hD hS hl hb0 hag
  have hx9 := s_call_x hh
  obtain ⟨ys, x, hys, ⟨b, hb⟩, hx3, hobj⟩ := s_inst (ρ := ρ) (ξ := ξ) (α := α) hx9.2.2.2.1 hci
  have hlen : ys.length + 1 = s_nth info 2 := by
    have := congrArg List.length hys
    rw [List.length_take, List.length_append, Nat.min_eq_left hx9.1] at this
    exact this.symm
  have hst : st.map (s_v ρ α ξ) = ((ys.reverse.map (s_v ρ α ξ)).reverse) ++ .ref b :: (st.drop (s_nth info 2)).map (s_v ρ α ξ) := by
    rw [s_stk (ρ := ρ) (ξ := ξ) α (s_nth info 2), hys, List.reverse_append, List.reverse_singleton, List.singleton_append, List.map_cons, hb, List.reverse_cons, List.append_assoc]
    rfl
  have has : ((st.take (s_nth info 2)).reverse).map (s_v ρ α ξ) = .ref b :: ys.reverse.map (s_v ρ α ξ) := by
    rw [hys, List.reverse_append, List.reverse_singleton, List.singleton_append, List.map_cons, hb]
  have hts := X.2.2.2.2.2.2.1
  have hfix : CallFix p m cc (s_by mi) (s_meta mi).1 s args s_U (s_own mi) := ⟨X.1, X.2.1, X.2.2.1, X.2.2.2.2.2.1, hts⟩
  obtain ⟨hcell, hat⟩ := s_recv hE hP hS hx9.2.2.2.1 hys hb hx3 hobj hci hc0
  refine s_call_W hls hih hm c2 h0 hh X hin hE hA hP hD hS hl hb0 hag hn (a := (Value.ref b :: ys.reverse.map (s_v ρ α ξ)).toArray) (fun {Qc XC} hM hPc hf hR hW => ?_)
  rw [has] at hPc
  rw [d3.2] at hcell
  rw [← d3.1] at g1
  have h1 : s_nth info 3 ≠ 1001 := by
    intro q
    have q9 := d3.2
    rw [q] at q9
    revert q9
    decide
  obtain ⟨kC, hkC⟩ := hat h1
  rw [d3.2] at hkC
  exact vx_runF hkC (S := hfix) (hM := hM) (As := ys.reverse.map (s_v ρ α ξ)) (cw := va_cwF (C := "java/util/ArrayList$Itr") (x := s_iX) 0 hts (s_good (pre := [.methodLink (s_own mi) ix s_iX, .selects "java/util/ArrayList$Itr" s_iX (s_y (s_nth info 1)), .instanceMethod (s_y (s_nth info 1)), .initialized (s_y (s_nth info 1)).cls]) c2 h0 g1) (by rw [s_ws_nil d4]) rfl rfl (by rw [d3.1]; exact hE.1.2.2.1) ⟨by decide, by decide, by decide +kernel⟩ hR) (hp := ⟨s_Pc_blind, hcell, hPc⟩) (hg := rfl) (hn := by rw [List.length_map, List.length_reverse]; omega) (hsize := hl.1) (hstack := hst) (hW := hW) (hdg := hd) (hf := hf)
theorem v_callS (hls : l.stackTraces = false) (hih : s_All l D tc ξ xs ρ f) (hm : mi < s_M) {ix : Nat} {info : List Nat} (hk : s_nth info 0 = 1) (hw : s_clk mi ix info = true) (hd : decode (s_by mi) pc = .ok (.invokestatic ix, 3)) (hn : npc = pc + 3) (hh : s_call f s_P mi pc npc lo st h iv c n k (s_nth info 1) (s_nth info 2) (s_nth info 3) = true) : s_Snd l D tc ξ xs ρ mi pc lo st h iv c n k := by
  have hclk := s_ck_1 hk hw
  rw [Bool.and_eq_true, Bool.and_eq_true, Bool.and_eq_true, Bool.and_eq_true] at hclk
  obtain ⟨c1, c2, c3, c4⟩ := hclk
  have g1 := s_pre_v c1
  rw [s_cp_1 hk] at g1
  rw [Nat.blt_eq, Nat.blt_eq] at c2
  obtain ⟨h0, c2⟩ := c2
  have c3 := of_decide_eq_true c3
  intro p e R s m args below meth cc A α α0 b0 H locs ls X hin hE hA hP hD hS hl hb0 hag
  have hx9 := s_call_x hh
  have hts := X.2.2.2.2.2.2.1
  have hfix : CallFix p m cc (s_by mi) (s_meta mi).1 s args s_U (s_own mi) := ⟨X.1, X.2.1, X.2.2.1, X.2.2.2.2.2.1, hts⟩
  have hgd := s_good (pre := [.methodLink (s_own mi) ix (s_y (s_nth info 1)), .static (s_y (s_nth info 1)), .initialized (s_y (s_nth info 1)).cls]) c2 h0 g1
  have hlen : (((st.take (s_nth info 2)).reverse).map (s_v ρ α ξ)).length = s_nth info 2 := by
    rw [List.length_map, List.length_reverse, List.length_take, Nat.min_eq_left hx9.1]
  refine s_call_W hls hih hm c2 h0 hh X hin hE hA hP hD hS hl hb0 hag hn (a := (((st.take (s_nth info 2)).reverse).map (s_v ρ α ξ)).toArray) (fun {Qc XC} hM hPc hf hR hW => ?_)
  cases hx : s_hx (s_nth info 1) with
  | nil =>
    have e9 : s_ws (s_nth info 1) = Cond.code (s_y (s_nth info 1)) (s_by (s_nth info 1)) (s_meta (s_nth info 1)).1 (s_rt (s_nth info 1)) :: s_U := s_ws_nil (by rw [hx]; rfl)
    exact vx_runS (S := hfix) (hM := hM) (As := ((st.take (s_nth info 2)).reverse).map (s_v ρ α ξ)) (cw := va_cwS (s_nth info 2) hts hgd e9 rfl rfl ⟨c3.1, c3.2, s_np_v c4⟩ hR) (hp := ⟨s_Pc_blind, hPc⟩) (hg := rfl) (hn := hlen) (hsize := hl.1) (hstack := s_stk α _) (hW := hW) (hdg := hd) (hf := hf)
  | cons a9 r9 =>
    have e9 : s_ws (s_nth info 1) = Cond.codeWith (s_y (s_nth info 1)) (s_by (s_nth info 1)) (s_meta (s_nth info 1)).1 (s_rt (s_nth info 1)) (a9 :: r9) :: s_U := by
      unfold s_ws s_cd
      rw [hx]
    exact vx_runSX (S := hfix) (hM := hM) (As := ((st.take (s_nth info 2)).reverse).map (s_v ρ α ξ)) (cw := vx_cwSW (s_nth info 2) hts hgd e9 rfl rfl ⟨c3.1, c3.2, s_np_v c4⟩ hR) (hp := ⟨s_Pc_blind, hPc⟩) (hg := rfl) (hn := hlen) (hsize := hl.1) (hstack := s_stk α _) (hW := hW) (hdg := hd) (hf := hf)
end S12
