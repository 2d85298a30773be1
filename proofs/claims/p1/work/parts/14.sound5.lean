section S5
variable {l : Launch} {D : va_G} {tc : Nat → ClassId} {ξ : Nat → Nat} {xs : Nat → Int32} {ρ : Nat → Int} {f : sF}
variable {mi pc npc : Nat} {lo : sL} {st : List sV} {h : List sE} {iv : sI} {c n : Nat} {k : sZ → Bool}
theorem s_dI {ρ : Nat → Int} (h0 : ρ 0 = 0) : Value.int 0 = Value.int (Int32.ofInt (ρ 0 + 0)) := by rw [h0]; rfl
theorem s_dL {ρ : Nat → Int} (h0 : ρ 0 = 0) : Value.long 0 = Value.long (Int64.ofInt (ρ 0 + 0)) := by rw [h0]; rfl
theorem s_cls {α : Nat → Nat} (h0 : ρ 0 = 0) {ci : Nat} {r : vw_C} (hr : vwCl[ci]? = some r) : ∃ ty : Nat → FieldType, (∀ k, k < r.2.2 → parseFieldDescriptor (r.2.1 k).2.2.1 = some (ty k)) ∧ (∀ a, a < r.2.2 → ∀ b, b < r.2.2 → a ≠ b → (r.2.1 a).2.1 ≠ (r.2.1 b).2.1) ∧ (s_dflt ci).length = r.2.2 ∧ ∀ j, j < r.2.2 → defaultValue (ty j) = vp_V ((s_dflt ci).map (fun q => s_v ρ α ξ q.2)) j := by
  match ci, hr with
  | 0, hr => cases hr; exact ⟨tyJ0, tyJ0_ok, nmJ0, rfl, lt_s (lt_s (lt_s (lt_s (lt_0) (rfl)) (s_dI h0)) (s_dI h0)) (s_dI h0)⟩
  | 1, hr => cases hr; exact ⟨tyJ4, tyJ4_ok, nmJ4, rfl, lt_s (lt_s (lt_s (lt_s (lt_0) (rfl)) (s_dI h0)) (s_dI h0)) (s_dI h0)⟩
  | 2, hr => cases hr; exact ⟨tyJ6, tyJ6_ok, nmJ6, rfl, lt_s (lt_0) (s_dI h0)⟩
  | 3, hr => cases hr; exact ⟨tyJ11, tyJ11_ok, nmJ11, rfl, lt_s (lt_0) (s_dI h0)⟩
  | 4, hr => cases hr; exact ⟨tyJ13, tyJ13_ok, nmJ13, rfl, lt_s (lt_0) (s_dL h0)⟩
  | 5, hr => cases hr; exact ⟨tyJx00060, tyJx00060_ok, nmJx00060, rfl, lt_s (lt_s (lt_s (lt_s (lt_s (lt_s (lt_0) (rfl)) (rfl)) (rfl)) (rfl)) (s_dI h0)) (rfl)⟩
  | 6, hr => cases hr; exact ⟨tyJx7c733, tyJx7c733_ok, nmJx7c733, rfl, lt_s (lt_s (lt_s (lt_s (lt_s (lt_s (lt_0) (rfl)) (rfl)) (rfl)) (rfl)) (s_dI h0)) (rfl)⟩
  | 7, hr => cases hr; exact ⟨tyJx35411, tyJx35411_ok, nmJx35411, rfl, lt_s (lt_s (lt_s (lt_s (lt_0) (s_dI h0)) (s_dI h0)) (s_dI h0)) (rfl)⟩
  | 8, hr => cases hr; exact ⟨tyJx4a65c, tyJx4a65c_ok, nmJx4a65c, rfl, lt_s (lt_s (lt_s (lt_0) (s_dI h0)) (rfl)) (s_dI h0)⟩
  | 9, hr => cases hr; exact ⟨tyX0, tyX0_ok, nmX0, rfl, lt_s (lt_s (lt_s (lt_s (lt_s (lt_s (lt_s (lt_s (lt_s (lt_s (lt_s (lt_0) (s_dI h0)) (s_dI h0)) (s_dI h0)) (rfl)) (rfl)) (rfl)) (rfl)) (s_dI h0)) (s_dI h0)) (s_dI h0)) (s_dI h0)⟩
  | 10, hr => cases hr; exact ⟨tyX1, tyX1_ok, nmX1, rfl, lt_s (lt_s (lt_s (lt_s (lt_s (lt_s (lt_s (lt_s (lt_s (lt_s (lt_s (lt_0) (s_dI h0)) (rfl)) (s_dI h0)) (s_dI h0)) (s_dI h0)) (s_dI h0)) (s_dI h0)) (s_dI h0)) (s_dI h0)) (s_dI h0)) (s_dI h0)⟩
  | 11, hr => cases hr; exact ⟨tyX2, tyX2_ok, nmX2, rfl, lt_s (lt_0) (rfl)⟩
  | 12, hr => cases hr; exact ⟨tyX3, tyX3_ok, nmX3, rfl, lt_s (lt_s (lt_s (lt_0) (rfl)) (rfl)) (rfl)⟩
  | 13, hr => cases hr; exact ⟨tyX4, tyX4_ok, nmX4, rfl, lt_s (lt_s (lt_s (lt_s (lt_s (lt_s (lt_s (lt_s (lt_s (lt_0) (rfl)) (rfl)) (rfl)) (rfl)) (rfl)) (rfl)) (s_dI h0)) (s_dI h0)) (s_dI h0)⟩
  | 14, hr => cases hr; exact ⟨tyX5, tyX5_ok, nmX5, rfl, lt_s (lt_s (lt_s (lt_0) (rfl)) (rfl)) (s_dI h0)⟩
  | 15, hr => cases hr; exact ⟨tyX6, tyX6_ok, nmX6, rfl, lt_s (lt_s (lt_s (lt_s (lt_s (lt_s (lt_0) (rfl)) (rfl)) (rfl)) (rfl)) (s_dI h0)) (s_dI h0)⟩
  | 16, hr => cases hr; exact ⟨tyX7, tyX7_ok, nmX7, rfl, lt_s (lt_s (lt_s (lt_s (lt_s (lt_0) (s_dI h0)) (s_dI h0)) (s_dI h0)) (s_dI h0)) (s_dI h0)⟩
  | 17, hr => cases hr; exact ⟨tyX8, tyX8_ok, nmX8, rfl, lt_s (lt_s (lt_s (lt_s (lt_s (lt_s (lt_0) (rfl)) (rfl)) (rfl)) (s_dI h0)) (s_dI h0)) (s_dI h0)⟩
  | 18, hr => cases hr; exact ⟨tyX9, tyX9_ok, nmX9, rfl, lt_s (lt_s (lt_s (lt_s (lt_s (lt_s (lt_0) (s_dI h0)) (s_dI h0)) (s_dI h0)) (s_dI h0)) (s_dI h0)) (s_dI h0)⟩
  | 19, hr => cases hr; exact ⟨tyX10, tyX10_ok, nmX10, rfl, lt_s (lt_s (lt_s (lt_s (lt_s (lt_s (lt_s (lt_s (lt_s (lt_s (lt_s (lt_0) (rfl)) (rfl)) (rfl)) (rfl)) (rfl)) (rfl)) (s_dI h0)) (s_dI h0)) (s_dI h0)) (s_dI h0)) (s_dI h0)⟩
  | 20, hr => cases hr; exact ⟨tyX11, tyX11_ok, nmX11, rfl, lt_s (lt_s (lt_s (lt_s (lt_s (lt_s (lt_s (lt_s (lt_s (lt_s (lt_s (lt_s (lt_s (lt_s (lt_s (lt_s (lt_s (lt_s (lt_s (lt_s (lt_s (lt_s (lt_s (lt_s (lt_s (lt_s (lt_s (lt_0) (s_dI h0)) (s_dI h0)) (s_dI h0)) (s_dI h0)) (s_dI h0)) (s_dI h0)) (s_dI h0)) (s_dI h0)) (s_dI h0)) (rfl)) (rfl)) (rfl)) (s_dL h0)) (s_dL h0)) (s_dL h0)) (s_dI h0)) (s_dI h0)) (s_dI h0)) (s_dI h0)) (s_dI h0)) (rfl)) (rfl)) (rfl)) (rfl)) (s_dI h0)) (s_dI h0)) (s_dI h0)⟩
  | 21, hr => cases hr; exact ⟨tyX12, tyX12_ok, nmX12, rfl, lt_s (lt_0) (rfl)⟩
  | 22, hr => cases hr; exact ⟨tyX13, tyX13_ok, nmX13, rfl, lt_s (lt_s (lt_s (lt_s (lt_s (lt_s (lt_s (lt_s (lt_s (lt_0) (s_dI h0)) (rfl)) (rfl)) (rfl)) (s_dI h0)) (s_dI h0)) (s_dI h0)) (s_dI h0)) (s_dL h0)⟩
  | j + 23, hr => exact absurd hr (by simp [vwCl])
theorem s_cus_v {ci : Nat} (hc : ci ∈ s_cus) {r : vw_C} (hr : vwCl[ci]? = some r) : ∀ w ∈ u_ws r.1 r.2.1 r.2.2, w ∈ s_U := by
  have h := s_cus_ok hc
  unfold s_cok at h
  rw [hr] at h
  exact s_pre_v h
theorem s_obj_v {x : sV} {ci : Nat} {fs : List (Nat × sV)} (hh : s_obj h x ci = some fs) : x.1 = 3 ∧ ∃ z : Nat, h[x.2.2]? = some (0, ci, z, fs) := by
  obtain ⟨t, q, a⟩ := x
  unfold s_obj at hh
  dsimp only at hh ⊢
  split at hh
  · split at hh
    · next e he =>
      split at hh
      · next hb =>
        rw [Bool.and_eq_true] at hb
        have b1 := Nat.eq_of_beq_eq_true hb.1
        have b2 := Nat.eq_of_beq_eq_true hb.2
        obtain ⟨e1, e2, e3, e4⟩ := e
        dsimp only at b1 b2 hh
        subst b1; subst b2
        cases hh
        exact ⟨rfl, e3, he⟩
      · cases hh
    · cases hh
  · cases hh
theorem s_arr_v {x : sV} {kd : Nat} {e : sE} (hh : s_arr h x kd = some e) : x.1 = 3 ∧ h[x.2.2]? = some e ∧ e.1 = kd := by
  obtain ⟨t, q, a⟩ := x
  unfold s_arr at hh
  dsimp only at hh ⊢
  split at hh
  · split at hh
    · next e2 he =>
      split at hh
      · next hb =>
        cases hh
        exact ⟨rfl, he, Nat.eq_of_beq_eq_true hb⟩
      · cases hh
    · cases hh
  · cases hh
theorem s_ix_v (hin : s_in ρ iv) {x : sV} {b j : Nat} (hh : s_ix iv x b = some j) : s_tag 0 x = true ∧ s_n ρ x = (j : Int) ∧ j < b ∧ j < 1000000 := by
  unfold s_ix at hh
  split at hh
  · next e =>
    rw [Bool.and_eq_true] at e
    split at hh
    · next i hi =>
      split at hh
      · next hb =>
        rw [Bool.and_eq_true, Nat.blt_eq, Nat.blt_eq] at hb
        cases hh
        exact ⟨e.1, by rw [s_isk_v hin e.2]; exact hi, hb.1, hb.2⟩
      · cases hh
    · cases hh
  · cases hh
theorem s_ixI {j b : Nat} (h1 : j < b) (h2 : j < 1000000) : vp_in (Int32.ofInt (j : Int)) b ∧ (Int32.ofInt (j : Int)).toNatClampNeg = j := by
  have e : (Int32.ofInt (j : Int)) = nI j := rfl
  have e2 : (nI j).toNatClampNeg = j := nI_clamp (by omega)
  rw [e]
  refine ⟨fun q => ?_, e2⟩
  rcases q with q | q
  · exact nI_pos (by omega) q
  · omega
theorem s_any_v {ci : Nat} (h : s_cus.any (Nat.beq ci) = true) : ci ∈ s_cus := by
  obtain ⟨z, h1, h2⟩ := List.any_eq_true.mp h
  rw [Nat.eq_of_beq_eq_true h2]
  exact h1
theorem s_fl_v {mi ix ci k wi nest sf : Nat} (hh : s_fl mi ix ci k wi nest sf = true) {p : Program} {l : Launch} {R : Room} {s : State} {m : MethodId} {args : Array Value} {meth : Method} {cc : Code} {A : Nat → Prop} (X : s_Cx mi p l R s m args meth cc) (hE : s_Env D tc ξ xs A s) :
    ci ∈ s_cus ∧ ∃ r : vw_C, vwCl[ci]? = some r ∧ k < r.2.2 ∧ ∃ ref : String, (∀ x, s.fieldFound? (r.2.1 k).1 (r.2.1 k).2.1 (r.2.1 k).2.2.1 = some x → s.fieldFound? ref (r.2.1 k).2.1 (r.2.1 k).2.2.1 = some x) ∧
      ((nest = 0 ∧ (Cond.fieldLink (s_own mi) ix ref (r.2.1 k).2.1 (r.2.1 k).2.2.1).before args s = true) ∨ (nest ≠ 0 ∧ (Cond.fieldLinkNest (s_own mi) ix ref (r.2.1 k).2.1 (r.2.1 k).2.2.1 (s_host nest)).before args s = true)) := by
  have hts := X.2.2.2.2.2.2.1
  have hnw : ∀ w ∈ s_tbl, s_nk w = true → w.before args s = true := fun w hw hk => by
    cases w <;> first | exact va_Nw.use rfl (hE.1.2.1 _ hw hk) | exact absurd hk (by simp [s_nk])
  unfold s_fl at hh
  split at hh
  · next r hr =>
    rw [Bool.and_eq_true, Bool.and_eq_true, Nat.blt_eq] at hh
    refine ⟨s_any_v hh.2.1, r, hr, hh.1, ?_⟩
    have h2 := hh.2.2
    split at h2
    · split at h2
      · exact ⟨_, fun _ q => q, Or.inl ⟨rfl, hts _ (s_gat_v h2)⟩⟩
      · rw [Bool.and_eq_true] at h2
        exact ⟨_, fun x q => u_same (hts _ (s_gat_v h2.2)) x q, Or.inl ⟨rfl, hts _ (s_gat_v h2.1)⟩⟩
    · next hne =>
      split at h2
      · exact ⟨_, fun _ q => q, Or.inr ⟨hne, hnw _ (s_wat_v h2) rfl⟩⟩
      · rw [Bool.and_eq_true] at h2
        exact ⟨_, fun x q => u_same (hts _ (s_gat_v h2.2)) x q, Or.inr ⟨hne, hnw _ (s_wat_v h2.1) rfl⟩⟩
  · cases hh
theorem v_gf (hih : s_All l D tc ξ xs ρ f) (hρ : s_ρ ρ xs) (hm : mi < s_M) {ix : Nat} {info : List Nat} (hd : decode (s_by mi) pc = .ok (.getfield ix, 3)) (hn : npc = pc + 3) (h0 : s_nth info 4 = 0 → s_fl mi ix (s_nth info 0) (s_nth info 1) (s_nth info 2) (s_nth info 3) (s_nth info 5) = true) (h9 : s_nth info 4 ≠ 0 → s_xlk mi ix info = true) (hh : s_gf f mi npc lo st h iv c n k info = true) : s_Snd l D tc ξ xs ρ mi pc lo st h iv c n k := by
  intro p e R s m args below meth cc A α α0 b0 H locs ls X hin hE hA hP hD hS hl hb0 hag
  unfold s_gf at hh
  split at hh
  · next x r =>
    subst hn
    rw [List.map_cons]
    split at hh
    · next hx =>
      rw [Bool.and_eq_true] at hh
      obtain ⟨hz, hh⟩ := hh
      split at hh
      · next fs hfs =>
        split at hh
        · next v hv =>
          have a1 := h0 (Nat.eq_of_beq_eq_true hz)
          obtain ⟨-, z, hcell⟩ := s_obj_v hfs
          obtain ⟨a2, r9, hr, hk, ref, hsame, hlink⟩ := s_fl_v a1 X hE
          obtain ⟨C9, T9, N9⟩ := r9
          have hg := s_h_get (tc := tc) (ρ := ρ) (α := α) (ξ := ξ) hcell
          have hv2 : ((fs.map (fun q => s_v ρ α ξ q.2)))[s_nth info 1]? = some (s_v ρ α ξ v.2) := by
            rw [List.getElem?_map, hv]
            rfl
          rw [s_v3 hx]
          rcases hlink with ⟨-, hlink⟩ | ⟨-, hlink⟩
          · refine va_get (D := D) X.1 X.2.1 X.2.2.2.2.2.2.1 (s_cus_v a2 hr) X.2.2.2.2.2.1 hE.1.1 hP _ hg hr _ hk hlink hsame hv2 hd ?_
            exact hih mi _ lo (v.2 :: r) h iv c n k hm hh X hin hE hA hP hD hS hl hb0 hag
          · refine va_getN (D := D) X.1 X.2.1 X.2.2.2.2.2.2.1 (s_cus_v a2 hr) X.2.2.2.2.2.1 hE.1.1 hP _ hg hr _ hk hlink hsame hv2 hd ?_
            exact hih mi _ lo (v.2 :: r) h iv c n k hm hh X hin hE hA hP hD hS hl hb0 hag
        · cases hh
      · cases hh
    · next hx =>
      rw [Bool.and_eq_true] at hh
      obtain ⟨q1, q2⟩ := hh
      have q1 := Nat.eq_of_beq_eq_true q1
      rw [s_v4 hx, q1]
      have hx9 : s_nth info 4 ≠ 0 → s_xlk mi ix info = true := h9
      split at q2
      · next e =>
        have w := hx9 (by omega)
        unfold s_xlk at w
        rw [e] at w
        have w := X.2.2.2.2.2.2.1 _ (s_gat_v w)
        refine vk_getf X.1 X.2.1 hE.2.1.2.2.2.2.2.2.2.1 hS X.2.2.2.2.2.1 w (fun _ q => q) hd ?_
        exact hih mi _ lo ((4, 0, 3) :: r) h iv c n k hm q2 X hin hE hA hP hD hS hl hb0 hag
      · next e =>
        have w := hx9 (by omega)
        unfold s_xlk at w
        rw [e] at w
        have w := X.2.2.2.2.2.2.1 _ (s_gat_v w)
        refine vk_getf X.1 X.2.1 hE.2.1.2.2.2.2.2.2.1 hS X.2.2.2.2.2.1 w (fun _ q => q) hd ?_
        have e2 : Value.int 0 = s_v ρ α ξ (0, 0, 0) := s_dI hρ.1
        rw [e2]
        exact hih mi _ lo ((0, 0, 0) :: r) h iv c n k hm q2 X hin hE hA hP hD hS hl hb0 hag
      · cases q2
    · cases hh
  · cases hh
theorem s_fit_v (hin : s_in ρ iv) {α : Nat → Nat} {t : Nat} {v : sV} {d : String} (hf : s_fit iv t v = true) (hp : s_pty d t = true) : ∃ ty, parseFieldDescriptor d = some ty ∧ narrow ty (s_v ρ α ξ v) = s_v ρ α ξ v ∧ fits ty (s_v ρ α ξ v) = true := by
  unfold s_fit at hf
  split at hf
  · exact ⟨.int, of_decide_eq_true hp, by rw [s_v0 hf]; rfl, by rw [s_v0 hf]; rfl⟩
  · rw [Bool.and_eq_true] at hf
    have q := s_rg_v hin hf.2
    refine ⟨.boolean, of_decide_eq_true hp, ?_⟩
    rw [s_v0 hf.1]
    rcases (show s_n ρ v = 0 ∨ s_n ρ v = 1 by omega) with e | e <;> rw [e] <;> decide
  · rw [Bool.and_eq_true] at hf
    have q := s_rg_v hin hf.2
    refine ⟨.char, of_decide_eq_true hp, ?_⟩
    rw [s_v0 hf.1]
    obtain ⟨m, hm1, hm2, hm3⟩ := s_nat q.1 (by omega)
    rw [hm3]
    exact pk_charN (by omega)
  · exact ⟨.long, of_decide_eq_true hp, by rw [s_v1 hf]; rfl, by rw [s_v1 hf]; rfl⟩
  · have hp : (match parseFieldDescriptor d with | some (.object _) => true | some (.array _) => true | _ => false) = true := hp
    split at hp
    · next q e =>
      refine ⟨_, e, ?_⟩
      rcases s_vA (ρ := ρ) (α := α) (ξ := ξ) hf with z | ⟨a, z⟩ <;> rw [z] <;> exact ⟨rfl, rfl⟩
    · next q e =>
      refine ⟨_, e, ?_⟩
      rcases s_vA (ρ := ρ) (α := α) (ξ := ξ) hf with z | ⟨a, z⟩ <;> rw [z] <;> exact ⟨rfl, rfl⟩
    · cases hp
  · rw [Bool.and_eq_true] at hf
    have q := s_rg_v hin hf.2
    refine ⟨.byte, of_decide_eq_true hp, ?_⟩
    rw [s_v0 hf.1, ← s_i2b_v q.1 q.2]
    exact ⟨pk_nb _, pk_fb _⟩
  · cases hf
theorem v_pf (hih : s_All l D tc ξ xs ρ f) (hρ : s_ρ ρ xs) (hm : mi < s_M) {ix : Nat} {info : List Nat} (hd : decode (s_by mi) pc = .ok (.putfield ix, 3)) (hn : npc = pc + 3) (h0 : s_plk mi ix info = true) (hh : s_pf f mi npc lo st h iv c n k info = true) : s_Snd l D tc ξ xs ρ mi pc lo st h iv c n k := by
  intro p e R s m args below meth cc A α α0 b0 H locs ls X hin hE hA hP hD hS hl hb0 hag
  unfold s_pf at hh
  split at hh
  · next v x r =>
    split at hh
    · next fs hfs =>
      rw [Bool.and_eq_true, Bool.and_eq_true, Nat.blt_eq] at hh
      obtain ⟨b1, b2, b3⟩ := hh
      subst hn
      obtain ⟨hx, z, hcell⟩ := s_obj_v hfs
      unfold s_plk at h0
      rw [Bool.and_eq_true] at h0
      obtain ⟨a1, a2⟩ := h0
      obtain ⟨h1, r9, hr, hk, ref, hsame, hlink⟩ := s_fl_v a1 X hE
      rw [hr] at a2
      dsimp only at a2
      rw [Bool.and_eq_true] at a2
      obtain ⟨C9, T9, N9⟩ := r9
      dsimp only at hk hsame hlink a2
      have hg := s_h_get (tc := tc) (ρ := ρ) (α := α) (ξ := ξ) hcell
      obtain ⟨ty, t1, t2, t3⟩ := s_fit_v (ξ := ξ) (α := α) hin b2 a2.1
      obtain ⟨ty0, u1, u2, -, -⟩ := s_cls (ξ := ξ) (α := α) hρ.1 hr
      rw [List.map_cons, List.map_cons, s_v3 hx]
      have hset : (s_h tc ρ α ξ h).set x.2.2 (α x.2.2, .inr (s_nth info 0, (fs.map (fun q => s_v ρ α ξ q.2)).set (s_nth info 1) (s_v ρ α ξ v))) = s_h tc ρ α ξ (h.set x.2.2 (0, s_nth info 0, fs.length, fs.set (s_nth info 1) (0, v))) := by
        rw [← s_h_set]
        show _ = (s_h tc ρ α ξ h).set x.2.2 (α x.2.2, .inr (s_nth info 0, (fs.set (s_nth info 1) (0, v)).map (fun q => s_v ρ α ξ q.2)))
        rw [List.map_set]
      have hb0' : b0 ≤ (h.set x.2.2 (0, s_nth info 0, fs.length, fs.set (s_nth info 1) (0, v))).length := by rw [List.length_set]; exact hb0
      cases hfin : (T9 (s_nth info 1)).2.2.2 with
      | true =>
        have a3 := a2.2
        rw [hfin] at a3
        dsimp only at a3
        rw [Bool.and_eq_true] at a3
        obtain ⟨c1, c2⟩ := of_decide_eq_true a3.1
        rcases hlink with ⟨-, hlink⟩ | ⟨hne, -⟩
        · refine va_putF (D := D) X.1 X.2.1 X.2.2.2.2.2.2.1 (s_cus_v h1 hr) ty0 u1 u2 X.2.2.2.2.2.1 hE.1.1 hP hD hS _ hg hr _ hk hlink hsame hfin (by rw [X.2.2.2.2.2.2.2.2.1]; exact c1) c2 t1 t2 t3 (by rw [List.length_map]; exact b1) hd (fun H1 locs1 hP1 hD1 hS1 => ?_)
          rw [hset] at hP1 hD1
          exact hih mi _ lo r _ iv c n k hm b3 X hin hE hA hP1 hD1 hS1 hl hb0' hag
        · exact absurd (Nat.eq_of_beq_eq_true a3.2) hne
      | false =>
        rcases hlink with ⟨-, hlink⟩ | ⟨-, hlink⟩
        · refine va_put (D := D) X.1 X.2.1 X.2.2.2.2.2.2.1 (s_cus_v h1 hr) ty0 u1 u2 X.2.2.2.2.2.1 hE.1.1 hP hD hS _ hg hr _ hk hlink hsame hfin t1 t2 t3 (by rw [List.length_map]; exact b1) hd (fun H1 locs1 hP1 hD1 hS1 => ?_)
          rw [hset] at hP1 hD1
          exact hih mi _ lo r _ iv c n k hm b3 X hin hE hA hP1 hD1 hS1 hl hb0' hag
        · refine va_putN (D := D) X.1 X.2.1 X.2.2.2.2.2.2.1 (s_cus_v h1 hr) ty0 u1 u2 X.2.2.2.2.2.1 hE.1.1 hP hD hS _ hg hr _ hk hlink hsame hfin t1 t2 t3 (by rw [List.length_map]; exact b1) hd (fun H1 locs1 hP1 hD1 hS1 => ?_)
          rw [hset] at hP1 hD1
          exact hih mi _ lo r _ iv c n k hm b3 X hin hE hA hP1 hD1 hS1 hl hb0' hag
    · cases hh
  · cases hh
end S5
