section S7
variable {l : Launch} {D : va_G} {tc : Nat → ClassId} {ξ : Nat → Nat} {xs : Nat → Int32} {ρ : Nat → Int} {f : sF}
variable {mi pc npc : Nat} {lo : sL} {st : List sV} {h : List sE} {iv : sI} {c n : Nat} {k : sZ → Bool}
theorem s_nar_v (hin : s_in ρ iv) {α : Nat → Nat} (t : Nat) {v : sV} (h0 : s_tag 0 v = true) {a b : Int} (h1 : s_rg a b iv v = true) {ty : FieldType} (ht : (t = 1 ∧ ty = .boolean ∧ a = 0 ∧ b = 1) ∨ (t = 2 ∧ ty = .char ∧ a = 0 ∧ b = 65535) ∨ (t = 5 ∧ ty = .byte ∧ a = -128 ∧ b = 127) := by first | exact Or.inl ⟨rfl, rfl, rfl, rfl⟩ | exact Or.inr (Or.inl ⟨rfl, rfl, rfl, rfl⟩) | exact Or.inr (Or.inr ⟨rfl, rfl, rfl, rfl⟩)) : narrow ty (s_v ρ α ξ v) = s_v ρ α ξ v := by
  have q := s_rg_v hin h1
  rw [s_v0 h0]
  rcases ht with ⟨-, rfl, rfl, rfl⟩ | ⟨-, rfl, rfl, rfl⟩ | ⟨-, rfl, rfl, rfl⟩
  · rcases (show s_n ρ v = 0 ∨ s_n ρ v = 1 by omega) with e | e <;> rw [e] <;> decide
  · obtain ⟨m, hm1, hm2, hm3⟩ := s_nat q.1 (by omega)
    rw [hm3]
    exact (pk_charN (by omega)).1
  · rw [← s_i2b_v q.1 q.2]
    exact pk_nb _
theorem s_cA {s : State} {t : Nat} {cA : ClassId} (ht : t < 7) (hK : va_K D vwCl (s_tys tc) s) (hK2 : va_K D vwCl (s_tys tc ++ [(cA, s_ft t)]) s) : cA = tc t := by
  have h1 := (hK.2 t _ (s_tys_v ht)).2
  have h2 := (hK2.2 7 (cA, s_ft t) rfl).2
  rcases (show t = 0 ∨ t = 1 ∨ t = 2 ∨ t = 3 ∨ t = 4 ∨ t = 5 ∨ t = 6 by omega) with rfl | rfl | rfl | rfl | rfl | rfl | rfl
  · exact Option.some.inj (h2.symm.trans h1)
  · exact Option.some.inj (h2.symm.trans h1)
  · exact Option.some.inj (h2.symm.trans h1)
  · exact Option.some.inj (h2.symm.trans h1)
  · exact Option.some.inj (h2.symm.trans h1)
  · exact Option.some.inj (h2.symm.trans h1)
  · obtain ⟨-, -, -, -, -, a⟩ := h1
    obtain ⟨-, -, -, -, -, b⟩ := h2
    exact Option.some.inj (b.symm.trans a)
/-- behind a making: the new cell has its place -/
theorem s_new_go (hih : s_All l D tc ξ xs ρ f) (hm : mi < s_M) {rst : List sV} {e9 : sE} (hh : s_new f s_P mi npc lo rst h iv c n k e9 = true) {p : Program} {e : Env} {R : Room} {s : State} {m : MethodId} {args : Array Value} {below : List Frame} {meth : Method} {cc : Code} {A : Nat → Prop} {α α0 : Nat → Nat} {b0 : Nat} {H : Heap} {locs : List Loc} {ls : Array Slot}
    (X : s_Cx mi p l R s m args meth cc) (hin : s_in ρ iv) (hE : s_Env D tc ξ xs A s) (hA : ∀ q, s.heap.size ≤ q → A q) (hl : lv_has ls (s_meta mi).1 (s_ll ρ α ξ lo)) (hb0 : b0 ≤ h.length) (hag : s_ag α0 α b0) {q : Nat} (hP : va_P D vwCl (s_h tc ρ α ξ h ++ [(q, s_e tc ρ α ξ e9)]) H) (hD : va_D A (s_h tc ρ α ξ h ++ [(q, s_e tc ρ α ξ e9)])) (hS : va_S A s.heap H locs) :
    c + 1 ≤ R.cells ∧ n + e9.2.2.1 ≤ R.slots ∧ W p l e R s m args below meth cc H locs (c + 1) (n + e9.2.2.1) (vx_MQ below (s_Qc D tc ξ ρ k A α0 b0) (s_Xc D tc ξ ρ k A α0 b0) args s (s_meta mi).2.2.1 (s_meta mi).2.2.2.1 A) (F0 m npc ls (.ref q :: rst.map (s_v ρ α ξ))) := by
  unfold s_new at hh
  rw [Bool.and_eq_true, Bool.and_eq_true, Bool.and_eq_true, Bool.and_eq_true] at hh
  obtain ⟨h1, h2, h3, h4, h5⟩ := hh
  have h3 : c + 1 ≤ (s_meta mi).2.2.1 := Nat.le_of_ble_eq_true h3
  have h4 : n + e9.2.2.1 ≤ (s_meta mi).2.2.2.1 := Nat.le_of_ble_eq_true h4
  refine ⟨Nat.le_trans h3 X.2.2.2.2.2.2.2.2.2.2.2.1, Nat.le_trans h4 X.2.2.2.2.2.2.2.2.2.2.2.2.1, ?_⟩
  unfold s_ok at h1
  rw [Bool.and_eq_true, Bool.and_eq_true] at h1
  obtain ⟨o1, o2, o3⟩ := h1
  have ha : s_ag α (va_up α h.length q) h.length := fun j hj => va_up_ne α q (by omega)
  have e1 : s_h tc ρ (va_up α h.length q) ξ (h ++ [e9]) = s_h tc ρ α ξ h ++ [(q, s_e tc ρ α ξ e9)] := by
    rw [s_h_app, s_h_v ha o3, va_up_self, s_e_v ha h2]
  rw [← e1] at hP hD
  have e2 : Value.ref q :: rst.map (s_v ρ α ξ) = ((3, 0, h.length) :: rst).map (s_v ρ (va_up α h.length q) ξ) := by
    rw [List.map_cons, s_st_v ha o2]
    show _ = Value.ref (va_up α h.length q h.length) :: _
    rw [va_up_self]
  rw [e2]
  exact hih mi _ lo ((3, 0, h.length) :: rst) (h ++ [e9]) iv (c + 1) _ k hm h5 X hin hE hA hP hD hS (by rw [s_ll_v ha o1]; exact hl) (by rw [List.length_append]; omega) (fun j hj => by rw [va_up_ne α q (by omega)]; exact hag j hj)
theorem v_newobj (hih : s_All l D tc ξ xs ρ f) (hρ : s_ρ ρ xs) (hm : mi < s_M) {ix ci wi : Nat} {r9 : vw_C} (hr : vwCl[ci]? = some r9) (hc : ci ∈ s_cus) (w1 : Cond.classLink (s_own mi) ix r9.1 ∈ s_U) (w2 : Cond.instantiable r9.1 r9.2.2 ∈ s_U) (w3 : Cond.initialized r9.1 ∈ s_U) (hd : decode (s_by mi) pc = .ok (.new ix, 3)) (hn : npc = pc + 3) (hh : s_new f s_P mi npc lo st h iv c n k (0, ci, (s_dflt ci).length, s_dflt ci) = true) : s_Snd l D tc ξ xs ρ mi pc lo st h iv c n k := by
  intro p e R s m args below meth cc A α α0 b0 H locs ls X hin hE hA hP hD hS hl hb0 hag
  subst hn
  obtain ⟨ty, t1, t2, t3, t4⟩ := s_cls (ξ := ξ) (α := α) hρ.1 hr
  obtain ⟨C9, T9, N9⟩ := r9
  dsimp only at t1 t2 t3 t4 w1 w2 w3
  have key := fun {q : Nat} {H1 : Heap} hP hD hS => s_new_go (e := e) (below := below) (locs := locs) (ls := ls) (H := H1) (q := q) hih hm hh X hin hE hA hl hb0 hag hP hD hS
  unfold s_new at hh
  rw [Bool.and_eq_true, Bool.and_eq_true, Bool.and_eq_true, Bool.and_eq_true] at hh
  obtain ⟨-, -, h3, h4, -⟩ := hh
  have h3 : c + 1 ≤ (s_meta mi).2.2.1 := Nat.le_of_ble_eq_true h3
  have h4 : n + (s_dflt ci).length ≤ (s_meta mi).2.2.2.1 := Nat.le_of_ble_eq_true h4
  rw [t3] at h4
  have hts := X.2.2.2.2.2.2.1
  refine va_new (ci := ci) (fs := (s_dflt ci).map (fun q => s_v ρ α ξ q.2)) X.1 X.2.1 hts (s_cus_v hc hr) ty t1 X.2.2.2.2.2.1 (hts _ w1) (hts _ w2) (hts _ w3) hE.1.1 hP hD hS hA hr t4 (Nat.le_trans h3 X.2.2.2.2.2.2.2.2.2.2.2.1) (Nat.le_trans h4 X.2.2.2.2.2.2.2.2.2.2.2.2.1) hd (fun q H1 hP1 hD1 hS1 => ?_)
  have z := (key (q := q) (H1 := H1) hP1 hD1 hS1).2.2
  dsimp only at z
  rw [t3] at z
  exact z
theorem v_newa0 (hih : s_All l D tc ξ xs ρ f) (hρ : s_ρ ρ xs) (hm : mi < s_M) (w1 : Cond.arrayClass (Op.newarray.typeOf .int) ∈ s_U) (hd : decode (s_by mi) pc = .ok (.newarray .int, 2)) (hn : npc = pc + 2) (hh : s_nar f s_P mi npc lo st h iv c n k 0 = true) : s_Snd l D tc ξ xs ρ mi pc lo st h iv c n k := by
  intro p e R s m args below meth cc A α α0 b0 H locs ls X hin hE hA hP hD hS hl hb0 hag
  unfold s_nar at hh
  split at hh
  · next x r =>
    split at hh
    · next j hj =>
      obtain ⟨j1, j2, j3, j4⟩ := s_ix_v hin hj
      obtain ⟨k1, k2⟩ := s_ixI j3 j4
      subst hn
      have key := fun {q : Nat} {H1 : Heap} hP hD hS => s_new_go (e := e) (below := below) (locs := locs) (ls := ls) (H := H1) (q := q) hih hm hh X hin hE hA hl hb0 hag hP hD hS
      unfold s_new at hh
      rw [Bool.and_eq_true, Bool.and_eq_true, Bool.and_eq_true, Bool.and_eq_true] at hh
      obtain ⟨-, -, h3, h4, -⟩ := hh
      have h3 : c + 1 ≤ (s_meta mi).2.2.1 := Nat.le_of_ble_eq_true h3
      have h4 : n + j ≤ (s_meta mi).2.2.2.1 := Nat.le_of_ble_eq_true h4
      rw [List.map_cons, s_v0 j1, j2]
      refine va_newa (atype := .int) (ty := s_ft 0) (a0 := (j, .inl (fun i => s_i ρ (s_look [] i)))) X.1 X.2.1 (X.2.2.2.2.2.2.1 _ w1) rfl hE.1.1 hP hD hS hA (N' := j) ?_ (fun q => k1 (Or.inl q)) k2 (Nat.le_trans (Nat.mul_le_mul_left j (show componentBytes (s_ft 0) ≤ 8 by decide)) (by omega)) (Nat.le_trans h3 X.2.2.2.2.2.2.2.2.2.2.2.1) (Nat.le_trans h4 X.2.2.2.2.2.2.2.2.2.2.2.2.1) hd (fun q cA H1 hK1 hP1 hD1 hS1 => ?_)
      · intro cA
        show arrV cA j (fun i => Value.int (s_i ρ (s_look [] i))) = arrV cA j (fun _ => defaultValue (s_ft 0))
        congr 1
        funext i
        show Value.int (Int32.ofInt (ρ 0 + 0)) = Value.int 0
        exact (s_dI hρ.1).symm
      · have hcA : cA = tc 0 := s_cA (by omega) hE.1.1 hK1
        subst hcA
        exact (key (q := q) (H1 := H1) hP1 hD1 hS1).2.2
    · cases hh
  · cases hh
theorem v_newa1 (hih : s_All l D tc ξ xs ρ f) (hρ : s_ρ ρ xs) (hm : mi < s_M) (w1 : Cond.arrayClass (Op.newarray.typeOf .char) ∈ s_U) (hd : decode (s_by mi) pc = .ok (.newarray .char, 2)) (hn : npc = pc + 2) (hh : s_nar f s_P mi npc lo st h iv c n k 1 = true) : s_Snd l D tc ξ xs ρ mi pc lo st h iv c n k := by
  intro p e R s m args below meth cc A α α0 b0 H locs ls X hin hE hA hP hD hS hl hb0 hag
  unfold s_nar at hh
  split at hh
  · next x r =>
    split at hh
    · next j hj =>
      obtain ⟨j1, j2, j3, j4⟩ := s_ix_v hin hj
      obtain ⟨k1, k2⟩ := s_ixI j3 j4
      subst hn
      have key := fun {q : Nat} {H1 : Heap} hP hD hS => s_new_go (e := e) (below := below) (locs := locs) (ls := ls) (H := H1) (q := q) hih hm hh X hin hE hA hl hb0 hag hP hD hS
      unfold s_new at hh
      rw [Bool.and_eq_true, Bool.and_eq_true, Bool.and_eq_true, Bool.and_eq_true] at hh
      obtain ⟨-, -, h3, h4, -⟩ := hh
      have h3 : c + 1 ≤ (s_meta mi).2.2.1 := Nat.le_of_ble_eq_true h3
      have h4 : n + j ≤ (s_meta mi).2.2.2.1 := Nat.le_of_ble_eq_true h4
      rw [List.map_cons, s_v0 j1, j2]
      refine va_newa (atype := .char) (ty := s_ft 1) (a0 := (j, .inl (fun i => s_i ρ (s_look [] i)))) X.1 X.2.1 (X.2.2.2.2.2.2.1 _ w1) rfl hE.1.1 hP hD hS hA (N' := j) ?_ (fun q => k1 (Or.inl q)) k2 (Nat.le_trans (Nat.mul_le_mul_left j (show componentBytes (s_ft 1) ≤ 8 by decide)) (by omega)) (Nat.le_trans h3 X.2.2.2.2.2.2.2.2.2.2.2.1) (Nat.le_trans h4 X.2.2.2.2.2.2.2.2.2.2.2.2.1) hd (fun q cA H1 hK1 hP1 hD1 hS1 => ?_)
      · intro cA
        show arrV cA j (fun i => Value.int (s_i ρ (s_look [] i))) = arrV cA j (fun _ => defaultValue (s_ft 1))
        congr 1
        funext i
        show Value.int (Int32.ofInt (ρ 0 + 0)) = Value.int 0
        exact (s_dI hρ.1).symm
      · have hcA : cA = tc 1 := s_cA (by omega) hE.1.1 hK1
        subst hcA
        exact (key (q := q) (H1 := H1) hP1 hD1 hS1).2.2
    · cases hh
  · cases hh
theorem v_newa2 (hih : s_All l D tc ξ xs ρ f) (hρ : s_ρ ρ xs) (hm : mi < s_M) (w1 : Cond.arrayClass (Op.newarray.typeOf .byte) ∈ s_U) (hd : decode (s_by mi) pc = .ok (.newarray .byte, 2)) (hn : npc = pc + 2) (hh : s_nar f s_P mi npc lo st h iv c n k 2 = true) : s_Snd l D tc ξ xs ρ mi pc lo st h iv c n k := by
  intro p e R s m args below meth cc A α α0 b0 H locs ls X hin hE hA hP hD hS hl hb0 hag
  unfold s_nar at hh
  split at hh
  · next x r =>
    split at hh
    · next j hj =>
      obtain ⟨j1, j2, j3, j4⟩ := s_ix_v hin hj
      obtain ⟨k1, k2⟩ := s_ixI j3 j4
      subst hn
      have key := fun {q : Nat} {H1 : Heap} hP hD hS => s_new_go (e := e) (below := below) (locs := locs) (ls := ls) (H := H1) (q := q) hih hm hh X hin hE hA hl hb0 hag hP hD hS
      unfold s_new at hh
      rw [Bool.and_eq_true, Bool.and_eq_true, Bool.and_eq_true, Bool.and_eq_true] at hh
      obtain ⟨-, -, h3, h4, -⟩ := hh
      have h3 : c + 1 ≤ (s_meta mi).2.2.1 := Nat.le_of_ble_eq_true h3
      have h4 : n + j ≤ (s_meta mi).2.2.2.1 := Nat.le_of_ble_eq_true h4
      rw [List.map_cons, s_v0 j1, j2]
      refine va_newa (atype := .byte) (ty := s_ft 2) (a0 := (j, .inl (fun i => s_i ρ (s_look [] i)))) X.1 X.2.1 (X.2.2.2.2.2.2.1 _ w1) rfl hE.1.1 hP hD hS hA (N' := j) ?_ (fun q => k1 (Or.inl q)) k2 (Nat.le_trans (Nat.mul_le_mul_left j (show componentBytes (s_ft 2) ≤ 8 by decide)) (by omega)) (Nat.le_trans h3 X.2.2.2.2.2.2.2.2.2.2.2.1) (Nat.le_trans h4 X.2.2.2.2.2.2.2.2.2.2.2.2.1) hd (fun q cA H1 hK1 hP1 hD1 hS1 => ?_)
      · intro cA
        show arrV cA j (fun i => Value.int (s_i ρ (s_look [] i))) = arrV cA j (fun _ => defaultValue (s_ft 2))
        congr 1
        funext i
        show Value.int (Int32.ofInt (ρ 0 + 0)) = Value.int 0
        exact (s_dI hρ.1).symm
      · have hcA : cA = tc 2 := s_cA (by omega) hE.1.1 hK1
        subst hcA
        exact (key (q := q) (H1 := H1) hP1 hD1 hS1).2.2
    · cases hh
  · cases hh
theorem v_newa3 (hih : s_All l D tc ξ xs ρ f) (hρ : s_ρ ρ xs) (hm : mi < s_M) (w1 : Cond.arrayClass (Op.newarray.typeOf .boolean) ∈ s_U) (hd : decode (s_by mi) pc = .ok (.newarray .boolean, 2)) (hn : npc = pc + 2) (hh : s_nar f s_P mi npc lo st h iv c n k 3 = true) : s_Snd l D tc ξ xs ρ mi pc lo st h iv c n k := by
  intro p e R s m args below meth cc A α α0 b0 H locs ls X hin hE hA hP hD hS hl hb0 hag
  unfold s_nar at hh
  split at hh
  · next x r =>
    split at hh
    · next j hj =>
      obtain ⟨j1, j2, j3, j4⟩ := s_ix_v hin hj
      obtain ⟨k1, k2⟩ := s_ixI j3 j4
      subst hn
      have key := fun {q : Nat} {H1 : Heap} hP hD hS => s_new_go (e := e) (below := below) (locs := locs) (ls := ls) (H := H1) (q := q) hih hm hh X hin hE hA hl hb0 hag hP hD hS
      unfold s_new at hh
      rw [Bool.and_eq_true, Bool.and_eq_true, Bool.and_eq_true, Bool.and_eq_true] at hh
      obtain ⟨-, -, h3, h4, -⟩ := hh
      have h3 : c + 1 ≤ (s_meta mi).2.2.1 := Nat.le_of_ble_eq_true h3
      have h4 : n + j ≤ (s_meta mi).2.2.2.1 := Nat.le_of_ble_eq_true h4
      rw [List.map_cons, s_v0 j1, j2]
      refine va_newa (atype := .boolean) (ty := s_ft 3) (a0 := (j, .inl (fun i => s_i ρ (s_look [] i)))) X.1 X.2.1 (X.2.2.2.2.2.2.1 _ w1) rfl hE.1.1 hP hD hS hA (N' := j) ?_ (fun q => k1 (Or.inl q)) k2 (Nat.le_trans (Nat.mul_le_mul_left j (show componentBytes (s_ft 3) ≤ 8 by decide)) (by omega)) (Nat.le_trans h3 X.2.2.2.2.2.2.2.2.2.2.2.1) (Nat.le_trans h4 X.2.2.2.2.2.2.2.2.2.2.2.2.1) hd (fun q cA H1 hK1 hP1 hD1 hS1 => ?_)
      · intro cA
        show arrV cA j (fun i => Value.int (s_i ρ (s_look [] i))) = arrV cA j (fun _ => defaultValue (s_ft 3))
        congr 1
        funext i
        show Value.int (Int32.ofInt (ρ 0 + 0)) = Value.int 0
        exact (s_dI hρ.1).symm
      · have hcA : cA = tc 3 := s_cA (by omega) hE.1.1 hK1
        subst hcA
        exact (key (q := q) (H1 := H1) hP1 hD1 hS1).2.2
    · cases hh
  · cases hh
theorem v_newa4 (hih : s_All l D tc ξ xs ρ f) (hρ : s_ρ ρ xs) (hm : mi < s_M) (w1 : Cond.arrayClass (Op.newarray.typeOf .long) ∈ s_U) (hd : decode (s_by mi) pc = .ok (.newarray .long, 2)) (hn : npc = pc + 2) (hh : s_nar f s_P mi npc lo st h iv c n k 4 = true) : s_Snd l D tc ξ xs ρ mi pc lo st h iv c n k := by
  intro p e R s m args below meth cc A α α0 b0 H locs ls X hin hE hA hP hD hS hl hb0 hag
  unfold s_nar at hh
  split at hh
  · next x r =>
    split at hh
    · next j hj =>
      obtain ⟨j1, j2, j3, j4⟩ := s_ix_v hin hj
      obtain ⟨k1, k2⟩ := s_ixI j3 j4
      subst hn
      have key := fun {q : Nat} {H1 : Heap} hP hD hS => s_new_go (e := e) (below := below) (locs := locs) (ls := ls) (H := H1) (q := q) hih hm hh X hin hE hA hl hb0 hag hP hD hS
      unfold s_new at hh
      rw [Bool.and_eq_true, Bool.and_eq_true, Bool.and_eq_true, Bool.and_eq_true] at hh
      obtain ⟨-, -, h3, h4, -⟩ := hh
      have h3 : c + 1 ≤ (s_meta mi).2.2.1 := Nat.le_of_ble_eq_true h3
      have h4 : n + j ≤ (s_meta mi).2.2.2.1 := Nat.le_of_ble_eq_true h4
      rw [List.map_cons, s_v0 j1, j2]
      refine va_newa (atype := .long) (ty := s_ft 4) (a0 := (j, .inr (.inl (fun i => s_l ρ (s_look [] i))))) X.1 X.2.1 (X.2.2.2.2.2.2.1 _ w1) rfl hE.1.1 hP hD hS hA (N' := j) ?_ (fun q => k1 (Or.inl q)) k2 (Nat.le_trans (Nat.mul_le_mul_left j (show componentBytes (s_ft 4) ≤ 8 by decide)) (by omega)) (Nat.le_trans h3 X.2.2.2.2.2.2.2.2.2.2.2.1) (Nat.le_trans h4 X.2.2.2.2.2.2.2.2.2.2.2.2.1) hd (fun q cA H1 hK1 hP1 hD1 hS1 => ?_)
      · intro cA
        show arrV cA j (fun i => Value.long (s_l ρ (s_look [] i))) = arrV cA j (fun _ => defaultValue (s_ft 4))
        congr 1
        funext i
        show Value.long (Int64.ofInt (ρ 0 + 0)) = Value.long 0
        exact (s_dL hρ.1).symm
      · have hcA : cA = tc 4 := s_cA (by omega) hE.1.1 hK1
        subst hcA
        exact (key (q := q) (H1 := H1) hP1 hD1 hS1).2.2
    · cases hh
  · cases hh
theorem v_newa5 (hih : s_All l D tc ξ xs ρ f) (hρ : s_ρ ρ xs) (hm : mi < s_M) (w1 : Cond.arrayClass (Op.newarray.typeOf .double) ∈ s_U) (hd : decode (s_by mi) pc = .ok (.newarray .double, 2)) (hn : npc = pc + 2) (hh : s_nar f s_P mi npc lo st h iv c n k 5 = true) : s_Snd l D tc ξ xs ρ mi pc lo st h iv c n k := by
  intro p e R s m args below meth cc A α α0 b0 H locs ls X hin hE hA hP hD hS hl hb0 hag
  unfold s_nar at hh
  split at hh
  · next x r =>
    split at hh
    · next j hj =>
      obtain ⟨j1, j2, j3, j4⟩ := s_ix_v hin hj
      obtain ⟨k1, k2⟩ := s_ixI j3 j4
      subst hn
      have key := fun {q : Nat} {H1 : Heap} hP hD hS => s_new_go (e := e) (below := below) (locs := locs) (ls := ls) (H := H1) (q := q) hih hm hh X hin hE hA hl hb0 hag hP hD hS
      unfold s_new at hh
      rw [Bool.and_eq_true, Bool.and_eq_true, Bool.and_eq_true, Bool.and_eq_true] at hh
      obtain ⟨-, -, h3, h4, -⟩ := hh
      have h3 : c + 1 ≤ (s_meta mi).2.2.1 := Nat.le_of_ble_eq_true h3
      have h4 : n + j ≤ (s_meta mi).2.2.2.1 := Nat.le_of_ble_eq_true h4
      rw [List.map_cons, s_v0 j1, j2]
      refine va_newa (atype := .double) (ty := s_ft 5) (a0 := (j, .inr (.inr (.inr (.inl (fun _ => 0)))))) X.1 X.2.1 (X.2.2.2.2.2.2.1 _ w1) rfl hE.1.1 hP hD hS hA (N' := j) ?_ (fun q => k1 (Or.inl q)) k2 (Nat.le_trans (Nat.mul_le_mul_left j (show componentBytes (s_ft 5) ≤ 8 by decide)) (by omega)) (Nat.le_trans h3 X.2.2.2.2.2.2.2.2.2.2.2.1) (Nat.le_trans h4 X.2.2.2.2.2.2.2.2.2.2.2.2.1) hd (fun q cA H1 hK1 hP1 hD1 hS1 => ?_)
      · intro cA
        show arrV cA j (fun _ => Value.double 0) = arrV cA j (fun _ => defaultValue (s_ft 5))
        congr 1
        all_goals rfl
      · have hcA : cA = tc 5 := s_cA (by omega) hE.1.1 hK1
        subst hcA
        exact (key (q := q) (H1 := H1) hP1 hD1 hS1).2.2
    · cases hh
  · cases hh
theorem v_newq (hih : s_All l D tc ξ xs ρ f) (hρ : s_ρ ρ xs) (hm : mi < s_M) {ix : Nat} (w1 : Cond.classLink (s_own mi) ix "java/lang/Object" ∈ s_U) (hd : decode (s_by mi) pc = .ok (.anewarray ix, 3)) (hn : npc = pc + 3) (hh : s_nar f s_P mi npc lo st h iv c n k 6 = true) : s_Snd l D tc ξ xs ρ mi pc lo st h iv c n k := by
  intro p e R s m args below meth cc A α α0 b0 H locs ls X hin hE hA hP hD hS hl hb0 hag
  unfold s_nar at hh
  split at hh
  · next x r =>
    split at hh
    · next j hj =>
      obtain ⟨j1, j2, j3, j4⟩ := s_ix_v hin hj
      obtain ⟨k1, k2⟩ := s_ixI j3 j4
      subst hn
      have key := fun {q : Nat} {H1 : Heap} hP hD hS => s_new_go (e := e) (below := below) (locs := locs) (ls := ls) (H := H1) (q := q) hih hm hh X hin hE hA hl hb0 hag hP hD hS
      unfold s_new at hh
      rw [Bool.and_eq_true, Bool.and_eq_true, Bool.and_eq_true, Bool.and_eq_true] at hh
      obtain ⟨-, -, h3, h4, -⟩ := hh
      have h3 : c + 1 ≤ (s_meta mi).2.2.1 := Nat.le_of_ble_eq_true h3
      have h4 : n + j ≤ (s_meta mi).2.2.2.1 := Nat.le_of_ble_eq_true h4
      rw [List.map_cons, s_v0 j1, j2]
      refine va_newq X.1 X.2.1 X.2.2.2.2.2.1 (X.2.2.2.2.2.2.1 _ w1) hE.1.2.2.2.1 hE.1.1 hP hD hS hA (N' := j) (fun q => k1 (Or.inl q)) k2 (by omega) (Nat.le_trans h3 X.2.2.2.2.2.2.2.2.2.2.2.1) (Nat.le_trans h4 X.2.2.2.2.2.2.2.2.2.2.2.2.1) hd (fun q cA H1 hK1 hP1 hD1 hS1 => ?_)
      have hcA : cA = tc 6 := s_cA (t := 6) (by omega) hE.1.1 hK1
      subst hcA
      exact (key (q := q) (H1 := H1) hP1 hD1 hS1).2.2
    · cases hh
  · cases hh
theorem v_ini (hih : s_All l D tc ξ xs ρ f) (hρ : s_ρ ρ xs) (hm : mi < s_M) {ix : Nat} (w1 : Cond.methodLink (s_own mi) ix Lib.objectInit ∈ s_U) (w2 : Cond.instanceMethod Lib.objectInit ∈ s_U) (w3 : Cond.code Lib.objectInit ⟨#[0xb1]⟩ 1 none ∈ s_U) (hd : decode (s_by mi) pc = .ok (.invokespecial ix, 3)) (hn : npc = pc + 3) (hh : s_ini f s_P mi npc lo st h iv c n k = true) : s_Snd l D tc ξ xs ρ mi pc lo st h iv c n k := by
  intro p e R s m args below meth cc A α α0 b0 H locs ls X hin hE hA hP hD hS hl hb0 hag
  unfold s_ini at hh
  split at hh
  · next x r =>
    rw [Bool.and_eq_true, Bool.and_eq_true, Bool.and_eq_true] at hh
    obtain ⟨q1, q2, q3, q4⟩ := hh
    have q2 : 1 ≤ (s_meta mi).2.1 := Nat.le_of_ble_eq_true q2
    have q3 : s_words r + 12 ≤ (s_meta mi).2.2.2.2.1 := Nat.le_of_ble_eq_true q3
    subst hn
    have hts := X.2.2.2.2.2.2.1
    rw [List.map_cons, s_v3 (s_tag_iff.mp q1)]
    refine W.objInit X.1 X.2.1 X.2.2.2.2.2.1 (hts _ w1) (hts _ w2) (hts _ w3) rfl (by rw [X.2.2.1]; exact hl.1) rfl hd (Nat.le_trans q2 X.2.2.2.2.2.2.2.2.2.2.1) ?_ ?_
    · show 2 * 0 + _ + 12 ≤ _
      rw [s_words_v]
      have := X.2.2.2.2.2.2.2.2.2.2.2.2.2
      omega
    · refine W.eq (g2 := F0 m (pc + 3) ls (r.map (s_v ρ α ξ))) rfl ?_
      exact hih mi _ lo r h iv c n k hm q4 X hin hE hA hP hD hS hl hb0 hag
  · cases hh
theorem s_F_keep {A : Nat → Prop} {s t : State} {H : Heap} {locs : List Loc} (hS : va_S A s.heap H locs) (h1 : H.size ≤ t.heap.size) (h2 : ∀ q : Nat, q < H.size → t.heap[q]? = H[q]?) : va_F A s t :=
  ⟨Nat.le_trans hS.1 h1, fun q hq hn => by rw [h2 q (Nat.lt_of_lt_of_le hq hS.1)]; exact hS.2.1 q hq hn⟩
theorem s_P_keep {ws : va_W} {H H1 : Heap} (h : va_P D vwCl ws H) (h2 : ∀ q : Nat, q < H.size → H1[q]? = H[q]?) : va_P D vwCl ws H1 := h.kept fun k q hk => h2 _ (vx_lt h hk)
theorem s_fit6 {x : Nat} (hx : s_ate x = true) : Bundle.fit (s_exc x) = true ∧ ∀ n ∈ s_nms, Bundle.fit n = true := by
  refine ⟨?_, by decide +kernel⟩
  unfold s_ate at hx
  split at hx <;> first | decide +kernel | cases hx
theorem s_pr2_v : ∀ {ws : List Cond} {is : List Nat}, s_pr2 ws is = true → ∀ w ∈ ws, w ∈ s_tbl ∧ (goodWord w || s_nk w) = true ∧ vx_ot w = true
  | [], _, _, w, h => absurd h List.not_mem_nil
  | a :: r, [], h, _, _ => by cases h
  | a :: r, i :: is, h, w, hw => by
    unfold s_pr2 at h
    rw [Bool.and_eq_true, Bool.and_eq_true, Bool.and_eq_true] at h
    rcases List.mem_cons.mp hw with rfl | hw
    · exact ⟨s_wat_v h.1, h.2.1, h.2.2.1⟩
    · exact s_pr2_v h.2.2.2 w hw
theorem s_nk_use {s : State} {args : Array Value} {w : Cond} (hk : s_nk w = true) (h : va_Nw w s) : w.before args s = true := by
  cases w <;> first | exact va_Nw.use rfl h | exact absurd hk (by simp [s_nk])
theorem v_thr {ix : Nat} {info : List Nat} (hw : s_tlk mi ix pc info = true) (hd : decode (s_by mi) pc = .ok (.new ix, 3)) (hh : s_thr s_P mi st h iv c n k (s_nth info 1) = true) : s_Snd l D tc ξ xs ρ mi pc lo st h iv c n k := by
  intro p e R s m args below meth cc A α α0 b0 H locs ls X hin hE hA hP hD hS hl hb0 hag
  unfold s_tlk at hw
  rw [Bool.and_eq_true, Bool.and_eq_true, Bool.and_eq_true, Bool.and_eq_true, Bool.and_eq_true, Bool.and_eq_true, Bool.and_eq_true] at hw
  obtain ⟨w1, w2, w3, w4, w5, w6, w7, w8⟩ := hw
  have w2 := of_decide_eq_true w2
  have w3 := Nat.eq_of_beq_eq_true w3
  have w6 := of_decide_eq_true w6
  have w7 := of_decide_eq_true w7
  have w8 := of_decide_eq_true w8
  have g1 := s_pre_v w1
  have hts := X.2.2.2.2.2.2.1
  have h2 := s_ath_ok w4
  unfold s_ath at h2
  have h3 := s_pr2_v h2
  rw [← w3, ← w2] at h3
  unfold s_thr at hh
  rw [Bool.and_eq_true, Bool.and_eq_true, Bool.and_eq_true, Bool.and_eq_true] at hh
  obtain ⟨q1, q2, q3, q4, q5⟩ := hh
  have q1 : 6 ≤ (s_meta mi).2.1 := Nat.le_of_ble_eq_true q1
  have q2 : s_words st + 81 ≤ (s_meta mi).2.2.2.2.1 := Nat.le_of_ble_eq_true q2
  have q3 : c + 1 ≤ (s_meta mi).2.2.1 := Nat.le_of_ble_eq_true q3
  have q4 : n + 6 ≤ (s_meta mi).2.2.2.1 := Nat.le_of_ble_eq_true q4
  have hRf := X.2.2.2.2.2.2.2.2.2.2.1
  have hRc := X.2.2.2.2.2.2.2.2.2.2.2.1
  have hRs := X.2.2.2.2.2.2.2.2.2.2.2.2.1
  have hRl := X.2.2.2.2.2.2.2.2.2.2.2.2.2
  have hat : ∀ w ∈ vx_at0 (s_own mi) (s_nth info 3) (s_exc (s_nth info 1)) s_nms, w.before args s = true := fun w hw => by
    obtain ⟨a, b, -⟩ := h3 w hw
    rw [Bool.or_eq_true] at b
    rcases b with b | b
    · exact hts w (s_U_in a b)
    · exact s_nk_use b (hE.1.2.1 w a b)
  have ok1 := g1 (.classLink (s_own mi) ix (s_exc (s_nth info 1))) List.mem_cons_self
  have ok2 := g1 (.initialized (s_exc (s_nth info 1))) (List.mem_cons_of_mem _ List.mem_cons_self)
  have gd : ∀ w ∈ s_U, vx_ot w = true := fun w hw => by
    unfold vx_ot
    rw [(List.mem_filter.mp hw).2, Bool.or_true]
  refine vx_throw0 (cls := s_exc (s_nth info 1)) (names := s_nms) (A := A) X.1 X.2.1 X.2.2.2.2.2.2.2.2.2.1 X.2.2.2.2.2.1 (s_fit6 w4).1 (s_fit6 w4).2 (hts _ ok1) (hts _ ok2) hat ?_ hE.2.1.2.2.2.1 hE.2.1.2.2.2.2.1 hS (by rw [X.2.2.1]; exact hl.1) hd w6 w7 w8 ?_ (by show 2 + 3 < _; omega) ?_ (Nat.le_trans q3 hRc) (Nat.le_trans q4 hRs) X.2.2.2.2.1 ?_ hS.2.2 q3 q4
  · intro w hw
    rcases List.mem_cons.mp hw with rfl | hw
    · exact gd _ ok1
    · rcases List.mem_cons.mp hw with rfl | hw
      · exact gd _ ok2
      · exact (h3 w hw).2.2
  · intro z hz
    have : s_hx mi = [] := by
      unfold s_emp at w5
      split at w5
      · assumption
      · cases w5
    rw [X.2.2.2.2.2.2.2.1, this] at hz
    exact absurd hz (by simp [tableOf])
  · rw [s_words_v]
    show s_words st + (13 * (2 + 1) + 42) ≤ _
    omega
  · intro t ht1 ht2 ht3
    exact ⟨⟨_, α, s_nth info 1, q5, hin, hag, hb0, rfl, rfl, s_P_keep hP ht3, hD⟩, s_F_keep hS ht2 ht3⟩
theorem v_iret (hr : s_rt mi = some .int) (hd : decode (s_by mi) pc = .ok (.ireturn, 1)) (hh : s_ret s_P mi c n k st h iv (s_tag 0) = true) : s_Snd l D tc ξ xs ρ mi pc lo st h iv c n k := by
  intro p e R s m args below meth cc A α α0 b0 H locs ls X hin hE hA hP hD hS hl hb0 hag
  unfold s_ret at hh
  split at hh
  · next v =>
    rw [Bool.and_eq_true, Bool.and_eq_true] at hh
    obtain ⟨q1, q2, q3⟩ := hh
    unfold s_lim at q2
    rw [Bool.and_eq_true] at q2
    refine W.widen (k := (s_meta mi).2.2.1) (n := (s_meta mi).2.2.2.1) (Nat.le_of_ble_eq_true q2.1) (Nat.le_of_ble_eq_true q2.2) ?_
    refine vx_ret ?_
    have hq : ∀ t : State, t.heap = H → s.WarmedH t.vm → s_Qc D tc ξ ρ k A α0 b0 args s (.returned (some (s_v ρ α ξ v))) t := fun t ht hW => ⟨⟨_, α, q3, hin, hag, hb0, Or.inr ⟨rfl, rfl⟩, by rw [ht]; exact hP, hD⟩, hS.F ht⟩
    rw [List.map_cons, List.map_nil]
    rw [s_v0 q1] at hq ⊢
    exact W.iret X.1 X.2.1 (X.2.2.2.1.trans hr) hq hS.2.2 hd X.2.2.2.2.1
  · cases hh
theorem v_zret (hr : s_rt mi = some .boolean) (hd : decode (s_by mi) pc = .ok (.ireturn, 1)) (hh : s_ret s_P mi c n k st h iv (s_fit iv 1) = true) : s_Snd l D tc ξ xs ρ mi pc lo st h iv c n k := by
  intro p e R s m args below meth cc A α α0 b0 H locs ls X hin hE hA hP hD hS hl hb0 hag
  unfold s_ret at hh
  split at hh
  · next v =>
    rw [Bool.and_eq_true, Bool.and_eq_true] at hh
    obtain ⟨q1, q2, q3⟩ := hh
    unfold s_lim at q2
    rw [Bool.and_eq_true] at q2
    refine W.widen (k := (s_meta mi).2.2.1) (n := (s_meta mi).2.2.2.1) (Nat.le_of_ble_eq_true q2.1) (Nat.le_of_ble_eq_true q2.2) ?_
    refine vx_ret ?_
    have hq : ∀ t : State, t.heap = H → s.WarmedH t.vm → s_Qc D tc ξ ρ k A α0 b0 args s (.returned (some (s_v ρ α ξ v))) t := fun t ht hW => ⟨⟨_, α, q3, hin, hag, hb0, Or.inr ⟨rfl, rfl⟩, by rw [ht]; exact hP, hD⟩, hS.F ht⟩
    rw [List.map_cons, List.map_nil]
    have q1 : (s_tag 0 v && s_rg 0 1 iv v) = true := q1
    rw [Bool.and_eq_true] at q1
    have hn9 : narrow .boolean (s_v ρ α ξ v) = s_v ρ α ξ v := s_nar_v hin 1 q1.1 q1.2
    rw [s_v0 q1.1] at hq hn9 ⊢
    exact W.zret X.1 X.2.1 (X.2.2.2.1.trans hr) hn9 hq hS.2.2 hd X.2.2.2.2.1
  · cases hh
theorem v_cret (hr : s_rt mi = some .char) (hd : decode (s_by mi) pc = .ok (.ireturn, 1)) (hh : s_ret s_P mi c n k st h iv (s_fit iv 2) = true) : s_Snd l D tc ξ xs ρ mi pc lo st h iv c n k := by
  intro p e R s m args below meth cc A α α0 b0 H locs ls X hin hE hA hP hD hS hl hb0 hag
  unfold s_ret at hh
  split at hh
  · next v =>
    rw [Bool.and_eq_true, Bool.and_eq_true] at hh
    obtain ⟨q1, q2, q3⟩ := hh
    unfold s_lim at q2
    rw [Bool.and_eq_true] at q2
    refine W.widen (k := (s_meta mi).2.2.1) (n := (s_meta mi).2.2.2.1) (Nat.le_of_ble_eq_true q2.1) (Nat.le_of_ble_eq_true q2.2) ?_
    refine vx_ret ?_
    have hq : ∀ t : State, t.heap = H → s.WarmedH t.vm → s_Qc D tc ξ ρ k A α0 b0 args s (.returned (some (s_v ρ α ξ v))) t := fun t ht hW => ⟨⟨_, α, q3, hin, hag, hb0, Or.inr ⟨rfl, rfl⟩, by rw [ht]; exact hP, hD⟩, hS.F ht⟩
    rw [List.map_cons, List.map_nil]
    have q1 : (s_tag 0 v && s_rg 0 65535 iv v) = true := q1
    rw [Bool.and_eq_true] at q1
    have hn9 : narrow .char (s_v ρ α ξ v) = s_v ρ α ξ v := s_nar_v hin 2 q1.1 q1.2
    rw [s_v0 q1.1] at hq hn9 ⊢
    exact W.zret X.1 X.2.1 (X.2.2.2.1.trans hr) hn9 hq hS.2.2 hd X.2.2.2.2.1
  · cases hh
theorem v_bret (hr : s_rt mi = some .byte) (hd : decode (s_by mi) pc = .ok (.ireturn, 1)) (hh : s_ret s_P mi c n k st h iv (s_fit iv 5) = true) : s_Snd l D tc ξ xs ρ mi pc lo st h iv c n k := by
  intro p e R s m args below meth cc A α α0 b0 H locs ls X hin hE hA hP hD hS hl hb0 hag
  unfold s_ret at hh
  split at hh
  · next v =>
    rw [Bool.and_eq_true, Bool.and_eq_true] at hh
    obtain ⟨q1, q2, q3⟩ := hh
    unfold s_lim at q2
    rw [Bool.and_eq_true] at q2
    refine W.widen (k := (s_meta mi).2.2.1) (n := (s_meta mi).2.2.2.1) (Nat.le_of_ble_eq_true q2.1) (Nat.le_of_ble_eq_true q2.2) ?_
    refine vx_ret ?_
    have hq : ∀ t : State, t.heap = H → s.WarmedH t.vm → s_Qc D tc ξ ρ k A α0 b0 args s (.returned (some (s_v ρ α ξ v))) t := fun t ht hW => ⟨⟨_, α, q3, hin, hag, hb0, Or.inr ⟨rfl, rfl⟩, by rw [ht]; exact hP, hD⟩, hS.F ht⟩
    rw [List.map_cons, List.map_nil]
    have q1 : (s_tag 0 v && s_rg (-128) 127 iv v) = true := q1
    rw [Bool.and_eq_true] at q1
    have hn9 : narrow .byte (s_v ρ α ξ v) = s_v ρ α ξ v := s_nar_v hin 5 q1.1 q1.2
    rw [s_v0 q1.1] at hq hn9 ⊢
    exact W.zret X.1 X.2.1 (X.2.2.2.1.trans hr) hn9 hq hS.2.2 hd X.2.2.2.2.1
  · cases hh
theorem v_lret (hr : s_rt mi = some .long) (hd : decode (s_by mi) pc = .ok (.lreturn, 1)) (hh : s_ret s_P mi c n k st h iv (s_tag 1) = true) : s_Snd l D tc ξ xs ρ mi pc lo st h iv c n k := by
  intro p e R s m args below meth cc A α α0 b0 H locs ls X hin hE hA hP hD hS hl hb0 hag
  unfold s_ret at hh
  split at hh
  · next v =>
    rw [Bool.and_eq_true, Bool.and_eq_true] at hh
    obtain ⟨q1, q2, q3⟩ := hh
    unfold s_lim at q2
    rw [Bool.and_eq_true] at q2
    refine W.widen (k := (s_meta mi).2.2.1) (n := (s_meta mi).2.2.2.1) (Nat.le_of_ble_eq_true q2.1) (Nat.le_of_ble_eq_true q2.2) ?_
    refine vx_ret ?_
    have hq : ∀ t : State, t.heap = H → s.WarmedH t.vm → s_Qc D tc ξ ρ k A α0 b0 args s (.returned (some (s_v ρ α ξ v))) t := fun t ht hW => ⟨⟨_, α, q3, hin, hag, hb0, Or.inr ⟨rfl, rfl⟩, by rw [ht]; exact hP, hD⟩, hS.F ht⟩
    rw [List.map_cons, List.map_nil]
    rw [s_v1 q1] at hq ⊢
    exact W.lret X.1 X.2.1 (X.2.2.2.1.trans hr) hq hS.2.2 hd X.2.2.2.2.1
  · cases hh
theorem v_fret (hr : s_rt mi = some .float) (hd : decode (s_by mi) pc = .ok (.freturn, 1)) (hh : s_ret s_P mi c n k st h iv (s_tag 5) = true) : s_Snd l D tc ξ xs ρ mi pc lo st h iv c n k := by
  intro p e R s m args below meth cc A α α0 b0 H locs ls X hin hE hA hP hD hS hl hb0 hag
  unfold s_ret at hh
  split at hh
  · next v =>
    rw [Bool.and_eq_true, Bool.and_eq_true] at hh
    obtain ⟨q1, q2, q3⟩ := hh
    unfold s_lim at q2
    rw [Bool.and_eq_true] at q2
    refine W.widen (k := (s_meta mi).2.2.1) (n := (s_meta mi).2.2.2.1) (Nat.le_of_ble_eq_true q2.1) (Nat.le_of_ble_eq_true q2.2) ?_
    refine vx_ret ?_
    have hq : ∀ t : State, t.heap = H → s.WarmedH t.vm → s_Qc D tc ξ ρ k A α0 b0 args s (.returned (some (s_v ρ α ξ v))) t := fun t ht hW => ⟨⟨_, α, q3, hin, hag, hb0, Or.inr ⟨rfl, rfl⟩, by rw [ht]; exact hP, hD⟩, hS.F ht⟩
    rw [List.map_cons, List.map_nil]
    rw [s_v5 q1] at hq ⊢
    exact W.fret X.1 X.2.1 (X.2.2.2.1.trans hr) hq hS.2.2 hd X.2.2.2.2.1
  · cases hh
theorem v_dret (hr : s_rt mi = some .double) (hd : decode (s_by mi) pc = .ok (.dreturn, 1)) (hh : s_ret s_P mi c n k st h iv (s_tag 6) = true) : s_Snd l D tc ξ xs ρ mi pc lo st h iv c n k := by
  intro p e R s m args below meth cc A α α0 b0 H locs ls X hin hE hA hP hD hS hl hb0 hag
  unfold s_ret at hh
  split at hh
  · next v =>
    rw [Bool.and_eq_true, Bool.and_eq_true] at hh
    obtain ⟨q1, q2, q3⟩ := hh
    unfold s_lim at q2
    rw [Bool.and_eq_true] at q2
    refine W.widen (k := (s_meta mi).2.2.1) (n := (s_meta mi).2.2.2.1) (Nat.le_of_ble_eq_true q2.1) (Nat.le_of_ble_eq_true q2.2) ?_
    refine vx_ret ?_
    have hq : ∀ t : State, t.heap = H → s.WarmedH t.vm → s_Qc D tc ξ ρ k A α0 b0 args s (.returned (some (s_v ρ α ξ v))) t := fun t ht hW => ⟨⟨_, α, q3, hin, hag, hb0, Or.inr ⟨rfl, rfl⟩, by rw [ht]; exact hP, hD⟩, hS.F ht⟩
    rw [List.map_cons, List.map_nil]
    rw [s_v6 q1] at hq ⊢
    exact W.dret X.1 X.2.1 (X.2.2.2.1.trans hr) hq hS.2.2 hd X.2.2.2.2.1
  · cases hh
theorem v_aret (hr : s_isR (s_rt mi) = true) (hd : decode (s_by mi) pc = .ok (.areturn, 1)) (hh : s_ret s_P mi c n k st h iv (s_isA) = true) : s_Snd l D tc ξ xs ρ mi pc lo st h iv c n k := by
  intro p e R s m args below meth cc A α α0 b0 H locs ls X hin hE hA hP hD hS hl hb0 hag
  unfold s_ret at hh
  split at hh
  · next v =>
    rw [Bool.and_eq_true, Bool.and_eq_true] at hh
    obtain ⟨q1, q2, q3⟩ := hh
    unfold s_lim at q2
    rw [Bool.and_eq_true] at q2
    refine W.widen (k := (s_meta mi).2.2.1) (n := (s_meta mi).2.2.2.1) (Nat.le_of_ble_eq_true q2.1) (Nat.le_of_ble_eq_true q2.2) ?_
    refine vx_ret ?_
    have hq : ∀ t : State, t.heap = H → s.WarmedH t.vm → s_Qc D tc ξ ρ k A α0 b0 args s (.returned (some (s_v ρ α ξ v))) t := fun t ht hW => ⟨⟨_, α, q3, hin, hag, hb0, Or.inr ⟨rfl, rfl⟩, by rw [ht]; exact hP, hD⟩, hS.F ht⟩
    rw [List.map_cons, List.map_nil]
    obtain ⟨rt, h8, h9⟩ : ∃ rt, s_rt mi = some rt ∧ ((∃ n, rt = .object n) ∨ ∃ t, rt = .array t) := by
      unfold s_isR at hr
      split at hr
      · next z e9 => exact ⟨_, e9, Or.inl ⟨_, rfl⟩⟩
      · next z e9 => exact ⟨_, e9, Or.inr ⟨_, rfl⟩⟩
      · cases hr
    exact W.aret X.1 X.2.1 (X.2.2.2.1.trans h8) h9 (s_vA q1) hq hS.2.2 hd X.2.2.2.2.1
  · cases hh
theorem v_vret (hr : s_rt mi = none) (hd : decode (s_by mi) pc = .ok (.return_, 1)) (hh : (match st with | [] => s_lim s_P mi c n && k (0, (2, 0, 0), h, iv) | _ => false) = true) : s_Snd l D tc ξ xs ρ mi pc lo st h iv c n k := by
  intro p e R s m args below meth cc A α α0 b0 H locs ls X hin hE hA hP hD hS hl hb0 hag
  split at hh
  · rw [Bool.and_eq_true] at hh
    obtain ⟨q2, q3⟩ := hh
    unfold s_lim at q2
    rw [Bool.and_eq_true] at q2
    refine W.widen (k := (s_meta mi).2.2.1) (n := (s_meta mi).2.2.2.1) (Nat.le_of_ble_eq_true q2.1) (Nat.le_of_ble_eq_true q2.2) ?_
    refine vx_ret ?_
    exact W.vret X.1 X.2.1 (X.2.2.2.1.trans hr) (fun t ht hW => ⟨⟨_, α, q3, hin, hag, hb0, Or.inl ⟨rfl, rfl⟩, by rw [ht]; exact hP, hD⟩, hS.F ht⟩) hS.2.2 hd X.2.2.2.2.1
  · cases hh
end S7
