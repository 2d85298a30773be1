section S11
variable {l : Launch} {D : va_G} {tc : Nat → ClassId} {ξ : Nat → Nat} {xs : Nat → Int32} {ρ : Nat → Int} {f : sF}
variable {mi pc npc : Nat} {lo : sL} {st : List sV} {h : List sE} {iv : sI} {c n : Nat} {k : sZ → Bool}
theorem s_call_x {y na ci : Nat} (hh : s_call f s_P mi pc npc lo st h iv c n k y na ci = true) :
    na ≤ st.length ∧ (lo.all (fun q => s_okV h.length q.2) = true ∧ st.all (s_okV h.length) = true) ∧ s_words (st.drop na) ≤ 8 ∧ s_rcv h (st.take na) ci = true ∧ s_words (st.take na) ≤ (s_meta y).1 ∧ (s_meta y).2.1 + 1 ≤ (s_meta mi).2.1 ∧ 8 + ((s_meta y).1 + 11) + (s_meta y).2.2.2.2.1 ≤ (s_meta mi).2.2.2.2.1 ∧
    c + (s_meta y).2.2.1 ≤ (s_meta mi).2.2.1 ∧ n + (s_meta y).2.2.2.1 ≤ (s_meta mi).2.2.2.1 ∧ f y 0 (s_args 0 (st.take na).reverse) [] h iv 0 0 (s_back f s_P mi pc npc lo (st.drop na) (c + (s_meta y).2.2.1) (n + (s_meta y).2.2.2.1) k) = true := by
  unfold s_call at hh
  simp only [Bool.and_eq_true] at hh
  obtain ⟨a1, a2, a3, a4, a5, a6, a7, a8, a9, a10⟩ := hh
  unfold s_ok at a2
  simp only [Bool.and_eq_true] at a2
  exact ⟨Nat.le_of_ble_eq_true a1, ⟨a2.1, a2.2.1⟩, Nat.le_of_ble_eq_true a3, a4, Nat.le_of_ble_eq_true a5, Nat.le_of_ble_eq_true a6, Nat.le_of_ble_eq_true a7, Nat.le_of_ble_eq_true a8, Nat.le_of_ble_eq_true a9, a10⟩
theorem s_stk (α : Nat → Nat) (na : Nat) : st.map (s_v ρ α ξ) = (((st.take na).reverse).map (s_v ρ α ξ)).reverse ++ (st.drop na).map (s_v ρ α ξ) := by
  rw [← List.map_reverse, List.reverse_reverse, ← List.map_append, List.take_append_drop]
theorem s_cd_in {y : Nat} (hy : y < s_M) (h0 : 0 < y) : s_cd y ∈ s_U := by
  have hok := s_mok_ok hy h0
  unfold s_mok at hok
  rw [Bool.and_eq_true, Bool.and_eq_true] at hok
  exact s_U_in (s_wat_v hok.1) hok.2.1
theorem s_good {y : Nat} (hy : y < s_M) (h0 : 0 < y) {pre : List Cond} (hp : ∀ w ∈ pre, w ∈ s_U) : GoodIn s_U (pre ++ s_ws y) := by
  intro w hw
  have hm : w ∈ s_U := by
    rcases List.mem_append.mp hw with q | q
    · exact hp w q
    · rcases List.mem_cons.mp q with rfl | q
      · exact s_cd_in hy h0
      · exact q
  exact ⟨hm, good_of_word (List.mem_filter.mp hm).2⟩
theorem s_ws_nil {y : Nat} (hx : s_emp (s_hx y) = true) : s_ws y = Cond.code (s_y y) (s_by y) (s_meta y).1 (s_rt y) :: s_U := by
  unfold s_ws s_cd
  cases hq : s_hx y with
  | nil => rfl
  | cons a r => rw [hq] at hx; cases hx
/-- a call, given that it runs by its contract -/
theorem s_call_W (hls : l.stackTraces = false) (hih : s_All l D tc ξ xs ρ f) (hm : mi < s_M) {y na ci : Nat} (hy : y < s_M) (h0 : 0 < y) (hh : s_call f s_P mi pc npc lo st h iv c n k y na ci = true)
    {p : Program} {e : Env} {R : Room} {s : State} {m : MethodId} {args : Array Value} {below : List Frame} {meth : Method} {cc : Code} {A : Nat → Prop} {α α0 : Nat → Nat} {b0 : Nat} {H : Heap} {locs : List Loc} {ls : Array Slot}
    (X : s_Cx mi p l R s m args meth cc) (hin : s_in ρ iv) (hE : s_Env D tc ξ xs A s) (hA : ∀ q, s.heap.size ≤ q → A q) (hP : va_P D vwCl (s_h tc ρ α ξ h) H) (hD : va_D A (s_h tc ρ α ξ h)) (hS : va_S A s.heap H locs) (hl : lv_has ls (s_meta mi).1 (s_ll ρ α ξ lo)) (hb0 : b0 ≤ h.length) (hag : s_ag α0 α b0)
    {ln : Nat} (hnpc : npc = pc + ln) {a : Array Value}
    (hr : ∀ {Qc : Array Value → State → Outcome → State → Prop} {XC : String → State → State → Prop}, vx_Met l (s_y y) (s_ws y) (s_rm y) (s_Pc D tc ξ xs ρ α h (st.take na).reverse H.size) Qc XC (s_meta y).2.2.1 (s_meta y).2.2.2.1 (va_A (s_h tc ρ α ξ h) H.size) → (∀ U : State, U.heap = H → s.WarmedH U.vm → s_Pc D tc ξ xs ρ α h (st.take na).reverse H.size (((st.take na).reverse).map (s_v ρ α ξ)).toArray U) → c + (s_meta y).2.2.1 ≤ R.cells ∧ n + (s_meta y).2.2.2.1 ≤ R.slots → (s_meta y).2.1 + 1 ≤ R.frames ∧ 8 + ((s_meta y).1 + 11) + (s_meta y).2.2.2.2.1 ≤ R.locals → 2 * (F0 m pc ls (st.map (s_v ρ α ξ))).monitorRoom + (((st.drop na).map (s_v ρ α ξ)).map fun v => v.category).sum ≤ 8 →
      ∀ T : State, T.heap = H → Stand p l e R s m args below meth cc T locs c n →
        (∃ (v : Option Value) (st₀ t T' : State) (L : List Loc), st₀.heap = H ∧ Stand p l e R s m args below meth cc T' (locs ++ L) (c + (s_meta y).2.2.1) (n + (s_meta y).2.2.2.1) ∧ (∀ q ∈ L, va_A (s_h tc ρ α ξ h) H.size q.base) ∧ T'.heap = t.heap ∧ T'.vm = t.vm ∧ Qc a st₀ (.returned v) t ∧
          Goes p e below T (F0 m pc ls (st.map (s_v ρ α ξ))) T' { F0 m pc ls (st.map (s_v ρ α ξ)) with pc := (F0 m pc ls (st.map (s_v ρ α ξ))).pc + ln, stack := v.toList ++ (st.drop na).map (s_v ρ α ξ) }) ∨
        (∃ (q : Addr) (st₀ t T' : State) (L : List Loc) (E : String) (ce : Cell), st₀.heap = H ∧ Stand p l e R s m args below meth cc T' (locs ++ L) (c + (s_meta y).2.2.1) (n + (s_meta y).2.2.2.1) ∧ (∀ z ∈ L, va_A (s_h tc ρ α ξ h) H.size z.base) ∧ T'.heap = t.heap ∧ T'.vm = t.vm ∧ XC E st₀ t ∧ t.heap[q]? = some ce ∧ ce.vm = .none ∧ s.vm.findClass E = some ce.cls ∧
          Steps p.tables e below (T.setTop (F0 m pc ls (st.map (s_v ρ α ξ)))) ((T'.setTop { F0 m pc ls (st.map (s_v ρ α ξ)) with stack := (st.drop na).map (s_v ρ α ξ) }).pushFrame (.throwing q)))) :
    W p l e R s m args below meth cc H locs c n (vx_MQ below (s_Qc D tc ξ ρ k A α0 b0) (s_Xc D tc ξ ρ k A α0 b0) args s (s_meta mi).2.2.1 (s_meta mi).2.2.2.1 A) (F0 m pc ls (st.map (s_v ρ α ξ))) := by
  obtain ⟨a1, ⟨a2, a2'⟩, a3, a4, a5, a6, a7, a8, a9, a10⟩ := s_call_x hh
  have hM := s_met hls hy h0 hin (by rw [s_words_rev]; exact a5) (hih y 0 _ [] h iv 0 0 _ hy a10) α H.size
  have hPc : ∀ U : State, U.heap = H → s.WarmedH U.vm → s_Pc D tc ξ xs ρ α h (st.take na).reverse H.size (((st.take na).reverse).map (s_v ρ α ξ)).toArray U := fun U hU hW =>
    ⟨rfl, by rw [hU], by rw [hU]; exact hP, hD.weaken (fun _ _ _ _ => trivial), hE.go hW (by rw [hU]; exact hS.1) (fun q hq hn => by rw [hU]; exact hS.2.1 q hq hn) (s_A_sub hA hD hS)⟩
  have hrest : (st.drop na).all (s_okV h.length) = true := List.all_eq_true.mpr fun q hq => List.all_eq_true.mp a2' q (List.mem_of_mem_drop hq)
  have hRf := X.2.2.2.2.2.2.2.2.2.2.1
  have hRc := X.2.2.2.2.2.2.2.2.2.2.2.1
  have hRs := X.2.2.2.2.2.2.2.2.2.2.2.2.1
  have hRl := X.2.2.2.2.2.2.2.2.2.2.2.2.2
  exact s_after hih hm hrest a2 a8 a9 X hin hE hA hD hS hl hb0 hag rfl rfl (hr hM hPc ⟨Nat.le_trans a8 hRc, Nat.le_trans a9 hRs⟩ ⟨by omega, by omega⟩ (lv_room (by rw [s_words_v]; exact a3))) hnpc
theorem s_inst {as : List sV} {ci : Nat} {α : Nat → Nat} (hrc : s_rcv h as ci = true) (hci : ci ≠ 0) : ∃ (ys : List sV) (x : sV), as = ys ++ [x] ∧ (∃ b, s_v ρ α ξ x = .ref b) ∧ (x.1 = 3 ∨ x.1 = 4 ∧ x.2.2 = 2 ∧ ci = 1001) ∧ ∀ cj, ci = cj + 1 → ci ≠ 1000 → ci ≠ 1001 → ∃ fs, s_obj h x cj = some fs := by
  unfold s_rcv at hrc
  split at hrc
  · next x hx =>
    obtain ⟨ys, hys⟩ := List.getLast?_eq_some_iff.mp hx
    refine ⟨ys, x, hys, ?_⟩
    split at hrc
    · exact absurd rfl hci
    · have := s_tag_iff.mp hrc
      exact ⟨⟨_, s_v3 this⟩, Or.inl this, fun _ _ q => absurd rfl q⟩
    · rw [Bool.and_eq_true] at hrc
      have := s_tag_iff.mp hrc.1
      exact ⟨⟨_, s_v4 this⟩, Or.inr ⟨this, Nat.eq_of_beq_eq_true hrc.2, rfl⟩, fun _ _ _ q => absurd rfl q⟩
    · split at hrc
      · next fs hfs =>
        have := (s_obj_v hfs).1
        exact ⟨⟨_, s_v3 this⟩, Or.inl this, fun cj hcj _ _ => ⟨fs, by cases hcj; exact hfs⟩⟩
      · cases hrc
  · exact absurd (Nat.eq_of_beq_eq_true hrc) hci
theorem s_np_v {y : MethodName} {q : Nat} (h : s_np y q = true) : (parseMethodDescriptor y.desc).map (fun d => d.parameters.length) = some q := of_decide_eq_true h
end S11
