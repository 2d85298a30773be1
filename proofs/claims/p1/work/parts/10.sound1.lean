theorem s_cks_in {r : List Cond} {w : Cond} (hr : r ∈ s_cks) (hw : w ∈ r) : w ∈ tables_1 := by
  unfold s_cks at hr
  simp only [List.mem_cons, List.not_mem_nil, or_false] at hr
  unfold tables_1
  simp only [List.mem_append]
  rcases hr with rfl | rfl | rfl | rfl | rfl | rfl | rfl | rfl | rfl | rfl | rfl <;> simp only [hw, true_or, or_true]
theorem s_wat_v {i : Nat} {w : Cond} (h : s_wat i w = true) : w ∈ s_tbl := by
  have h : s_ats i = some w := of_decide_eq_true h
  unfold s_ats at h
  split at h
  · have h9 : w ∈ s_hd := List.mem_of_getElem? h
    rcases List.mem_cons.mp h9 with rfl | h9
    · exact List.mem_cons_self
    · exact List.mem_cons_of_mem _ (List.mem_append_left _ h9)
  · split at h
    · next r hr => exact List.mem_cons_of_mem _ (List.mem_append_right _ (s_cks_in (List.mem_of_getElem? hr) (List.mem_of_getElem? h)))
    · cases h
theorem s_gat_v {i : Nat} {w : Cond} (h : s_gat i w = true) : w ∈ s_U := by
  unfold s_gat at h
  rw [Bool.and_eq_true] at h
  exact s_U_in (s_wat_v h.1) h.2
theorem s_pre_v : ∀ {ws : List Cond} {is : List Nat}, s_pre ws is = true → ∀ w ∈ ws, w ∈ s_U
  | [], _, _, w, h => absurd h List.not_mem_nil
  | a :: r, [], h, _, _ => by cases h
  | a :: r, i :: is, h, w, hw => by
    unfold s_pre at h
    rw [Bool.and_eq_true] at h
    rcases List.mem_cons.mp hw with rfl | hw
    · exact s_gat_v h.1
    · exact s_pre_v h.2 w hw
theorem s_row {mi : Nat} (hm : mi < s_M) {pc : Nat} {e : sN} (hf : s_find (s_code mi) pc = some e) : decode (s_by mi) pc = .ok (e.2.1, s_ln e) ∧ e.2.2.1 = pc + s_ln e ∧ s_lk mi e = true := by
  obtain ⟨h1, h2⟩ := s_find_v hf
  have h := List.all_eq_true.mp (s_ok_rows hm) e h1
  unfold s_rok at h
  rw [Bool.and_eq_true, Bool.and_eq_true] at h
  obtain ⟨a, b, c⟩ := h
  have a := of_decide_eq_true a
  rw [h2] at a
  have b := Nat.eq_of_beq_eq_true b
  rw [h2] at b
  exact ⟨a, b, c⟩
theorem s_v0 {ρ : Nat → Int} {α ξ : Nat → Nat} {x : sV} (h : s_tag 0 x = true) : s_v ρ α ξ x = .int (Int32.ofInt (s_n ρ x)) := by
  obtain ⟨t, c, n⟩ := x
  cases s_tag_iff.mp h
  rfl
theorem s_v1 {ρ : Nat → Int} {α ξ : Nat → Nat} {x : sV} (h : s_tag 1 x = true) : s_v ρ α ξ x = .long (Int64.ofInt (s_n ρ x)) := by
  obtain ⟨t, c, n⟩ := x
  cases s_tag_iff.mp h
  rfl
theorem s_v5 {ρ : Nat → Int} {α ξ : Nat → Nat} {x : sV} (h : s_tag 5 x = true) : s_v ρ α ξ x = .float 0 := by
  obtain ⟨t, c, n⟩ := x
  cases s_tag_iff.mp h
  rfl
theorem s_v6 {ρ : Nat → Int} {α ξ : Nat → Nat} {x : sV} (h : s_tag 6 x = true) : s_v ρ α ξ x = .double 0 := by
  obtain ⟨t, c, n⟩ := x
  cases s_tag_iff.mp h
  rfl
theorem s_vA {ρ : Nat → Int} {α ξ : Nat → Nat} {x : sV} (h : s_isA x = true) : s_v ρ α ξ x = .null ∨ ∃ a, s_v ρ α ξ x = .ref a := by
  obtain ⟨t, c, n⟩ := x
  unfold s_isA at h
  unfold s_v
  dsimp only at h ⊢
  split at h
  · exact Or.inl rfl
  · exact Or.inr ⟨_, rfl⟩
  · exact Or.inr ⟨_, rfl⟩
  · cases h
section S1
variable {l : Launch} {D : va_G} {tc : Nat → ClassId} {ξ : Nat → Nat} {xs : Nat → Int32} {ρ : Nat → Int} {f : sF}
variable {mi pc npc : Nat} {lo : sL} {st : List sV} {h : List sE} {iv : sI} {c n : Nat} {k : sZ → Bool}
theorem v_iconst (hih : s_All l D tc ξ xs ρ f) (hρ : s_ρ ρ xs) (hm : mi < s_M) {v : Int} (hd : decode (s_by mi) pc = .ok (.iconst v, 1)) (hn : npc = pc + 1) (hh : f mi npc lo ((0, v, 0) :: st) h iv c n k = true) : s_Snd l D tc ξ xs ρ mi pc lo st h iv c n k := by
  intro p e R s m args below meth cc A α α0 b0 H locs ls X hin hE hA hP hD hS hl hb0 hag
  subst hn
  refine lv_iconst X.1 X.2.1 hd (v := Int32.ofInt (ρ 0 + v)) (by rw [hρ.1, Int.zero_add]) ?_
  exact hih mi _ lo _ h iv c n k hm hh X hin hE hA hP hD hS hl hb0 hag
end S1
