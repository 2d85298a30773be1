/-! WHAT THE DATA MEAN: ρ: the names' numbers; α: where the run's own cells lie; ξ: where the cells from before lie; tc: the classes of arrays -/
def s_v (ρ : Nat → Int) (α ξ : Nat → Nat) (x : sV) : Value := match x.1 with
  | 0 => .int (Int32.ofInt (ρ x.2.2 + x.2.1))
  | 1 => .long (Int64.ofInt (ρ x.2.2 + x.2.1))
  | 2 => .null
  | 3 => .ref (α x.2.2)
  | 4 => .ref (ξ x.2.2)
  | 5 => .float 0
  | 6 => .double 0
  | _ => .null
def s_i (ρ : Nat → Int) (x : sV) : Int32 := Int32.ofInt (ρ x.2.2 + x.2.1)
def s_l (ρ : Nat → Int) (x : sV) : Int64 := Int64.ofInt (ρ x.2.2 + x.2.1)
def s_q (α ξ : Nat → Nat) (x : sV) : Option Nat := match x.1 with
  | 3 => some (α x.2.2)
  | 4 => some (ξ x.2.2)
  | _ => none
def s_e (tc : Nat → ClassId) (ρ : Nat → Int) (α ξ : Nat → Nat) (e : sE) : va_E := match e.1 with
  | 0 => .inr (e.2.1, e.2.2.2.map (fun q => s_v ρ α ξ q.2))
  | 1 => .inl (tc e.2.1, e.2.2.1, .inl (fun j => s_i ρ (s_look e.2.2.2 j)))
  | 2 => .inl (tc e.2.1, e.2.2.1, .inr (.inl (fun j => s_l ρ (s_look e.2.2.2 j))))
  | 3 => .inl (tc e.2.1, e.2.2.1, .inr (.inr (.inr (.inl (fun _ => 0)))))
  | _ => .inl (tc e.2.1, e.2.2.1, .inr (.inr (.inr (.inr (fun j => s_q α ξ (s_look e.2.2.2 j))))))
def s_h (tc : Nat → ClassId) (ρ : Nat → Int) (α ξ : Nat → Nat) (h : List sE) : va_W := h.mapIdx (fun k e => (α k, s_e tc ρ α ξ e))
def s_ll (ρ : Nat → Int) (α ξ : Nat → Nat) (l : sL) : List (Nat × Value) := l.map (fun q => (q.1, s_v ρ α ξ q.2))
def s_in (ρ : Nat → Int) (iv : sI) : Prop := ∀ j : Nat, (iv.getD j (0, 0)).1 ≤ ρ j ∧ ρ j ≤ (iv.getD j (0, 0)).2
def s_n (ρ : Nat → Int) (x : sV) : Int := ρ x.2.2 + x.2.1
theorem s_ilt_iff {a b : Int} : s_ilt a b = true ↔ a < b := by
  unfold s_ilt s_pos
  constructor
  · intro h
    split at h
    · next m e =>
      have e2 : b - a = ((m + 1 : Nat) : Int) := e
      omega
    · cases h
  · intro h
    obtain ⟨m, hm⟩ : ∃ m : Nat, b - a = ((m + 1 : Nat) : Int) := ⟨(b - a - 1).toNat, by omega⟩
    rw [hm]
theorem s_ile_iff {a b : Int} : s_ile a b = true ↔ a ≤ b := by
  unfold s_ile
  rw [Bool.not_eq_true', Bool.eq_false_iff, ne_eq, s_ilt_iff, Int.not_lt]
theorem s_ilt_f {a b : Int} : s_ilt a b = false ↔ b ≤ a := by
  rw [Bool.eq_false_iff, ne_eq, s_ilt_iff, Int.not_lt]
theorem s_ile_f {a b : Int} : s_ile a b = false ↔ b < a := by
  rw [Bool.eq_false_iff, ne_eq, s_ile_iff, Int.not_le]
theorem s_in_b {ρ : Nat → Int} {iv : sI} (h : s_in ρ iv) (x : sV) : s_lo iv x ≤ s_n ρ x ∧ s_n ρ x ≤ s_hi iv x := by
  have := h x.2.2
  unfold s_lo s_hi s_n
  omega
theorem s_isk_v {ρ : Nat → Int} {iv : sI} (h : s_in ρ iv) {x : sV} (hk : s_isk iv x = true) : s_n ρ x = s_lo iv x := by
  have := s_in_b h x
  have := s_ile_iff.mp hk
  omega
theorem s_tag_iff {t : Nat} {x : sV} : s_tag t x = true ↔ x.1 = t := by
  unfold s_tag
  exact ⟨Nat.eq_of_beq_eq_true, fun h => by rw [h]; exact Nat.beq_refl t⟩
theorem s_dlt_v {ρ : Nat → Int} {iv : sI} (h : s_in ρ iv) {x y : sV} {b : Bool} (hd : s_dlt iv x y = some b) : (s_n ρ x < s_n ρ y) ↔ b = true := by
  have h1 := s_in_b h x
  have h2 := s_in_b h y
  unfold s_dlt at hd
  split at hd
  · next e => have := s_ilt_iff.mp e; cases hd; simp; omega
  · split at hd
    · next e => have := s_ile_iff.mp e; cases hd; simp; omega
    · cases hd
theorem s_deq_v {ρ : Nat → Int} {iv : sI} (h : s_in ρ iv) {x y : sV} {b : Bool} (hd : s_deq iv x y = some b) : (s_n ρ x = s_n ρ y) ↔ b = true := by
  have h1 := s_in_b h x
  have h2 := s_in_b h y
  unfold s_deq at hd
  split at hd
  · next e =>
    rw [Bool.or_eq_true, s_ilt_iff, s_ilt_iff] at e
    cases hd; simp; omega
  · next e =>
    rw [Bool.or_eq_false_iff, s_ilt_f, s_ilt_f] at e
    split at hd
    · next e2 =>
      rw [Bool.and_eq_true] at e2
      have a1 := s_ile_iff.mp e2.1
      have a2 := s_ile_iff.mp e2.2
      cases hd; simp; omega
    · cases hd
def s_ho (o : Jvm.ClassFile.Cond) (a b : Int) : Prop := match o with
  | .eq => a = b
  | .ne => ¬ a = b
  | .lt => a < b
  | .ge => b ≤ a
  | .gt => b < a
  | .le => a ≤ b
theorem s_not_v {d : Option Bool} {b : Bool} (h : s_not d = some b) : d = some (!b) := by
  unfold s_not at h
  split at h <;> cases h <;> rfl
theorem s_dec_v {ρ : Nat → Int} {iv : sI} (h : s_in ρ iv) {o : Jvm.ClassFile.Cond} {x y : sV} {b : Bool} (hd : s_dec o iv x y = some b) : s_ho o (s_n ρ x) (s_n ρ y) ↔ b = true := by
  cases o <;> simp only [s_dec] at hd <;> simp only [s_ho]
  · exact s_deq_v h hd
  · have := s_deq_v h (s_not_v hd); cases b <;> simp_all
  · exact s_dlt_v h hd
  · have := s_dlt_v h (s_not_v hd); cases b <;> simp_all <;> omega
  · exact s_dlt_v h hd
  · have := s_dlt_v h (s_not_v hd); cases b <;> simp_all <;> omega
theorem s_r32_v {ρ : Nat → Int} {iv : sI} (h : s_in ρ iv) {x : sV} (hr : s_r32 iv x = true) : (Int32.ofInt (s_n ρ x)).toInt = s_n ρ x := by
  have h1 := s_in_b h x
  unfold s_r32 at hr
  rw [Bool.and_eq_true, s_ile_iff, s_ile_iff] at hr
  exact Int32.toInt_ofInt_of_le (by show -(2:Int)^31 ≤ _; omega) (by show _ < (2:Int)^31; omega)
theorem s_r64_v {ρ : Nat → Int} {iv : sI} (h : s_in ρ iv) {x : sV} (hr : s_r64 iv x = true) : (Int64.ofInt (s_n ρ x)).toInt = s_n ρ x := by
  have h1 := s_in_b h x
  unfold s_r64 at hr
  rw [Bool.and_eq_true, s_ile_iff, s_ile_iff] at hr
  exact Int64.toInt_ofInt_of_le (by show -(2:Int)^63 ≤ _; omega) (by show _ < (2:Int)^63; omega)
theorem s_rg_v {ρ : Nat → Int} {iv : sI} (h : s_in ρ iv) {a b : Int} {x : sV} (hr : s_rg a b iv x = true) : a ≤ s_n ρ x ∧ s_n ρ x ≤ b := by
  have h1 := s_in_b h x
  unfold s_rg at hr
  rw [Bool.and_eq_true, s_ile_iff, s_ile_iff] at hr
  omega
theorem s_spl_v {ρ : Nat → Int} {iv : sI} (h : s_in ρ iv) (v : Nat) (q : Int) : s_in ρ (iv.set v ((iv.getD v (0, 0)).1, q - 1)) ∨ s_in ρ (iv.set v (q, (iv.getD v (0, 0)).2)) := by
  have key : ∀ z : Int × Int, z.1 ≤ ρ v ∧ ρ v ≤ z.2 → s_in ρ (iv.set v z) := by
    intro z hz j
    by_cases hj : v < iv.length
    · by_cases e : v = j
      · subst e
        simpa [List.getD_eq_getElem?_getD, List.getElem?_set_self hj] using hz
      · have := h j
        simpa [List.getD_eq_getElem?_getD, List.getElem?_set_ne e] using this
    · rw [List.set_eq_of_length_le (by omega)]
      exact h j
  have h0 := h v
  by_cases hq : ρ v < q
  · exact Or.inl (key _ ⟨h0.1, by show ρ v ≤ q - 1; omega⟩)
  · exact Or.inr (key _ ⟨by show q ≤ ρ v; omega, h0.2⟩)
theorem s_find_v {l : List sN} {pc : Nat} {e : sN} (h : s_find l pc = some e) : e ∈ l ∧ e.1 = pc := by
  induction l with
  | nil => cases h
  | cons a r ih =>
    unfold s_find at h
    split at h
    · next e2 =>
      cases h
      exact ⟨List.mem_cons_self, Nat.eq_of_beq_eq_true e2⟩
    · exact ⟨List.mem_cons_of_mem _ (ih h).1, (ih h).2⟩
theorem s_get_v {l : sL} {i : Nat} {v : sV} (h : s_get l i = some v) : (i, v) ∈ l := by
  induction l with
  | nil => cases h
  | cons a r ih =>
    unfold s_get at h
    split at h
    · next e2 =>
      cases h
      rw [← Nat.eq_of_beq_eq_true e2]
      exact List.mem_cons_self
    · exact List.mem_cons_of_mem _ (ih h)
theorem s_cat_v (ρ : Nat → Int) (α ξ : Nat → Nat) (x : sV) : (s_v ρ α ξ x).category = s_cat x := by
  obtain ⟨t, c, n⟩ := x
  unfold s_v s_cat
  dsimp only
  split <;> first | rfl | (split <;> first | rfl | simp_all)
theorem s_cat_12 (x : sV) : s_cat x = 1 ∨ s_cat x = 2 := by
  unfold s_cat
  split
  · exact Or.inr rfl
  · exact Or.inr rfl
  · exact Or.inl rfl
theorem s_ll_get {ρ : Nat → Int} {α ξ : Nat → Nat} {l : sL} {i : Nat} {v : sV} (h : s_get l i = some v) {ls : Array Slot} {n : Nat} (hl : lv_has ls n (s_ll ρ α ξ l)) : ls[i]? = some (.val (s_v ρ α ξ v)) :=
  hl.2.2 (i, s_v ρ α ξ v) (List.mem_map.mpr ⟨(i, v), s_get_v h, rfl⟩)
theorem s_ll_put (ρ : Nat → Int) (α ξ : Nat → Nat) (l : sL) (i : Nat) (x : sV) : (i, s_v ρ α ξ x) :: (s_ll ρ α ξ l).filter (fun q => !(q.1 == i) && !(q.1 + 1 == i && q.2.category == 2)) = s_ll ρ α ξ (s_put l i x) := by
  unfold s_ll s_put
  rw [List.map_cons, List.filter_map]
  congr 2
  apply List.filter_congr
  intro q _
  simp only [Function.comp, s_cat_v]
theorem s_ll_put2 (ρ : Nat → Int) (α ξ : Nat → Nat) (l : sL) (i : Nat) (x : sV) : (i, s_v ρ α ξ x) :: (s_ll ρ α ξ l).filter (fun q => !(q.1 == i) && (!(q.1 == i + 1) && !(q.1 + 1 == i && q.2.category == 2))) = s_ll ρ α ξ (s_put2 l i x) := by
  unfold s_ll s_put2
  rw [List.map_cons, List.filter_map]
  congr 2
  apply List.filter_congr
  intro q _
  simp only [Function.comp, s_cat_v]
theorem s_ll_args (ρ : Nat → Int) (α ξ : Nat → Nat) (i : Nat) (vs : List sV) : lv_args i (vs.map (s_v ρ α ξ)) = s_ll ρ α ξ (s_args i vs) := by
  induction vs generalizing i with
  | nil => rfl
  | cons a r ih =>
    simp only [List.map_cons, lv_args, s_args, s_ll, s_cat_v]
    rw [ih]
    have : (if s_cat a = 2 then i + 2 else i + 1) = i + s_cat a := by
      rcases s_cat_12 a with h | h <;> simp [h]
    rw [this]
    rfl
theorem s_h_get {tc : Nat → ClassId} {ρ : Nat → Int} {α ξ : Nat → Nat} {h : List sE} {k : Nat} {e : sE} (hk : h[k]? = some e) : (s_h tc ρ α ξ h)[k]? = some (α k, s_e tc ρ α ξ e) := by
  unfold s_h
  rw [List.getElem?_mapIdx, hk]
  rfl
theorem s_h_set (tc : Nat → ClassId) (ρ : Nat → Int) (α ξ : Nat → Nat) (h : List sE) (k : Nat) (e : sE) : (s_h tc ρ α ξ h).set k (α k, s_e tc ρ α ξ e) = s_h tc ρ α ξ (h.set k e) := by
  unfold s_h
  apply List.ext_getElem?
  intro j
  rw [List.getElem?_mapIdx, List.getElem?_set, List.getElem?_set, List.length_mapIdx]
  by_cases e1 : k = j
  · subst e1
    by_cases e2 : k < h.length
    · simp [e2]
    · simp [e2]
  · simp [e1, List.getElem?_mapIdx]
theorem s_h_app (tc : Nat → ClassId) (ρ : Nat → Int) (α ξ : Nat → Nat) (h : List sE) (e : sE) : s_h tc ρ α ξ (h ++ [e]) = s_h tc ρ α ξ h ++ [(α h.length, s_e tc ρ α ξ e)] := by
  unfold s_h
  rw [List.mapIdx_append]
  simp
def s_ag (α α' : Nat → Nat) (b : Nat) : Prop := ∀ j : Nat, j < b → α' j = α j
theorem s_okV_v {ρ : Nat → Int} {α α' ξ : Nat → Nat} {b : Nat} (ha : s_ag α α' b) {x : sV} (h : s_okV b x = true) : s_v ρ α' ξ x = s_v ρ α ξ x ∧ s_q α' ξ x = s_q α ξ x := by
  obtain ⟨t, c, n⟩ := x
  unfold s_okV at h
  unfold s_v s_q
  dsimp only at h ⊢
  split at h
  · have h2 : α' n = α n := ha n (by simpa [Nat.blt_eq] using h)
    simp [h2]
  · next hx =>
    constructor
    · split <;> first | rfl | exact absurd rfl hx
    · split <;> first | rfl | exact absurd rfl hx
theorem s_e_v {tc : Nat → ClassId} {ρ : Nat → Int} {α α' ξ : Nat → Nat} {b : Nat} (ha : s_ag α α' b) {e : sE} (h : e.2.2.2.all (fun q => s_okV b q.2) = true) : s_e tc ρ α' ξ e = s_e tc ρ α ξ e := by
  have hm : ∀ q ∈ e.2.2.2, s_v ρ α' ξ q.2 = s_v ρ α ξ q.2 ∧ s_q α' ξ q.2 = s_q α ξ q.2 := fun q hq => s_okV_v ha (List.all_eq_true.mp h q hq)
  have hl : ∀ (l : List (Nat × sV)), (∀ q ∈ l, s_q α' ξ q.2 = s_q α ξ q.2) → ∀ j, s_q α' ξ (s_look l j) = s_q α ξ (s_look l j) := by
    intro l
    induction l with
    | nil => intro _ j; rfl
    | cons a r ih =>
      intro hq j
      unfold s_look
      split
      · exact hq a List.mem_cons_self
      · exact ih (fun q h2 => hq q (List.mem_cons_of_mem _ h2)) j
  unfold s_e
  split
  · have : e.2.2.2.map (fun q => s_v ρ α' ξ q.2) = e.2.2.2.map (fun q => s_v ρ α ξ q.2) := List.map_congr_left fun q hq => (hm q hq).1
    rw [this]
  · rfl
  · rfl
  · rfl
  · have : (fun j => s_q α' ξ (s_look e.2.2.2 j)) = (fun j => s_q α ξ (s_look e.2.2.2 j)) := funext fun j => hl _ (fun q hq => (hm q hq).2) j
    rw [this]
theorem s_h_v {tc : Nat → ClassId} {ρ : Nat → Int} {α α' ξ : Nat → Nat} {h : List sE} (ha : s_ag α α' h.length) (hh : h.all (fun e => e.2.2.2.all (fun q => s_okV h.length q.2)) = true) : s_h tc ρ α' ξ h = s_h tc ρ α ξ h := by
  unfold s_h
  apply List.ext_getElem?
  intro j
  rw [List.getElem?_mapIdx, List.getElem?_mapIdx]
  cases hj : h[j]? with
  | none => rfl
  | some e =>
    obtain ⟨hlt, -⟩ := List.getElem?_eq_some_iff.mp hj
    simp only [Option.map_some, Option.some.injEq, Prod.mk.injEq]
    exact ⟨ha j hlt, s_e_v ha (List.all_eq_true.mp hh e (List.mem_of_getElem? hj))⟩
theorem s_ll_v {ρ : Nat → Int} {α α' ξ : Nat → Nat} {b : Nat} (ha : s_ag α α' b) {l : sL} (h : l.all (fun q => s_okV b q.2) = true) : s_ll ρ α' ξ l = s_ll ρ α ξ l :=
  List.map_congr_left fun q hq => by rw [(s_okV_v ha (List.all_eq_true.mp h q hq)).1]
theorem s_st_v {ρ : Nat → Int} {α α' ξ : Nat → Nat} {b : Nat} (ha : s_ag α α' b) {st : List sV} (h : st.all (s_okV b) = true) : st.map (s_v ρ α' ξ) = st.map (s_v ρ α ξ) :=
  List.map_congr_left fun q hq => (s_okV_v ha (List.all_eq_true.mp h q hq)).1
theorem s_words_v (ρ : Nat → Int) (α ξ : Nat → Nat) (st : List sV) : ((st.map (s_v ρ α ξ)).map fun v => v.category).sum = s_words st := by
  induction st with
  | nil => rfl
  | cons a r ih => simp only [List.map_cons, List.sum_cons, s_words, s_cat_v, ih]
