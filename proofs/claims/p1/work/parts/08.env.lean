/-! THE WORLD ROUND A RUN: what holds of the cells from before, where a method begins -/
/-- the statement's words, and one more: a private method is selected through a class below its own -/
def s_tbl : List Cond := Cond.selects RJ4 yJ5_ensureCapacityInternal_d00df yJ5_ensureCapacityInternal_d00df :: lw_tbl
theorem s_selp {C : String} {y : MethodName} {s : State} {args : Array Value} {n : Nat} (hy : y.cls ≠ "java/lang/invoke/MethodHandle" ∧ y.cls ≠ "java/lang/invoke/VarHandle")
    (hins : (Cond.instantiable C n).before args s = true) (hpriv : (Cond.privateMethod y).before args s = true) (hinst : (Cond.instanceMethod y).before args s = true) (hsame : (Cond.sameMethod y.cls y.cls y.name y.desc).before args s = true) :
    (Cond.selects C y y).before args s = true := by
  obtain ⟨c, k, hc, hk, -, -, -, -⟩ := Cond.instantiable_spec hins
  obtain ⟨mk, methM, hnamed, hmethM, -, -⟩ := Cond.instanceMethod_spec hinst
  have hfound : s.methodFound? y.cls y.name y.desc = some mk := State.methodFound?_of_named hnamed hy
  have hcls : s.vm.findClass y.cls = some mk.cls := findClass_of_methodNamed hnamed
  have hsel : selectMethod {} s.vm c mk = .method mk := selectMethod_private hmethM (Cond.privateMethod_at hpriv mk methM hnamed hmethM)
  have hni : (s.vm.classes[mk.cls]?).any (!·.isInterface) = true := by
    have h := hsame
    have hn2 : s.methodNamed? ⟨y.cls, y.name, y.desc⟩ = some mk := hnamed
    simp only [Cond.before, Cond.holds, Cond.value, hcls, hfound, hn2] at h
    simpa using h
  simp only [Cond.before, Cond.holds, Cond.value, hc, hfound, hnamed, hsel]
  simpa using hni
def s_U : List Cond := s_tbl.filter goodWord
theorem s_U_in {w : Cond} (h : w ∈ s_tbl) (g : goodWord w = true) : w ∈ s_U := List.mem_filter.mpr ⟨h, g⟩
def s_cd (i : Nat) : Cond := match s_hx i with
  | [] => .code (s_y i) (s_by i) (s_meta i).1 (s_rt i)
  | z :: r => .codeWith (s_y i) (s_by i) (s_meta i).1 (s_rt i) (z :: r)
def s_ws (i : Nat) : List Cond := s_cd i :: s_U
def s_rm (i : Nat) : Room := { frames := (s_meta i).2.1, cells := (s_meta i).2.2.1, slots := (s_meta i).2.2.2.1, locals := (s_meta i).2.2.2.2.1 }
def s_tys (tc : Nat → ClassId) : List (ClassId × FieldType) := [(tc 0, .int), (tc 1, .char), (tc 2, .byte), (tc 3, .boolean), (tc 4, .long), (tc 5, .double), (tc 6, .object "java/lang/Object")]
def s_nk (w : Cond) : Bool := match w with
  | .fieldLinkNest .. => true
  | .methodLinkNest .. => true
  | .castable .. => true
  | .declares .. => true
  | _ => false
def s_iX : MethodName := ⟨"java/util/Iterator", "hasNext", "()Z"⟩
def s_iY : MethodName := ⟨"java/util/ArrayList$Itr", "hasNext", "()Z"⟩
def s_EnvV (D : va_G) (tc : Nat → ClassId) (ξ : Nat → Nat) (U : State) : Prop :=
  va_K D vwCl (s_tys tc) U ∧ (∀ w ∈ s_tbl, s_nk w = true → va_Nw w U) ∧ va_Fw "java/util/ArrayList$Itr" s_iX s_iY U ∧ va_AO "java/lang/Object" U ∧ vk_R "TaperhallModel" 361 "fgbe" (ξ 2) U ∧ ∀ a b, a < 6 → b < 6 → a ≠ b → va_Nc (s_exc a) (s_exc b) U
def s_EnvZ (ξ : Nat → Nat) (A : Nat → Prop) (U : State) (H : Heap) : Prop :=
  va_Z "java/util/ArrayList" "DEFAULTCAPACITY_EMPTY_ELEMENTDATA" "[Ljava/lang/Object;" (.ref (ξ 1)) A U H ∧ va_T (.object "java/lang/Object") (ξ 1) 0 (fun _ => .null) A U H ∧ va_Z "java/lang/String" "COMPACT_STRINGS" "Z" (.int 1) A U H ∧
  vx_Zq Bundle.tN "UNASSIGNED_STACK" Bundle.steD A U H ∧ vx_Zq Bundle.tN "SUPPRESSED_SENTINEL" Bundle.listD A U H ∧
  va_O "java/lang/String" (ξ 2) A U H ∧ va_OF "java/lang/String" "coder" "B" (.int 0) (ξ 2) A U H ∧ va_OF "java/lang/String" "value" "[B" (.ref (ξ 3)) (ξ 2) A U H ∧ va_T .byte (ξ 3) 4 (fun j => .int (Int32.ofInt (s_fg j))) A U H
def s_Env (D : va_G) (tc : Nat → ClassId) (ξ : Nat → Nat) (xs : Nat → Int32) (A : Nat → Prop) (U : State) : Prop :=
  s_EnvV D tc ξ U ∧ s_EnvZ ξ A U U.heap ∧ va_X (ξ 0) (xs 7).toNatClampNeg xs U U.heap ∧ ξ 0 < U.heap.size ∧ ¬ A (ξ 0)
theorem s_nk_warm {s U : State} (hW : s.WarmedH U.vm) {w : Cond} (hk : s_nk w = true) (h : va_Nw w s) : va_Nw w U := by
  cases w <;> first | exact va_Nw.warmF hW h | exact va_Nw.warmM hW h | exact va_Nw.warmD hW h | exact va_Nw.warmC hW h | exact absurd hk (by simp [s_nk])
theorem s_EnvV.go {D : va_G} {tc : Nat → ClassId} {ξ : Nat → Nat} {s U : State} (h : s_EnvV D tc ξ s) (hW : s.WarmedH U.vm) : s_EnvV D tc ξ U :=
  ⟨va_K.moved hW.alike h.1, fun w hw hk => s_nk_warm hW hk (h.2.1 w hw hk), va_Fw.moved ⟨by decide, by decide⟩ hW.alike h.2.2.1, va_AO.moved hW.alike h.2.2.2.1, vk_R.warm hW h.2.2.2.2.1, fun a b ha hb hab => (h.2.2.2.2.2 a b ha hb hab).moved hW.alike⟩
theorem s_EnvZ.go {ξ : Nat → Nat} {A B : Nat → Prop} {s U : State} {H H1 : Heap} (h : s_EnvZ ξ A s H) (hW : s.vm.Alike U.vm) (hq : ∀ a : Nat, a < H.size → ¬ A a → H1[a]? = H[a]?) (hAB : ∀ q, B q → A q) : s_EnvZ ξ B U H1 := by
  obtain ⟨h1, h2, h3, h4, h5, h6, h7, h8, h9⟩ := h
  exact ⟨((va_Z.moved hW h1).kept hq).narrow hAB, ((va_T.moved hW h2).kept hq).narrow hAB, ((va_Z.moved hW h3).kept hq).narrow hAB, ((vx_Zq.moved hW h4).kept hq).narrow hAB, ((vx_Zq.moved hW h5).kept hq).narrow hAB, ((va_O.moved hW h6).kept hq).narrow hAB, ((va_OF.moved hW h7).kept hq).narrow hAB, ((va_OF.moved hW h8).kept hq).narrow hAB, ((va_T.moved hW h9).kept hq).narrow hAB⟩
theorem s_Env.go {D : va_G} {tc : Nat → ClassId} {ξ : Nat → Nat} {xs : Nat → Int32} {A B : Nat → Prop} {s U : State} (h : s_Env D tc ξ xs A s) (hW : s.WarmedH U.vm) (hz : s.heap.size ≤ U.heap.size) (hq : ∀ a : Nat, a < s.heap.size → ¬ A a → U.heap[a]? = s.heap[a]?) (hAB : ∀ q, B q → A q) : s_Env D tc ξ xs B U := by
  obtain ⟨h1, h2, ⟨scr, x1, x2, x3⟩, h4, h5⟩ := h
  refine ⟨h1.go hW, h2.go hW.alike hq hAB, ⟨scr, ?_, State.isArrayOf_alike hW.alike x2, x3⟩, Nat.lt_of_lt_of_le h4 hz, fun z => h5 (hAB _ z)⟩
  rw [hq _ h4 h5]
  exact x1
/-- what is known of a method's own run -/
def s_Cx (mi : Nat) (p : Program) (l : Launch) (R : Room) (s : State) (m : MethodId) (args : Array Value) (meth : Method) (c : Code) : Prop :=
  p.tables.exec = Jvm.exec ∧ c.code = s_by mi ∧ c.maxLocals = (s_meta mi).1 ∧ meth.sig.returnType = s_rt mi ∧ meth.locks = false ∧ s.vm.findClass (s_own mi) = some m.cls ∧ (∀ w ∈ s_U, w.before args s = true) ∧
  c.exceptionTable.toList = tableOf (s_hx mi) ∧ meth.name = (s_y mi).name ∧ l.stackTraces = false ∧ (s_meta mi).2.1 ≤ R.frames ∧ (s_meta mi).2.2.1 ≤ R.cells ∧ (s_meta mi).2.2.2.1 ≤ R.slots ∧ (s_meta mi).2.2.2.2.1 ≤ R.locals
def s_Qc (D : va_G) (tc : Nat → ClassId) (ξ : Nat → Nat) (ρ : Nat → Int) (k : sZ → Bool) (A : Nat → Prop) (α : Nat → Nat) (b : Nat) : Array Value → State → Outcome → State → Prop := fun _ st oc t =>
  (∃ (z : sZ) (α' : Nat → Nat), k z = true ∧ s_in ρ z.2.2.2 ∧ s_ag α α' b ∧ b ≤ z.2.2.1.length ∧ ((z.1 = 0 ∧ oc = .returned none) ∨ (z.1 = 1 ∧ oc = .returned (some (s_v ρ α' ξ z.2.1)))) ∧ va_P D vwCl (s_h tc ρ α' ξ z.2.2.1) t.heap ∧ va_D A (s_h tc ρ α' ξ z.2.2.1)) ∧ va_F A st t
def s_Xc (D : va_G) (tc : Nat → ClassId) (ξ : Nat → Nat) (ρ : Nat → Int) (k : sZ → Bool) (A : Nat → Prop) (α : Nat → Nat) (b : Nat) : String → State → State → Prop := fun E st t =>
  (∃ (z : sZ) (α' : Nat → Nat) (x : Nat), k z = true ∧ s_in ρ z.2.2.2 ∧ s_ag α α' b ∧ b ≤ z.2.2.1.length ∧ z.1 = x + 2 ∧ E = s_exc x ∧ va_P D vwCl (s_h tc ρ α' ξ z.2.2.1) t.heap ∧ va_D A (s_h tc ρ α' ξ z.2.2.1)) ∧ va_F A st t
def s_ρ (ρ : Nat → Int) (xs : Nat → Int32) : Prop := ρ 0 = 0 ∧ (∀ j : Nat, j < 6 → ρ (j + 1) = (xs j).toInt ∧ Int32.ofInt (ρ (j + 11)) = ((xs j).toUInt32 % 65536).toInt32) ∧ Int32.ofInt (ρ 21) = xs 0 &&& 63 ∧ (256 ≤ ρ 13 → ρ 13 ≤ 65535 → ρ 33 = ρ 13 / 256) ∧ ρ 22 = ((xs 7).toNatClampNeg : Int) ∧ (xs 7).toNatClampNeg ≤ 6
/-- what 'true' is to mean -/
def s_Snd (l : Launch) (D : va_G) (tc : Nat → ClassId) (ξ : Nat → Nat) (xs : Nat → Int32) (ρ : Nat → Int) (mi pc : Nat) (lo : sL) (st : List sV) (h : List sE) (iv : sI) (c n : Nat) (k : sZ → Bool) : Prop :=
  ∀ {p : Program} {e : Env} {R : Room} {s : State} {m : MethodId} {args : Array Value} {below : List Frame} {meth : Method} {cc : Code} {A : Nat → Prop} {α α0 : Nat → Nat} {b0 : Nat} {H : Heap} {locs : List Loc} {ls : Array Slot},
    s_Cx mi p l R s m args meth cc → s_in ρ iv → s_Env D tc ξ xs A s → (∀ q, s.heap.size ≤ q → A q) → va_P D vwCl (s_h tc ρ α ξ h) H → va_D A (s_h tc ρ α ξ h) → va_S A s.heap H locs → lv_has ls (s_meta mi).1 (s_ll ρ α ξ lo) → b0 ≤ h.length → s_ag α0 α b0 →
    W p l e R s m args below meth cc H locs c n (vx_MQ below (s_Qc D tc ξ ρ k A α0 b0) (s_Xc D tc ξ ρ k A α0 b0) args s (s_meta mi).2.2.1 (s_meta mi).2.2.2.1 A) (F0 m pc ls (st.map (s_v ρ α ξ)))
/-- ... of a program's every answer -/
def s_All (l : Launch) (D : va_G) (tc : Nat → ClassId) (ξ : Nat → Nat) (xs : Nat → Int32) (ρ : Nat → Int) (f : sF) : Prop :=
  ∀ mi pc lo st h iv c n k, mi < s_M → f mi pc lo st h iv c n k = true → s_Snd l D tc ξ xs ρ mi pc lo st h iv c n k
