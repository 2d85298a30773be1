/-! the two rows vx_ofW, vx_ofWH for classes that have entries, of members that have none -/
section S9a
variable {l : Launch}
theorem s_ofW {y : MethodName} {ws ws' : List Cond} {rm : Room} {Pc : Array Value → State → Prop} {Qc : Array Value → State → Outcome → State → Prop} {XC : String → State → State → Prop} {mc ms : Nat} {free : Addr → Prop} {cc : ByteArray} {maxL : Nat} {ret : Option FieldType}
    (hy : plainFor y = true) (hw : ws = Cond.code y cc maxL ret :: ws')
    (body : ∀ p e s m args below meth c s₁, BodyLoose p l y (headSpec ws rm) cc maxL ret e s m args below meth c s₁ → c.maxLocals = maxL → (∀ x ∈ c.exceptionTable.toList, False) → Pc args s →
      W p l e (headSpec ws rm).room s m args below meth c s.heap [] 0 0 (vx_MQ below Qc XC args s mc ms free) (entryFrame m args maxL)) : vx_Met l y ws rm Pc Qc XC mc ms free := by
  refine MetFree.of_bodySF (code := cc) (maxLocals := maxL) (ret := ret) hy ?_ ?_
  · intro args s m h hn
    obtain ⟨meth, c, h1, h2, h3, h4, h5, h6, -, -⟩ := Cond.code_spec hn (atoms_spec (ws := ws) h _ (by rw [hw]; exact List.mem_cons_self))
    exact ⟨meth, c, h1, h2, h3, h4, h5, h6⟩
  · intro p e s m args below meth c s₁ B hml hP _
    have hh0 : s₁.heap = s.heap := by rw [B.state]; rfl
    have ht : ∀ x ∈ c.exceptionTable.toList, False := by
      obtain ⟨meth9, c9, h1, h2, -, -, -, -, h7, -⟩ := Cond.code_spec B.named (atoms_spec (ws := ws) B.pre _ (by rw [hw]; exact List.mem_cons_self))
      cases Option.some.inj (h1.symm.trans B.method)
      cases Option.some.inj (h2.symm.trans (Stand.of_body B).code)
      intro x hx
      rw [Array.isEmpty_iff.mp h7] at hx
      cases hx
    obtain ⟨t, a1, o, b1, b2, b3⟩ := body p e s m args below meth c s₁ B hml ht hP s₁ hh0 (Stand.of_body B)
    exact ⟨t, o, a1, b1, b2, b3⟩
theorem s_ofWH {l : Launch} {y : MethodName} {ws ws' : List Cond} {rm : Room} {Pc : Array Value → State → Prop} {Qc : Array Value → State → Outcome → State → Prop} {XC : String → State → State → Prop} {mc ms : Nat} {free : Addr → Prop} {cc : ByteArray} {maxL : Nat} {ret : Option FieldType} {hh : List (Nat × Nat × Nat × Nat)}
    (hy : plainFor y = true) (hw : ws = Cond.codeWith y cc maxL ret hh :: ws')
    (body : ∀ p e s m args below meth c s₁, BodyLoose p l y (headSpec ws rm) cc maxL ret e s m args below meth c s₁ → c.maxLocals = maxL → Pc args s →
      W p l e (headSpec ws rm).room s m args below meth c s.heap [] 0 0 (vx_MQ below Qc XC args s mc ms free) (entryFrame m args maxL)) : vx_Met l y ws rm Pc Qc XC mc ms free := by
  refine MetFree.of_bodySF (code := cc) (maxLocals := maxL) (ret := ret) hy ?_ ?_
  · intro args s m h hn
    obtain ⟨m9, meth, c, hn9, h1, h2, h3, h4, -, h5, h6, -⟩ := Cond.codeWith_spec (atoms_spec (ws := ws) h _ (by rw [hw]; exact List.mem_cons_self))
    cases hn.symm.trans hn9
    exact ⟨meth, c, h1, h2, h3, h4, h5, h6⟩
  · intro p e s m args below meth c s₁ B hml hP _
    have hh0 : s₁.heap = s.heap := by rw [B.state]; rfl
    obtain ⟨t, a1, o, b1, b2, b3⟩ := body p e s m args below meth c s₁ B hml hP s₁ hh0 (Stand.of_body B)
    exact ⟨t, o, a1, b1, b2, b3⟩
end S9a
section S9
variable {l : Launch} {D : va_G} {tc : Nat → ClassId} {ξ : Nat → Nat} {xs : Nat → Int32} {ρ : Nat → Int} {f : sF}
variable {mi pc npc : Nat} {lo : sL} {st : List sV} {h : List sE} {iv : sI} {c n : Nat} {k : sZ → Bool}
theorem s_lg_len (α : Nat → Nat) (vs : List sV) : (lg_sl (vs.map (s_v ρ α ξ))).length = s_words vs := by
  induction vs with
  | nil => rfl
  | cons a r ih =>
    unfold lg_sl at ih ⊢
    rw [List.map_cons, List.flatMap_cons, List.length_append, ih, s_cat_v]
    show _ = s_cat a + s_words r
    rcases s_cat_12 a with q | q <;> simp [q]
theorem s_words_app (a b : List sV) : s_words (a ++ b) = s_words a + s_words b := by
  induction a with
  | nil => simp [s_words]
  | cons x r ih => simp [s_words, ih, Nat.add_assoc]
theorem s_words_rev (a : List sV) : s_words a.reverse = s_words a := by
  induction a with
  | nil => rfl
  | cons x r ih => rw [List.reverse_cons, s_words_app, ih]; simp [s_words, Nat.add_comm]
/-- what a method is handed -/
def s_Pc (D : va_G) (tc : Nat → ClassId) (ξ : Nat → Nat) (xs : Nat → Int32) (ρ : Nat → Int) (α : Nat → Nat) (h : List sE) (as : List sV) (sz : Nat) : Array Value → State → Prop :=
  va_Pc (as.map (s_v ρ α ξ)) (fun U => U.heap.size = sz ∧ va_P D vwCl (s_h tc ρ α ξ h) U.heap ∧ va_D (fun _ => True) (s_h tc ρ α ξ h) ∧ s_Env D tc ξ xs (va_A (s_h tc ρ α ξ h) sz) U)
theorem s_Pc_blind {α : Nat → Nat} {as : List sV} {sz : Nat} : FrameBlind (s_Pc D tc ξ xs ρ α h as sz) := by
  intro a U g mk hp
  obtain ⟨h1, h2, h3, h4, h5⟩ := hp
  exact ⟨h1, h2, h3, h4, h5.go (State.WarmedH.refl U) (Nat.le_refl _) (fun _ _ _ => rfl) (fun _ q => q)⟩
/-- a method's contract, out of its run from its first row -/
theorem s_met (hl : l.stackTraces = false) {y : Nat} (hy : y < s_M) (h0 : 0 < y) {as : List sV} (hin : s_in ρ iv) (hw : s_words as ≤ (s_meta y).1) (hsnd : s_Snd l D tc ξ xs ρ y 0 (s_args 0 as) [] h iv 0 0 k) (α : Nat → Nat) (sz : Nat) :
    vx_Met l (s_y y) (s_ws y) (s_rm y) (s_Pc D tc ξ xs ρ α h as sz) (s_Qc D tc ξ ρ k (va_A (s_h tc ρ α ξ h) sz) α h.length) (s_Xc D tc ξ ρ k (va_A (s_h tc ρ α ξ h) sz) α h.length) (s_meta y).2.2.1 (s_meta y).2.2.2.1 (va_A (s_h tc ρ α ξ h) sz) := by
  have hok := s_mok_ok hy h0
  unfold s_mok at hok
  rw [Bool.and_eq_true, Bool.and_eq_true, Bool.and_eq_true, Bool.and_eq_true] at hok
  obtain ⟨-, -, o1, o2, -⟩ := hok
  have o2 := of_decide_eq_true o2
  have body : ∀ p e s m args below meth c s₁, BodyLoose p l (s_y y) (headSpec (s_ws y) (s_rm y)) (s_by y) (s_meta y).1 (s_rt y) e s m args below meth c s₁ → c.maxLocals = (s_meta y).1 → c.exceptionTable.toList = tableOf (s_hx y) → s_Pc D tc ξ xs ρ α h as sz args s →
      W p l e (headSpec (s_ws y) (s_rm y)).room s m args below meth c s.heap [] 0 0 (vx_MQ below (s_Qc D tc ξ ρ k (va_A (s_h tc ρ α ξ h) sz) α h.length) (s_Xc D tc ξ ρ k (va_A (s_h tc ρ α ξ h) sz) α h.length) args s (s_meta y).2.2.1 (s_meta y).2.2.2.1 (va_A (s_h tc ρ α ξ h) sz)) (entryFrame m args (s_meta y).1) := by
    intro p e s m args below meth c s₁ B hml htab hp
    obtain ⟨rfl, hsz, hP, hD0, hE⟩ := hp
    have hts := atoms_spec (ws := s_ws y) B.pre
    subst hsz
    have hlv := lv_entry (as.map (s_v ρ α ξ)) (n := (s_meta y).1) (by rw [s_lg_len]; exact hw)
    rw [lg_entry_eq]
    generalize (lg_sl (as.map (s_v ρ α ξ)) ++ List.replicate ((s_meta y).1 - (lg_sl (as.map (s_v ρ α ξ))).length) Slot.unset).toArray = ls at hlv ⊢
    rw [s_ll_args] at hlv
    have hf := findClass_of_methodNamed B.named
    rw [o2] at hf
    exact hsnd ⟨B.exec, B.bytes, hml, B.returns, B.notSynchronized, hf, fun w hw => hts w (List.mem_cons_of_mem _ hw), htab, (name_of_methodNamed B.named B.method).1, hl, Nat.le_refl _, Nat.le_refl _, Nat.le_refl _, Nat.le_refl _⟩ hin hE (fun q hq => Or.inr hq) hP (hD0.self) va_S.rf hlv (Nat.le_refl _) (fun _ _ => rfl)
  cases hx : s_hx y with
  | nil =>
    have hcd : s_ws y = Cond.code (s_y y) (s_by y) (s_meta y).1 (s_rt y) :: s_U := by
      unfold s_ws s_cd
      rw [hx]
    refine s_ofW o1 hcd (fun p e s m args below meth c s₁ B hml htab hp => body p e s m args below meth c s₁ B hml ?_ hp)
    rw [hx]
    cases hq : c.exceptionTable.toList with
    | nil => rfl
    | cons a r => exact absurd (htab a (by rw [hq]; exact List.mem_cons_self)) id
  | cons a r =>
    have hcd : s_ws y = Cond.codeWith (s_y y) (s_by y) (s_meta y).1 (s_rt y) (a :: r) :: s_U := by
      unfold s_ws s_cd
      rw [hx]
    refine s_ofWH o1 hcd (fun p e s m args below meth c s₁ B hml hp => body p e s m args below meth c s₁ B hml ?_ hp)
    have hts := atoms_spec (ws := s_ws y) B.pre
    rw [hx]
    exact vx_table (x := s_y y) B (hts _ (by rw [hcd]; exact List.mem_cons_self))
theorem s_A_sub {A : Nat → Prop} {s : State} {α : Nat → Nat} {H : Heap} {locs : List Loc} (hA : ∀ q, s.heap.size ≤ q → A q) (hD : va_D A (s_h tc ρ α ξ h)) (hS : va_S A s.heap H locs) : ∀ q, va_A (s_h tc ρ α ξ h) H.size q → A q := by
  intro q hq
  rcases hq with ⟨k9, e, hk⟩ | hq
  · exact hD.2 k9 _ hk
  · exact hA q (Nat.le_trans hS.1 hq)
theorem s_hand_v {hx hh : List (Nat × Nat × Nat × Nat)} {is : List Nat} {own : String} {x hp : Nat} (hx6 : x < 6) (hok : s_hok own hx hh is = true) (hf : s_hand hh pc x = some hp) {p : Program} {e : Env} {R : Room} {s : State} {m : MethodId} {args : Array Value} {below : List Frame} {meth : Method} {cc : Code} {H : Heap} {locs : List Loc} {ls : Array Slot} {cs ss : Nat} {Q : State → Prop} {rest : List Value}
    (hown : s.vm.findClass own = some m.cls) (hts : ∀ w ∈ s_U, w.before args s = true) (hEv : s_EnvV D tc ξ s) {ce : Cell} {q : Addr} (hcell : H[q]? = some ce) (hv : ce.vm = .none) (hcl : s.vm.findClass (s_exc x) = some ce.cls)
    (kk : W p l e R s m args below meth cc H locs cs ss Q (F0 m hp ls [.ref q])) (pre : List ExceptionTableEntry) (hpre : ∀ z ∈ pre, covers z pc = false ∨ (z.catchType ≠ 0 ∧ ∃ nm : String, (Cond.classLink own z.catchType nm).before args s = true ∧ va_Nc (s_exc x) nm s)) (htab : cc.exceptionTable.toList = pre ++ tableOf hx) :
    vx_W p l e R s m args below meth cc H locs cs ss Q (F0 m pc ls rest) q := by
  induction hx generalizing hh is pre with
  | nil =>
    cases hh with
    | nil => cases hf
    | cons b r2 => unfold s_hok at hok; cases hok
  | cons a r ih =>
    cases hh with
    | nil => unfold s_hok at hok; cases hok
    | cons b r2 =>
      match is, hok with
      | [], hok => unfold s_hok at hok; cases hok
      | [_], hok => unfold s_hok at hok; cases hok
      | i :: j :: is, hok =>
        unfold s_hok at hok
        rw [Bool.and_eq_true, Bool.and_eq_true, Bool.and_eq_true, Bool.and_eq_true, Bool.and_eq_true, Bool.and_eq_true, Bool.and_eq_true, Nat.blt_eq, Nat.blt_eq] at hok
        obtain ⟨a1, a2, a3, a4, a5, a6, a7, a8⟩ := hok
        have a1 := Nat.eq_of_beq_eq_true a1
        have a2 := Nat.eq_of_beq_eq_true a2
        have a3 := Nat.eq_of_beq_eq_true a3
        have hlink := hts _ (s_gat_v a6)
        have htab2 : cc.exceptionTable.toList = pre ++ (⟨a.1, a.2.1, a.2.2.1, a.2.2.2⟩ : ExceptionTableEntry) :: tableOf r := htab
        unfold s_hand at hf
        split at hf
        · next hb =>
          rw [Bool.and_eq_true, Bool.and_eq_true, Nat.blt_eq] at hb
          obtain ⟨b1, b2, b3⟩ := hb
          have b1 := Nat.le_of_ble_eq_true b1
          have b3 := Nat.eq_of_beq_eq_true b3
          cases hf
          refine vx_catch (name := s_exc x) hown pre _ _ htab2 hpre ?_ (by show a.2.2.2 ≠ 0; omega) (by rw [← b3]; exact hlink) (va_Nw.use rfl (hEv.2.1 _ (by rw [← b3]; exact s_wat_v a7) rfl)) hcell hv hcl ?_
          · show covers _ pc = true
            simp only [covers]
            simp
            omega
          · rw [← a3] at kk
            exact kk
        · next hb =>
          refine ih a8 hf (pre ++ [(⟨a.1, a.2.1, a.2.2.1, a.2.2.2⟩ : ExceptionTableEntry)]) ?_ (by rw [htab2, List.append_assoc]; rfl)
          intro z hz
          rcases List.mem_append.mp hz with hz | hz
          · exact hpre z hz
          · cases List.mem_singleton.mp hz
            by_cases hc : covers (⟨a.1, a.2.1, a.2.2.1, a.2.2.2⟩ : ExceptionTableEntry) pc = true
            · refine Or.inr ⟨by show a.2.2.2 ≠ 0; omega, _, hlink, ?_⟩
              refine hEv.2.2.2.2.2 x b.2.2.2 hx6 a5 (fun e9 => ?_)
              apply Bool.eq_false_iff.mp hb
              simp only [covers] at hc
              simp at hc
              rw [Bool.and_eq_true, Bool.and_eq_true, Nat.blt_eq]
              exact ⟨Nat.ble_eq.mpr (by omega), by omega, by rw [e9]; exact Nat.beq_refl _⟩
            · exact Or.inl (Bool.eq_false_iff.mpr hc)
end S9
