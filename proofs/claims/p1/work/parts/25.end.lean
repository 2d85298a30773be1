/-! THE CLAIM OUT OF ONE WALK OF THE LAW'S BODY. Your part is whole_start (and what it stands on); all else here is the same for every law, but numbers. -/
def R_law : String := "TaperhallLaw"
def lw_P (b : Addr) (xs : List Int32) (args : Array Value) (s : State) : Prop := args = #[.ref b] ∧ s.IntsAt b xs ∧ xs.length ≤ 6 ∧ (Jvm.Cond.and given_1 narrow_1).before args s = true
/-- what a walk over the start with the record d0 says of its end, said of the start itself -/
theorem lw_closed {s t : State} {o : Outcome} {d0 : Drawn} {L : List Loc} {k n : Nat} (hd0 : s.drawn.sameBut d0 lw_cs) (hv : ∃ v, o = .returned v) (hW : (s.setDrawn d0).WarmedH t.vm) (hs : (s.setDrawn d0).sameButNew ({ t with vm := s.vm } : State) L k n) : State.butDraws s t lw_cs (fun t1 => Framed s o t1 L k n) := by
  have h2 : t.drawn = d0 := congrArg State.drawn hs.1
  refine ⟨⟨hv, hW, State.sameButNew.setDrawn hs s.drawn⟩, ?_, by decide⟩
  rw [h2]
  exact hd0
def lw_Q (_ : Array Value) (s : State) (o : Outcome) (t : State) : Prop := o = .returned (some (.int 1)) ∧ State.butDraws s t lw_cs (fun t1 => Framed s o t1 [] 600006 7302048)
def lw_Z (below : List Frame) (a : Array Value) (s : State) : State → Prop := fun t => ∃ o, t.status = .running ∧ Ended t below o ∧ lw_Q a s o t
/-- the law's own end, with 1 on the stack, nothing written that was there before, its room as the claim has it; d0: the record of draws at this point (at the entry s.drawn: begin with 'refine W.base ?_' and 'have hd0 := Drawn.sameBut.refl s.drawn lw_cs') -/
theorem lw_ret {p : Program} {l : Launch} {e : Env} {s : State} {m : MethodId} {below : List Frame} {meth : Method} {c : Code} {b : Nat} {d0 : Drawn} (hd0 : s.drawn.sameBut d0 lw_cs) (hx : p.tables.exec = Jvm.exec) (hb : c.code = code) (hr : meth.sig.returnType = ret) (hlocks : meth.locks = false) {pc : Nat} {H : Heap} {ls : Array Slot} (hdg : decode code pc = .ok (.ireturn, 1)) : W p l e room_1 (s.setDrawn d0) m #[Value.ref b] below meth c H [] 600006 7302048 (lw_Z below #[Value.ref b] s) (F0 m pc ls [.int 1]) := by
  intro T hT X
  obtain ⟨fs, hret, hrun, hended, hW, hframe⟩ := X.leave (v := some (.int 1)) (hlocks := hlocks) (fun h => by rw [hr] at h; cases h)
  have hmeth' : T.vm.method? m = some meth := X.method'
  refine ⟨T.setFrames fs, ?_, .returned (some (.int 1)), hrun, hended, rfl, lw_closed hd0 ⟨_, rfl⟩ hW hframe⟩
  jvm_step X.here [X.here.top, hx, hb, hdg, hmeth', hr, ret, narrow_b1]
  (try refine ⟨rfl, ?_⟩); (try refine ⟨rfl, ?_⟩)
  first | (intro acts; rw [hret _ acts rfl rfl rfl]) | rw [hret _ _ rfl rfl rfl]
  exact Steps.refl _
/-- what holds at the law's entry: the machine, the code, the tables' words (any of lw_tbl by 'hts w (by decide +kernel)'), the script of L ints xs at the cell b, what the Statement gives of the start (any of its parts by flat_of_before) -/
def lw_At (p : Program) (s : State) (m : MethodId) (meth : Method) (c : Code) (b L : Nat) (xs : Nat → Int32) : Prop :=
  p.tables.exec = Jvm.exec ∧ c.code = code ∧ meth.sig.returnType = ret ∧ c.maxLocals = 9 ∧ s.vm.findClass R_law = some m.cls ∧ (∀ w ∈ lw_tbl, w.before #[Value.ref b] s = true) ∧ va_X b L xs s s.heap ∧ b < s.heap.size ∧ meth.locks = false ∧ (Jvm.Cond.and given_1 narrow_1).before #[Value.ref b] s = true
section S25
/-- what is new needn't be freed -/
theorem s_free_nil {s t : State} {L : List Loc} {k n : Nat} (hL : ∀ q ∈ L, s.heap.size ≤ q.base) (h : s.sameButNew t L k n) : s.sameButNew t [] k n := by
  obtain ⟨h1, h2, h3, h4, h5, h6⟩ := h
  refine ⟨h1, h2, h3, h4, h5, fun a c hc => ?_⟩
  obtain ⟨c', e1, e2, e3, e4⟩ := h6 a c hc
  refine ⟨c', e1, e2, e3, fun i _ => e4 i (fun hm => ?_)⟩
  have h9 : s.heap.size ≤ a := hL _ hm
  exact absurd (Array.getElem?_eq_some_iff.mp hc).1 (Nat.not_lt.mpr h9)
theorem s_end {p : Program} {l : Launch} {e : Env} {R : Room} {s : State} {m : MethodId} {args : Array Value} {below : List Frame} {meth : Method} {c : Code} {H : Heap} {locs : List Loc} {cells slots : Nat} {D : va_G} {tc : Nat → ClassId} {ξ : Nat → Nat} {ρ : Nat → Int} {α : Nat → Nat} {g : JFrame} {mc ms : Nat} (h0 : ρ 0 = 0) (hmc : mc = 600006) (hms : ms = 7302048)
    (k : W p l e R s m args below meth c H locs cells slots (vx_MQ below (s_Qc D tc ξ ρ s_fin (fun q => s.heap.size ≤ q) α 0) (s_Xc D tc ξ ρ s_fin (fun q => s.heap.size ≤ q) α 0) args s mc ms (fun q => s.heap.size ≤ q)) g) : W p l e R s m args below meth c H locs cells slots (lw_Z below args s) g := by
  subst hmc
  subst hms
  intro T hT X
  obtain ⟨t, a1, o, b1, b2, b3⟩ := k T hT X
  refine ⟨t, a1, o, b1, b2, ?_⟩
  rcases b3 with ⟨⟨⟨z, α', hz, -, -, -, ho, -, -⟩, -⟩, L, ⟨-, hW, hs⟩, hL⟩ | ⟨q, -, E, ce, L, ⟨⟨z, α', x, hz, -, -, -, hx, -⟩, -⟩, -⟩
  · unfold s_fin at hz
    rw [Bool.and_eq_true, Bool.and_eq_true, Bool.and_eq_true, Bool.and_eq_true] at hz
    obtain ⟨f1, f2, f3, f4, f5⟩ := hz
    replace f1 := Nat.eq_of_beq_eq_true f1
    replace f2 := Nat.eq_of_beq_eq_true f2
    replace f3 := s_ile_iff.mp f3
    replace f4 := s_ile_iff.mp f4
    replace f5 := Nat.eq_of_beq_eq_true f5
    rcases ho with ⟨ho, -⟩ | ⟨-, ho⟩
    · rw [ho] at f1
      cases f1
    · have hv : s_v ρ α' ξ z.2.1 = .int 1 := by
        obtain ⟨z1, ⟨v1, v2, v3⟩, z3⟩ := z
        dsimp only at f2 f3 f4 f5
        subst f2
        subst f5
        have hv2 : v2 = 1 := by omega
        subst hv2
        show Value.int (Int32.ofInt (ρ 0 + 1)) = .int 1
        rw [h0]
        rfl
      rw [hv] at ho
      subst ho
      exact ⟨rfl, lw_closed (d0 := s.drawn) (Drawn.sameBut.refl s.drawn lw_cs) ⟨_, rfl⟩ hW (s_free_nil hL hs)⟩
  · unfold s_fin at hz
    rw [Bool.and_eq_true] at hz
    have f1 := Nat.eq_of_beq_eq_true hz.1
    omega
end S25
theorem whole_start {p : Program} {e : Env} {s : State} {m : MethodId} {below : List Frame} {meth : Method} {c : Code} (l : Launch) (hflags : l.flags = flags0) {b L : Nat} {xs : Nat → Int32} (hL : L ≤ 6) (htab : c.exceptionTable.toList = []) (hname : meth.name = x.name) (C0 : lw_At p s m meth c b L xs) : W p l e room_1 s m #[Value.ref b] below meth c s.heap [] 0 0 (lw_Z below #[Value.ref b] s) (entryFrame m ([Value.ref b] : List Value).toArray 9) := by
  obtain ⟨hx, hb, hr, hml, hown, hts0, hX, hbl, hlocks, hgv⟩ := id C0
  have hts := s_hts hts0
  have hls : l.stackTraces = false := by
    unfold Launch.stackTraces
    rw [hflags]
    decide
  obtain ⟨D, tc, ξ, hξ, hE⟩ := s_env_start hts hgv hX hbl hL
  have hl := lv_entry ([.ref b]) (n := 9) (Nat.le_of_ble_eq_true rfl)
  rw [lg_entry_eq]
  generalize (lg_sl ([.ref b]) ++ List.replicate (9 - (lg_sl ([.ref b])).length) Slot.unset).toArray = ls at hl ⊢
  have hl : lv_has ls 9 [(0, .ref b)] := hl
  rw [← hξ] at hl
  have hρ := s_rho_v (xs := xs) hL
  have hin := s_in_0 (xs := xs) hL
  have hCx : s_Cx 0 p l room_1 s m #[Value.ref b] meth c := ⟨hx, hb, hml, hr, hlocks, hown, fun w hw => hts w (List.mem_filter.mp hw).1, htab, hname, hls, Nat.le_refl _, Nat.le_refl _, Nat.le_refl _, Nat.le_refl _⟩
  have go : ∀ iv : sI, s_in (s_rho L xs) iv → s_chk s_P 20000 0 0 [(0, (4, 0, 0))] [] [] iv 0 0 s_fin = true → W p l e room_1 s m #[Value.ref b] below meth c s.heap [] 0 0 (lw_Z below #[Value.ref b] s) (F0 m 0 ls []) := by
    intro iv hiv hrun
    have hall : s_All l D tc ξ (s_xs L xs) (s_rho L xs) (s_chk s_P 20000) := s_chk_snd hls hρ 20000
    have hsnd : s_Snd l D tc ξ (s_xs L xs) (s_rho L xs) 0 0 [(0, (4, 0, 0))] [] [] iv 0 0 s_fin := by
      intro p e R s m args below meth cc A α α0 b0 H locs ls X k1 k2 k3 k4 k5 k6 k7 k8 k9
      exact hall 0 0 [(0, (4, 0, 0))] [] [] iv 0 0 s_fin (by decide) hrun X k1 k2 k3 k4 k5 k6 k7 k8 k9
    exact s_end (D := D) (tc := tc) (ξ := ξ) (ρ := s_rho L xs) (α := fun _ => 0) rfl rfl rfl (hsnd (α := fun _ => 0) (α0 := fun _ => 0) (b0 := 0) (A := fun q => s.heap.size ≤ q) hCx hiv hE (fun _ h => h) (fun k q h => by simp [s_h] at h) ⟨fun i j p q h => by simp [s_h] at h, fun k q h => by simp [s_h] at h⟩ va_S.rf hl (Nat.le_refl 0) (fun _ h => absurd h (Nat.not_lt_zero _)))
  rcases Nat.lt_or_ge L 6 with h6 | h6
  · exact go _ (s_in_set hin 22 (0, 5) ⟨by show (0 : Int) ≤ (L : Int); omega, by show (L : Int) ≤ 5; omega⟩) s_run_s
  · have h22 : (6 : Int) ≤ s_rho L xs 22 ∧ s_rho L xs 22 ≤ 6 := ⟨by show (6 : Int) ≤ (L : Int); omega, by show (L : Int) ≤ 6; omega⟩
    have h2 : (-2147483648 : Int) ≤ s_rho L xs 2 ∧ s_rho L xs 2 ≤ 2147483647 := s_i_b _
    have h21 : (0 : Int) ≤ s_rho L xs 21 ∧ s_rho L xs 21 ≤ 63 := s_63_b _
    have hgo : ∀ c d : Int, c ≤ s_rho L xs 21 ∧ s_rho L xs 21 ≤ d → s_in (s_rho L xs) ((s_iv.set 21 (c, d)).set 22 (6, 6)) := fun c d h => s_in_set (s_in_set hin 21 (c, d) h) 22 (6, 6) h22
    have hc : s_rho L xs 21 = 0 ∨ s_rho L xs 21 = 1 ∨ s_rho L xs 21 = 2 ∨ s_rho L xs 21 = 3 ∨ s_rho L xs 21 = 4 ∨ s_rho L xs 21 = 5 ∨ s_rho L xs 21 = 6 ∨ s_rho L xs 21 = 7 ∨ s_rho L xs 21 = 8 ∨ s_rho L xs 21 = 9 ∨ s_rho L xs 21 = 10 ∨ s_rho L xs 21 = 11 ∨ s_rho L xs 21 = 12 ∨ s_rho L xs 21 = 13 ∨ s_rho L xs 21 = 14 ∨ s_rho L xs 21 = 15 ∨ s_rho L xs 21 = 16 ∨ s_rho L xs 21 = 17 ∨ s_rho L xs 21 = 18 ∨ s_rho L xs 21 = 19 ∨ s_rho L xs 21 = 20 ∨ s_rho L xs 21 = 21 ∨ s_rho L xs 21 = 22 ∨ s_rho L xs 21 = 23 ∨ s_rho L xs 21 = 24 ∨ s_rho L xs 21 = 25 ∨ s_rho L xs 21 = 26 ∨ s_rho L xs 21 = 27 ∨ s_rho L xs 21 = 28 ∨ s_rho L xs 21 = 29 ∨ s_rho L xs 21 = 30 ∨ s_rho L xs 21 = 31 ∨ s_rho L xs 21 = 32 ∨ s_rho L xs 21 = 33 ∨ s_rho L xs 21 = 34 ∨ s_rho L xs 21 = 35 ∨ s_rho L xs 21 = 36 ∨ s_rho L xs 21 = 37 ∨ s_rho L xs 21 = 38 ∨ s_rho L xs 21 = 39 ∨ s_rho L xs 21 = 40 ∨ s_rho L xs 21 = 41 ∨ s_rho L xs 21 = 42 ∨ s_rho L xs 21 = 43 ∨ 44 ≤ s_rho L xs 21 := by omega
    rcases hc with hc | hc | hc | hc | hc | hc | hc | hc | hc | hc | hc | hc | hc | hc | hc | hc | hc | hc | hc | hc | hc | hc | hc | hc | hc | hc | hc | hc | hc | hc | hc | hc | hc | hc | hc | hc | hc | hc | hc | hc | hc | hc | hc | hc | hc
    · exact go _ (hgo 0 0 ⟨by omega, by omega⟩) s_run_0
    · exact go _ (hgo 1 1 ⟨by omega, by omega⟩) s_run_1
    · exact go _ (hgo 2 2 ⟨by omega, by omega⟩) s_run_2
    · exact go _ (hgo 3 3 ⟨by omega, by omega⟩) s_run_3
    · exact go _ (hgo 4 4 ⟨by omega, by omega⟩) s_run_4
    · exact go _ (hgo 5 5 ⟨by omega, by omega⟩) s_run_5
    · exact go _ (hgo 6 6 ⟨by omega, by omega⟩) s_run_6
    · exact go _ (hgo 7 7 ⟨by omega, by omega⟩) s_run_7
    · exact go _ (hgo 8 8 ⟨by omega, by omega⟩) s_run_8
    · exact go _ (hgo 9 9 ⟨by omega, by omega⟩) s_run_9
    · exact go _ (hgo 10 10 ⟨by omega, by omega⟩) s_run_10
    · exact go _ (hgo 11 11 ⟨by omega, by omega⟩) s_run_11
    · exact go _ (hgo 12 12 ⟨by omega, by omega⟩) s_run_12
    · exact go _ (hgo 13 13 ⟨by omega, by omega⟩) s_run_13
    · exact go _ (hgo 14 14 ⟨by omega, by omega⟩) s_run_14
    · exact go _ (hgo 15 15 ⟨by omega, by omega⟩) s_run_15
    · exact go _ (hgo 16 16 ⟨by omega, by omega⟩) s_run_16
    · exact go _ (hgo 17 17 ⟨by omega, by omega⟩) s_run_17
    · have h18 := hgo 18 18 ⟨by omega, by omega⟩
      have hd : s_rho L xs 2 ≤ 0 ∨ s_rho L xs 2 = 1 ∨ s_rho L xs 2 = 2 ∨ s_rho L xs 2 = 3 ∨ s_rho L xs 2 = 4 ∨ s_rho L xs 2 = 5 ∨ s_rho L xs 2 = 6 ∨ s_rho L xs 2 = 7 ∨ s_rho L xs 2 = 8 ∨ s_rho L xs 2 = 9 ∨ s_rho L xs 2 = 10 ∨ s_rho L xs 2 = 11 ∨ s_rho L xs 2 = 12 ∨ s_rho L xs 2 = 13 ∨ s_rho L xs 2 = 14 ∨ s_rho L xs 2 = 15 ∨ s_rho L xs 2 = 16 ∨ s_rho L xs 2 = 17 ∨ s_rho L xs 2 = 18 ∨ s_rho L xs 2 = 19 ∨ s_rho L xs 2 = 20 ∨ s_rho L xs 2 = 21 ∨ s_rho L xs 2 = 22 ∨ s_rho L xs 2 = 23 ∨ s_rho L xs 2 = 24 ∨ s_rho L xs 2 = 25 ∨ s_rho L xs 2 = 26 ∨ s_rho L xs 2 = 27 ∨ s_rho L xs 2 = 28 ∨ s_rho L xs 2 = 29 ∨ s_rho L xs 2 = 30 ∨ 31 ≤ s_rho L xs 2 := by omega
      rcases hd with hd | hd | hd | hd | hd | hd | hd | hd | hd | hd | hd | hd | hd | hd | hd | hd | hd | hd | hd | hd | hd | hd | hd | hd | hd | hd | hd | hd | hd | hd | hd | hd
      · exact go _ (s_in_set h18 2 (-2147483648, 0) ⟨h2.1, hd⟩) s_run_18l
      · exact go _ (s_in_set h18 2 (1, 1) ⟨by show (1 : Int) ≤ s_rho L xs 2; omega, by show s_rho L xs 2 ≤ 1; omega⟩) s_run_18_1
      · exact go _ (s_in_set h18 2 (2, 2) ⟨by show (2 : Int) ≤ s_rho L xs 2; omega, by show s_rho L xs 2 ≤ 2; omega⟩) s_run_18_2
      · exact go _ (s_in_set h18 2 (3, 3) ⟨by show (3 : Int) ≤ s_rho L xs 2; omega, by show s_rho L xs 2 ≤ 3; omega⟩) s_run_18_3
      · exact go _ (s_in_set h18 2 (4, 4) ⟨by show (4 : Int) ≤ s_rho L xs 2; omega, by show s_rho L xs 2 ≤ 4; omega⟩) s_run_18_4
      · exact go _ (s_in_set h18 2 (5, 5) ⟨by show (5 : Int) ≤ s_rho L xs 2; omega, by show s_rho L xs 2 ≤ 5; omega⟩) s_run_18_5
      · exact go _ (s_in_set h18 2 (6, 6) ⟨by show (6 : Int) ≤ s_rho L xs 2; omega, by show s_rho L xs 2 ≤ 6; omega⟩) s_run_18_6
      · exact go _ (s_in_set h18 2 (7, 7) ⟨by show (7 : Int) ≤ s_rho L xs 2; omega, by show s_rho L xs 2 ≤ 7; omega⟩) s_run_18_7
      · exact go _ (s_in_set h18 2 (8, 8) ⟨by show (8 : Int) ≤ s_rho L xs 2; omega, by show s_rho L xs 2 ≤ 8; omega⟩) s_run_18_8
      · exact go _ (s_in_set h18 2 (9, 9) ⟨by show (9 : Int) ≤ s_rho L xs 2; omega, by show s_rho L xs 2 ≤ 9; omega⟩) s_run_18_9
      · exact go _ (s_in_set h18 2 (10, 10) ⟨by show (10 : Int) ≤ s_rho L xs 2; omega, by show s_rho L xs 2 ≤ 10; omega⟩) s_run_18_10
      · exact go _ (s_in_set h18 2 (11, 11) ⟨by show (11 : Int) ≤ s_rho L xs 2; omega, by show s_rho L xs 2 ≤ 11; omega⟩) s_run_18_11
      · exact go _ (s_in_set h18 2 (12, 12) ⟨by show (12 : Int) ≤ s_rho L xs 2; omega, by show s_rho L xs 2 ≤ 12; omega⟩) s_run_18_12
      · exact go _ (s_in_set h18 2 (13, 13) ⟨by show (13 : Int) ≤ s_rho L xs 2; omega, by show s_rho L xs 2 ≤ 13; omega⟩) s_run_18_13
      · exact go _ (s_in_set h18 2 (14, 14) ⟨by show (14 : Int) ≤ s_rho L xs 2; omega, by show s_rho L xs 2 ≤ 14; omega⟩) s_run_18_14
      · exact go _ (s_in_set h18 2 (15, 15) ⟨by show (15 : Int) ≤ s_rho L xs 2; omega, by show s_rho L xs 2 ≤ 15; omega⟩) s_run_18_15
      · exact go _ (s_in_set h18 2 (16, 16) ⟨by show (16 : Int) ≤ s_rho L xs 2; omega, by show s_rho L xs 2 ≤ 16; omega⟩) s_run_18_16
      · exact go _ (s_in_set h18 2 (17, 17) ⟨by show (17 : Int) ≤ s_rho L xs 2; omega, by show s_rho L xs 2 ≤ 17; omega⟩) s_run_18_17
      · exact go _ (s_in_set h18 2 (18, 18) ⟨by show (18 : Int) ≤ s_rho L xs 2; omega, by show s_rho L xs 2 ≤ 18; omega⟩) s_run_18_18
      · exact go _ (s_in_set h18 2 (19, 19) ⟨by show (19 : Int) ≤ s_rho L xs 2; omega, by show s_rho L xs 2 ≤ 19; omega⟩) s_run_18_19
      · exact go _ (s_in_set h18 2 (20, 20) ⟨by show (20 : Int) ≤ s_rho L xs 2; omega, by show s_rho L xs 2 ≤ 20; omega⟩) s_run_18_20
      · exact go _ (s_in_set h18 2 (21, 21) ⟨by show (21 : Int) ≤ s_rho L xs 2; omega, by show s_rho L xs 2 ≤ 21; omega⟩) s_run_18_21
      · exact go _ (s_in_set h18 2 (22, 22) ⟨by show (22 : Int) ≤ s_rho L xs 2; omega, by show s_rho L xs 2 ≤ 22; omega⟩) s_run_18_22
      · exact go _ (s_in_set h18 2 (23, 23) ⟨by show (23 : Int) ≤ s_rho L xs 2; omega, by show s_rho L xs 2 ≤ 23; omega⟩) s_run_18_23
      · exact go _ (s_in_set h18 2 (24, 24) ⟨by show (24 : Int) ≤ s_rho L xs 2; omega, by show s_rho L xs 2 ≤ 24; omega⟩) s_run_18_24
      · exact go _ (s_in_set h18 2 (25, 25) ⟨by show (25 : Int) ≤ s_rho L xs 2; omega, by show s_rho L xs 2 ≤ 25; omega⟩) s_run_18_25
      · exact go _ (s_in_set h18 2 (26, 26) ⟨by show (26 : Int) ≤ s_rho L xs 2; omega, by show s_rho L xs 2 ≤ 26; omega⟩) s_run_18_26
      · exact go _ (s_in_set h18 2 (27, 27) ⟨by show (27 : Int) ≤ s_rho L xs 2; omega, by show s_rho L xs 2 ≤ 27; omega⟩) s_run_18_27
      · exact go _ (s_in_set h18 2 (28, 28) ⟨by show (28 : Int) ≤ s_rho L xs 2; omega, by show s_rho L xs 2 ≤ 28; omega⟩) s_run_18_28
      · exact go _ (s_in_set h18 2 (29, 29) ⟨by show (29 : Int) ≤ s_rho L xs 2; omega, by show s_rho L xs 2 ≤ 29; omega⟩) s_run_18_29
      · exact go _ (s_in_set h18 2 (30, 30) ⟨by show (30 : Int) ≤ s_rho L xs 2; omega, by show s_rho L xs 2 ≤ 30; omega⟩) s_run_18_30
      · exact go _ (s_in_set h18 2 (31, 2147483647) ⟨hd, h2.2⟩) s_run_18h
    · exact go _ (hgo 19 19 ⟨by omega, by omega⟩) s_run_19
    · exact go _ (hgo 20 20 ⟨by omega, by omega⟩) s_run_20
    · exact go _ (hgo 21 21 ⟨by omega, by omega⟩) s_run_21
    · exact go _ (hgo 22 22 ⟨by omega, by omega⟩) s_run_22
    · exact go _ (hgo 23 23 ⟨by omega, by omega⟩) s_run_23
    · exact go _ (hgo 24 24 ⟨by omega, by omega⟩) s_run_24
    · exact go _ (hgo 25 25 ⟨by omega, by omega⟩) s_run_25
    · exact go _ (hgo 26 26 ⟨by omega, by omega⟩) s_run_26
    · exact go _ (hgo 27 27 ⟨by omega, by omega⟩) s_run_27
    · exact go _ (hgo 28 28 ⟨by omega, by omega⟩) s_run_28
    · exact go _ (hgo 29 29 ⟨by omega, by omega⟩) s_run_29
    · exact go _ (hgo 30 30 ⟨by omega, by omega⟩) s_run_30
    · exact go _ (hgo 31 31 ⟨by omega, by omega⟩) s_run_31
    · exact go _ (hgo 32 32 ⟨by omega, by omega⟩) s_run_32
    · exact go _ (hgo 33 33 ⟨by omega, by omega⟩) s_run_33
    · exact go _ (hgo 34 34 ⟨by omega, by omega⟩) s_run_34
    · exact go _ (hgo 35 35 ⟨by omega, by omega⟩) s_run_35
    · exact go _ (hgo 36 36 ⟨by omega, by omega⟩) s_run_36
    · exact go _ (hgo 37 37 ⟨by omega, by omega⟩) s_run_37
    · exact go _ (hgo 38 38 ⟨by omega, by omega⟩) s_run_38
    · exact go _ (hgo 39 39 ⟨by omega, by omega⟩) s_run_39
    · exact go _ (hgo 40 40 ⟨by omega, by omega⟩) s_run_40
    · exact go _ (hgo 41 41 ⟨by omega, by omega⟩) s_run_41
    · exact go _ (hgo 42 42 ⟨by omega, by omega⟩) s_run_42
    · exact go _ (hgo 43 43 ⟨by omega, by omega⟩) s_run_43
    · exact go _ (hgo 44 63 ⟨hc, h21.2⟩) s_run_x
set_option maxHeartbeats 4000000 in
theorem lw_walk (l : Launch) (hflags : l.flags = flags0) (b : Addr) (xs : List Int32) : MetFree l x (headSpec (Jvm.Cond.code x code maxLocals ret :: tables_1) room_1) (lw_P b xs) (fun _ _ _ _ _ => True) lw_Q := by
  refine MetFree.of_bodyS (code := code) (maxLocals := maxLocals) (ret := ret) (by decide) ?_ ?_
  · intro args s m h hn
    obtain ⟨meth, c, h1, h2, h3, h4, h5, h6, -, -⟩ := Cond.code_spec hn (atoms_spec (ws := Jvm.Cond.code x code maxLocals ret :: tables_1) h _ List.mem_cons_self)
    exact ⟨meth, c, h1, h2, h3, h4, h5, h6⟩
  · intro p e s m args below meth c s₁ B hml0 hP _
    obtain ⟨rfl, hx, hbd, hgv⟩ := hP
    obtain ⟨scr, harrAt, hlist, hof, hsmall⟩ := hx
    obtain ⟨hcb, hkn, -, -⟩ := State.arrayAt?_spec harrAt
    have hown : s.vm.findClass R_law = some m.cls := findClass_of_methodNamed B.named
    have hts0 : ∀ c ∈ (Jvm.Cond.code x code maxLocals ret :: tables_1), c.before #[Value.ref b] s = true := atoms_spec (ws := Jvm.Cond.code x code maxLocals ret :: tables_1) B.pre
    have hts : ∀ w ∈ lw_tbl, w.before #[Value.ref b] s = true := k2_hts_sels lw_privs (fun w hw => hts0 w (List.mem_cons_of_mem _ hw)) lw_privs_ok
    have hml : c.maxLocals = 9 := B.maxLocals_eq (hts0 _ List.mem_cons_self)
    have X₀ : Stand p l e room_1 s m #[Value.ref b] below meth c s₁ [] 0 0 := Stand.of_body B
    have hh0 : s₁.heap = s.heap := by rw [B.state]; rfl
    have hsz : scr.slots.size = xs.length := by rw [← Array.length_toList, hlist, List.length_map]
    have hval : ∀ j : Nat, j < xs.length → scr.slots[j]? = some (.int (xs.getD j 0)) := fun j hj => by
      rw [← Array.getElem?_toList, hlist]
      simp [hj]
    have hbl : b < s.heap.size := (Array.getElem?_eq_some_iff.mp hcb).1
    have hX : va_X b xs.length (fun j => xs.getD j 0) s s.heap := ⟨scr, hcb, hof, hkn, hsz, hval⟩
    have K : W p l e room_1 s m #[Value.ref b] below meth c s₁.heap [] 0 0 (lw_Z below #[Value.ref b] s) (entryFrame m ([Value.ref b] : List Value).toArray 9) := by
      rw [hh0]
      have htab : c.exceptionTable.toList = [] := by
        obtain ⟨meth9, c9, h1, h2, -, -, -, -, h7, -⟩ := Cond.code_spec B.named (hts0 _ List.mem_cons_self)
        cases Option.some.inj (h1.symm.trans B.method)
        cases Option.some.inj (h2.symm.trans (Stand.of_body B).code)
        rw [Array.isEmpty_iff.mp h7]
      exact whole_start l hflags hbd htab (name_of_methodNamed B.named B.method).1 ⟨B.exec, B.bytes, B.returns, hml, hown, hts, hX, hbl, B.notSynchronized, hgv⟩
    obtain ⟨t, a1, o, b1, b2, b3⟩ := K s₁ rfl X₀
    exact ⟨t, o, a1, b1, b2, b3⟩
theorem lw_pre_spec {args : Array Value} {s : State} (h : (Jvm.Cond.and given_1 narrow_1).before args s = true) (hr : rest_1_c.before args s = true) : ∃ (b : Addr) (xs : List Int32), lw_P b xs args s := by
  have hs := flat_of_before _ h
  have hq := flat_of_before _ hr
  have hc : (Cond.count 1).before args s = true := hs _ (by decide +kernel)
  have harr : (Cond.arrayOf (.arg 0) .int).before args s = true := hs _ (by decide +kernel)
  have hle : (Cond.le (.length (.arg 0)) (.int 6)).before args s = true := hs _ (by decide +kernel)
  have hlen : (Cond.isInt (.length (.arg 0))).before args s = true := hq _ (by decide +kernel)
  have hall : (Cond.all (.arg 0) (.isInt (.elem (.arg 0) (.index 0)))).before args s = true := hq _ (by decide +kernel)
  obtain ⟨b, xs, hb, hx⟩ := State.ints_of_pre rfl harr hlen hall
  have hsm : xs.length < 2 ^ 31 := hx.choose_spec.2.2.2
  have hev : (Term.length (.arg 0)).eval args s none [] s = some (.int xs.length.toInt32) := hx.length_eval hb
  have hv := Cond.le_ints hev (show (Term.int 6).eval args s none [] s = some (.int 6) from rfl)
  have hd : xs.length.toInt32 ≤ 6 := by
    simpa [Cond.before, Cond.holds, hv] using hle
  have hN : xs.length ≤ 6 := (Int32.ofNat_le_ofNat hsm (by decide)).mp (show Int32.ofNat xs.length ≤ Int32.ofNat 6 from hd)
  exact ⟨b, xs, Cond.one_arg hc (show args[0]? = some (.ref b) from hb), hx, hN, h⟩
theorem lw_comes (l : Launch) (hflags : l.flags = flags0) : Comes l x (Jvm.Cond.code x code maxLocals ret :: tables_1) room_1 (fun tb e args s => Calls_1 tb e args s ∧ rest_1 tb e args s ∧ Pre_1 tb e args s)
    (fun _ _ args s o t => lw_Q args s o t) := by
  intro p e ha hc hk s m args below hf hfit hheap happ hpre
  obtain ⟨b, xs, hP⟩ := lw_pre_spec hpre.2.2 hpre.2.1
  obtain ⟨k, o, h1, h2, h3, hQ⟩ := lw_walk l hflags b xs p e ha hc hk s m args below hf ((Spec.applies_iff_loose hf).mp happ).1 hP trivial
  exact ⟨k, o, h1, h2, h3, hQ⟩
theorem lw_frame {s t : State} {o : Outcome} {args : Array Value} (h : State.butDraws s t lw_cs (fun t1 => Framed s o t1 [] 600006 7302048)) :
    State.butDraws s t [Jvm.Choice.named "NaN.bits"] (fun t1 => Framed s o t1 (fieldLocs frame_1_writes args s ++ arrayLocs frame_1_arrays args s ++ staticLocs frame_1_statics s) 600006 7302048) := h
theorem lw_limb (L : Cond) (hL : ∀ (args : Array Value) (s t : State), L.after args s (.returned (some (.int 1))) t = true) :
    ArmFor flags0 classFile x code maxLocals ret World_1 tables_1 room_1 Calls_1 rest_1 Pre_1
      (fun tb e a s o t => postC L tb e a s o t ∧ State.butDraws s t [Jvm.Choice.named "NaN.bits"] (fun t1 => Framed s o t1 (fieldLocs frame_1_writes a s ++ arrayLocs frame_1_arrays a s ++ staticLocs frame_1_statics s) 600006 7302048)) := by
  intro l hflags _ _ p e ha hc hk s m args below hf hfit hheap happ hpre
  obtain ⟨k, o, h1, h2, h3, rfl, hF⟩ := lw_comes l hflags p e ha hc hk s m args below hf hfit hheap happ hpre
  exact ⟨k, _, h1, h2, h3, hL args s _, lw_frame hF⟩
theorem i_vc : Claimed_1_1 ∧ Claimed_1_2 := ⟨lw_limb limb_1_1 (fun args s t => by simp [limb_1_1, Cond.after, Cond.holds, Cond.value]), lw_limb limb_1_2 (fun args s t => Cond.after_iff.mpr (by
  first | (rw [show limb_1_2 = Cond.eq .result (.int 1) from rfl, Cond.eq_ints (x := 1) (y := 1) rfl rfl]; simp; done) | (simp [limb_1_2, Cond.value, Term.eval]; done)))⟩
