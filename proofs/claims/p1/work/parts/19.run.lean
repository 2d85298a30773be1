section S10
variable {l : Launch} {D : va_G} {tc : Nat → ClassId} {ξ : Nat → Nat} {xs : Nat → Int32} {ρ : Nat → Int} {f : sF}
variable {mi pc npc : Nat} {lo : sL} {st : List sV} {h : List sE} {iv : sI} {c n : Nat} {k : sZ → Bool}
theorem s_hx_ok {mi : Nat} (hm : mi < s_M) : s_hok (s_own mi) (s_hx mi) (s_meta mi).2.2.2.2.2 (s_hw mi) = true := by
  rcases Nat.eq_zero_or_pos mi with rfl | h0
  · decide +kernel
  · have hok := s_mok_ok hm h0
    unfold s_mok at hok
    rw [Bool.and_eq_true, Bool.and_eq_true, Bool.and_eq_true, Bool.and_eq_true, Bool.and_eq_true] at hok
    exact hok.2.2.2.2.1
theorem s_hok_nil {own : String} : ∀ {hx : List (Nat × Nat × Nat × Nat)} {is : List Nat}, s_hok own hx [] is = true → hx = []
  | [], _, _ => rfl
  | _ :: _, _, h => by cases h
/-- behind a call: both ways go on -/
theorem s_after (hih : s_All l D tc ξ xs ρ f) (hm : mi < s_M) {cy ny : Nat} {rest : List sV} (hrest : rest.all (s_okV h.length) = true) (hlo : lo.all (fun q => s_okV h.length q.2) = true) (hc : cy ≤ (s_meta mi).2.2.1) (hnn : ny ≤ (s_meta mi).2.2.2.1)
    {p : Program} {e : Env} {R : Room} {s : State} {m : MethodId} {args : Array Value} {below : List Frame} {meth : Method} {cc : Code} {A : Nat → Prop} {α α0 : Nat → Nat} {b0 : Nat} {H : Heap} {locs : List Loc} {ls : Array Slot}
    (X : s_Cx mi p l R s m args meth cc) (hin : s_in ρ iv) (hE : s_Env D tc ξ xs A s) (hA : ∀ q, s.heap.size ≤ q → A q) (hD : va_D A (s_h tc ρ α ξ h)) (hS : va_S A s.heap H locs) (hl : lv_has ls (s_meta mi).1 (s_ll ρ α ξ lo)) (hb0 : b0 ≤ h.length) (hag : s_ag α0 α b0)
    {a : Array Value} {st0 : List Value} {mc ms ln : Nat} (hcy : c + mc = cy) (hny : n + ms = ny)
    (hr : ∀ T : State, T.heap = H → Stand p l e R s m args below meth cc T locs c n →
      (∃ (v : Option Value) (st₀ t T' : State) (L : List Loc), st₀.heap = H ∧ Stand p l e R s m args below meth cc T' (locs ++ L) (c + mc) (n + ms) ∧ (∀ q ∈ L, va_A (s_h tc ρ α ξ h) H.size q.base) ∧ T'.heap = t.heap ∧ T'.vm = t.vm ∧ s_Qc D tc ξ ρ (s_back f s_P mi pc npc lo rest cy ny k) (va_A (s_h tc ρ α ξ h) H.size) α h.length a st₀ (.returned v) t ∧
        Goes p e below T (F0 m pc ls st0) T' { F0 m pc ls st0 with pc := (F0 m pc ls st0).pc + ln, stack := v.toList ++ rest.map (s_v ρ α ξ) }) ∨
      (∃ (q : Addr) (st₀ t T' : State) (L : List Loc) (E : String) (ce : Cell), st₀.heap = H ∧ Stand p l e R s m args below meth cc T' (locs ++ L) (c + mc) (n + ms) ∧ (∀ z ∈ L, va_A (s_h tc ρ α ξ h) H.size z.base) ∧ T'.heap = t.heap ∧ T'.vm = t.vm ∧ s_Xc D tc ξ ρ (s_back f s_P mi pc npc lo rest cy ny k) (va_A (s_h tc ρ α ξ h) H.size) α h.length E st₀ t ∧ t.heap[q]? = some ce ∧ ce.vm = .none ∧ s.vm.findClass E = some ce.cls ∧
        Steps p.tables e below (T.setTop (F0 m pc ls st0)) ((T'.setTop { F0 m pc ls st0 with stack := rest.map (s_v ρ α ξ) }).pushFrame (.throwing q))))
    (hnpc : npc = pc + ln) :
    W p l e R s m args below meth cc H locs c n (vx_MQ below (s_Qc D tc ξ ρ k A α0 b0) (s_Xc D tc ξ ρ k A α0 b0) args s (s_meta mi).2.2.1 (s_meta mi).2.2.2.1 A) (F0 m pc ls st0) := by
  have hAB := s_A_sub hA hD hS
  subst hcy
  subst hny
  intro T hT X9
  rcases hr T hT X9 with ⟨v, st₀, t, T', L, h0, X', hL, e1, e2, ⟨⟨z, α', z1, z2, z3, z4, z5, z6, z7⟩, hF⟩, st9⟩ | ⟨q, st₀, t, T', L, E, ce, h0, X', hL, e1, e2, ⟨⟨z, α', x, z1, z2, z3, z4, z5, zE, z6, z7⟩, hF⟩, hce, hcv, hcl, st9⟩
  · obtain ⟨k1, k2, k3⟩ := vx_keep h0 e1 hS (fun q _ => hAB q) hAB hL hF
    have hP' : va_P D vwCl (s_h tc ρ α' ξ z.2.2.1) T'.heap := by rw [e1]; exact z6
    have hD' : va_D A (s_h tc ρ α' ξ z.2.2.1) := z7.weaken fun _ _ _ q9 => hAB _ q9
    have hag' : s_ag α0 α' b0 := fun j hj => by rw [z3 j (by omega)]; exact hag j hj
    have hl' : lv_has ls (s_meta mi).1 (s_ll ρ α' ξ lo) := by rw [s_ll_v z3 hlo]; exact hl
    have hst := s_st_v (ρ := ρ) (ξ := ξ) z3 hrest
    obtain ⟨zk, zv, zh, zi⟩ := z
    dsimp only at z1 z2 z4 z5 hP' hD'
    rcases z5 with ⟨rfl, hv⟩ | ⟨rfl, hv⟩
    · cases hv
      have z1 : f mi npc lo rest zh zi (c + mc) (n + ms) k = true := z1
      obtain ⟨t2, a1, b1⟩ := hih mi npc lo rest zh zi _ _ k hm z1 X z2 hE hA hP' hD' k3 hl' (by omega) hag' T' rfl X'
      rw [hst, hnpc] at a1
      exact ⟨t2, st9 t2 a1, b1⟩
    · cases hv
      have z1 : f mi npc lo (zv :: rest) zh zi (c + mc) (n + ms) k = true := z1
      obtain ⟨t2, a1, b1⟩ := hih mi npc lo (zv :: rest) zh zi _ _ k hm z1 X z2 hE hA hP' hD' k3 hl' (by omega) hag' T' rfl X'
      rw [List.map_cons, hst, hnpc] at a1
      exact ⟨t2, st9 t2 a1, b1⟩
  · obtain ⟨k1, k2, k3⟩ := vx_keep h0 e1 hS (fun q _ => hAB q) hAB hL hF
    have hP' : va_P D vwCl (s_h tc ρ α' ξ z.2.2.1) T'.heap := by rw [e1]; exact z6
    have hD' : va_D A (s_h tc ρ α' ξ z.2.2.1) := z7.weaken fun _ _ _ q9 => hAB _ q9
    have hag' : s_ag α0 α' b0 := fun j hj => by rw [z3 j (by omega)]; exact hag j hj
    obtain ⟨zk, zv, zh, zi⟩ := z
    dsimp only at z1 z2 z4 z5 hP' hD'
    subst z5
    subst zE
    have hce' : T'.heap[q]? = some ce := by rw [e1]; exact hce
    have z1 : (match (s_P.2.1 mi).2.2.2.2.2 with
      | [] => k (x + 2, (2, 0, 0), zh, zi)
      | hh => match s_hand hh pc x with
        | some hp => Nat.blt x 6 && s_ok lo [] zh && (Nat.ble zh.length 1000000 && f mi hp lo [(3, 0, 1000000)] zh zi (c + mc) (n + ms) k)
        | none => false) = true := z1
    have hok := s_hx_ok hm
    split at z1
    · next hn9 =>
      have hn9 : (s_meta mi).2.2.2.2.2 = [] := hn9
      rw [hn9] at hok
      have hx0 := s_hok_nil hok
      have key := vx_out (Qc := s_Qc D tc ξ ρ k A α0 b0) (XC := s_Xc D tc ξ ρ k A α0 b0) (free := A) (mc := (s_meta mi).2.2.1) (ms := (s_meta mi).2.2.2.1) (below := below) (p := p) (l := l) (e := e) (R := R) (s := s) (m := m) (args := args) (meth := meth) (c := cc) (H := T'.heap) (locs := locs ++ L) (cells := c + mc) (slots := n + ms) (pc := pc) (ls := ls) (rest := rest.map (s_v ρ α ξ)) (E := s_exc x) (ce := ce) (q := q) (by rw [X.2.2.2.2.2.2.2.1, hx0]; exact fun z hz => absurd hz (by simp [tableOf])) X.2.2.2.2.1 hce' hcv hcl (fun t9 ht9 _ => ⟨⟨_, α', x, z1, z2, hag', Nat.le_trans hb0 z4, rfl, rfl, by rw [ht9]; exact hP', hD'⟩, k3.F ht9⟩) k3.2.2 hc hnn
      obtain ⟨t2, a1, b1⟩ := key T' rfl X'
      exact ⟨t2, st9.trans a1, b1⟩
    · split at z1
      · next hp hp9 =>
        rw [Bool.and_eq_true, Bool.and_eq_true, Bool.and_eq_true] at z1
        obtain ⟨⟨q6, q0⟩, q1, q2⟩ := z1
        rw [Nat.blt_eq] at q6
        have q1 := Nat.le_of_ble_eq_true q1
        unfold s_ok at q0
        rw [Bool.and_eq_true, Bool.and_eq_true] at q0
        obtain ⟨o1, -, o3⟩ := q0
        have ha : s_ag α' (va_up α' 1000000 q) zh.length := fun j hj => va_up_ne α' q (by omega)
        have hh1 := s_h_v (tc := tc) (ρ := ρ) (ξ := ξ) ha o3
        have kk := hih mi hp lo [(3, 0, 1000000)] zh zi _ _ k hm q2 X z2 hE hA (by rw [hh1]; exact hP') (by rw [hh1]; exact hD') k3 (α := va_up α' 1000000 q) (ls := ls) (e := e) (below := below) (α0 := α0) (b0 := b0) (by rw [s_ll_v ha o1, s_ll_v z3 hlo]; exact hl) (by omega) (fun j hj => by rw [va_up_ne α' q (by omega)]; exact hag' j hj)
        have e9 : ([(3, 0, 1000000)] : List sV).map (s_v ρ (va_up α' 1000000 q) ξ) = [.ref q] := by
          show [Value.ref (va_up α' 1000000 q 1000000)] = _
          rw [va_up_self]
        rw [e9] at kk
        have key := s_hand_v (rest := rest.map (s_v ρ α ξ)) q6 hok hp9 X.2.2.2.2.2.1 X.2.2.2.2.2.2.1 hE.1 hce' hcv hcl kk [] (fun z hz => absurd hz List.not_mem_nil) (by rw [X.2.2.2.2.2.2.2.1]; rfl)
        obtain ⟨t2, a1, b1⟩ := key T' rfl X'
        exact ⟨t2, st9.trans a1, b1⟩
      · cases z1
end S10
