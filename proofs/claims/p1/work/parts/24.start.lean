/-! THE START: what the law's entry gives the runner -/
section S24
/-- a part of a conjunction, by its road -/
def s_pk : List Bool → Cond → Option Cond
  | [], T => some T
  | false :: r, .and a _ => s_pk r a
  | true :: r, .and _ b => s_pk r b
  | _ :: _, _ => none
theorem s_pk_v {args : Array Value} {s : State} : ∀ {r : List Bool} {T w : Cond}, s_pk r T = some w → T.before args s = true → w.before args s = true
  | [], T, w, h, hT => by
    unfold s_pk at h
    cases h
    exact hT
  | b :: r, T, w, h, hT => by
    unfold s_pk at h
    split at h
    · next e => cases e
    · next e =>
      cases e
      rw [Cond.before_and, Bool.and_eq_true] at hT
      exact s_pk_v h hT.1
    · next e =>
      cases e
      rw [Cond.before_and, Bool.and_eq_true] at hT
      exact s_pk_v h hT.2
    · cases h
def s_uw : List (Nat × List Nat) := [(722, [724, 726, 1945, 1947]), (1534, [1556, 1558, 1560, 1562]), (2042, [2051]), (2060, [2066]), (2415, [2421]), (949, [956, 957, 958, 959, 960, 961]), (1812, [1951, 1952, 1953, 1954, 1955, 1956]), (1640, [1649, 1651, 1653, 1655]), (177, [202, 198, 200]), (774, [921, 923, 925, 927, 929, 931, 933, 935, 937, 939, 941]), (776, [800, 802, 804, 806, 808, 810, 812, 814, 816, 818, 820]), (171, [206]), (427, [836, 838, 840]), (861, [879, 881, 883, 885, 887, 889, 891, 893, 895]), (844, [853, 855, 857]), (210, [222, 224, 226, 228, 230, 232]), (525, [538, 540, 542, 544, 546]), (269, [283, 285, 287, 289, 291, 293]), (240, [255, 257, 259, 261, 263, 265]), (163, [307, 309, 311, 313, 315, 317, 319, 321, 323, 325, 327]), (2082, [2138, 2140, 2142, 2144, 2146, 2148, 2150, 2152, 2154, 2156, 2158, 2160, 2162, 2164, 2166, 2168, 2170, 2172, 2174, 2176, 2178, 2180, 2182, 2184, 2186, 2188, 2190]), (1603, [1612]), (1526, [1574, 1576, 1578, 1580, 1582, 1584, 1586, 1588, 1590])]
def s_uok (ci : Nat) : Bool := match vwCl[ci]? with
  | some r => match s_uw[ci]? with
    | some q => s_wat q.1 (.instantiable r.1 r.2.2) && s_pre (u_ws r.1 r.2.1 r.2.2) q.2
    | none => false
  | none => false
theorem s_uok_0 : (List.range 9).all (fun i => s_uok (i + 0)) = true := by decide +kernel
theorem s_uok_1 : (List.range 6).all (fun i => s_uok (i + 9)) = true := by decide +kernel
theorem s_uok_2 : (List.range 5).all (fun i => s_uok (i + 15)) = true := by decide +kernel
theorem s_uok_3 : (List.range 1).all (fun i => s_uok (i + 20)) = true := by decide +kernel
theorem s_uok_4 : (List.range 2).all (fun i => s_uok (i + 21)) = true := by decide +kernel
theorem s_uoks {ci : Nat} (h : ci < 23) : s_uok ci = true := by
  have hc : (0 ≤ ci ∧ ci < 9) ∨ (9 ≤ ci ∧ ci < 15) ∨ (15 ≤ ci ∧ ci < 20) ∨ (20 ≤ ci ∧ ci < 21) ∨ (21 ≤ ci ∧ ci < 23) := by omega
  rcases hc with hc | hc | hc | hc | hc
  · have h9 : s_uok (ci - 0 + 0) = true := List.all_eq_true.mp s_uok_0 (ci - 0) (List.mem_range.mpr (by omega))
    rwa [show ci - 0 + 0 = ci by omega] at h9
  · have h9 : s_uok (ci - 9 + 9) = true := List.all_eq_true.mp s_uok_1 (ci - 9) (List.mem_range.mpr (by omega))
    rwa [show ci - 9 + 9 = ci by omega] at h9
  · have h9 : s_uok (ci - 15 + 15) = true := List.all_eq_true.mp s_uok_2 (ci - 15) (List.mem_range.mpr (by omega))
    rwa [show ci - 15 + 15 = ci by omega] at h9
  · have h9 : s_uok (ci - 20 + 20) = true := List.all_eq_true.mp s_uok_3 (ci - 20) (List.mem_range.mpr (by omega))
    rwa [show ci - 20 + 20 = ci by omega] at h9
  · have h9 : s_uok (ci - 21 + 21) = true := List.all_eq_true.mp s_uok_4 (ci - 21) (List.mem_range.mpr (by omega))
    rwa [show ci - 21 + 21 = ci by omega] at h9
theorem s_kn {s : State} {args : Array Value} (hts : ∀ w ∈ s_tbl, w.before args s = true) {ci : Nat} {r : vw_C} (hr : vwCl[ci]? = some r) : ∃ (cC : ClassId) (iS : Nat → Nat), u_Kn s r.1 r.2.1 r.2.2 cC iS := by
  have h := s_uoks (ci := ci) ((List.getElem?_eq_some_iff.mp hr).1)
  unfold s_uok at h
  rw [hr] at h
  dsimp only at h
  split at h
  · next q hq =>
    rw [Bool.and_eq_true] at h
    exact u_known hts (fun w hw => (List.mem_filter.mp (s_pre_v h.2 w hw)).1) (hts _ (s_wat_v h.1))
  · cases h
theorem s_knD {s : State} {args : Array Value} (hts : ∀ w ∈ s_tbl, w.before args s = true) : ∃ D : va_G, ∀ (c : Nat) (q : vw_C), vwCl[c]? = some q → u_Kn s q.1 q.2.1 q.2.2 (D.1 c) (D.2 c) := by
  have h0 : ∀ c : Nat, ∃ z : ClassId × (Nat → Nat), ∀ q : vw_C, vwCl[c]? = some q → u_Kn s q.1 q.2.1 q.2.2 z.1 z.2 := by
    intro c
    cases hq : vwCl[c]? with
    | none => exact ⟨((0 : Nat), fun _ => 0), fun q h => by cases h⟩
    | some r =>
      obtain ⟨cC, iS, h⟩ := s_kn hts hq
      exact ⟨(cC, iS), fun q e => by cases e; exact h⟩
  obtain ⟨f, hf⟩ := Classical.axiomOfChoice h0
  exact ⟨(fun c => (f c).1, fun c => (f c).2), fun c q hq => hf c q hq⟩
theorem s_tyO {s : State} {args : Array Value} (h : (Cond.arrayOver (.object "java/lang/Object")).before args s = true) : ∃ cA : ClassId, ArrOfT s cA (.object "java/lang/Object") ∧ va_RA s cA (.object "java/lang/Object") := by
  obtain ⟨comp, cA, kA, f1, -, f2, f3, f4⟩ := Cond.arrayOver_spec h
  exact ⟨cA, fun n z => ⟨(fun k h => by cases h), kA, f2, comp, f3⟩, kA, comp, f2, f3, f1, f4⟩
theorem s_ty_int {s : State} {args : Array Value} (h : (Cond.arrayClass .int).before args s = true) : ∃ cA : ClassId, ArrOfT s cA .int ∧ va_RA s cA .int := by
  obtain ⟨cA, kA, comp, h1, h2, h3⟩ := Cond.arrayClass_spec h
  exact ⟨cA, fun n z => ⟨(fun k h => by cases h), kA, h2, comp, h3⟩, h1⟩
theorem s_ty_char {s : State} {args : Array Value} (h : (Cond.arrayClass .char).before args s = true) : ∃ cA : ClassId, ArrOfT s cA .char ∧ va_RA s cA .char := by
  obtain ⟨cA, kA, comp, h1, h2, h3⟩ := Cond.arrayClass_spec h
  exact ⟨cA, fun n z => ⟨(fun k h => by cases h), kA, h2, comp, h3⟩, h1⟩
theorem s_ty_byte {s : State} {args : Array Value} (h : (Cond.arrayClass .byte).before args s = true) : ∃ cA : ClassId, ArrOfT s cA .byte ∧ va_RA s cA .byte := by
  obtain ⟨cA, kA, comp, h1, h2, h3⟩ := Cond.arrayClass_spec h
  exact ⟨cA, fun n z => ⟨(fun k h => by cases h), kA, h2, comp, h3⟩, h1⟩
theorem s_ty_boolean {s : State} {args : Array Value} (h : (Cond.arrayClass .boolean).before args s = true) : ∃ cA : ClassId, ArrOfT s cA .boolean ∧ va_RA s cA .boolean := by
  obtain ⟨cA, kA, comp, h1, h2, h3⟩ := Cond.arrayClass_spec h
  exact ⟨cA, fun n z => ⟨(fun k h => by cases h), kA, h2, comp, h3⟩, h1⟩
theorem s_ty_long {s : State} {args : Array Value} (h : (Cond.arrayClass .long).before args s = true) : ∃ cA : ClassId, ArrOfT s cA .long ∧ va_RA s cA .long := by
  obtain ⟨cA, kA, comp, h1, h2, h3⟩ := Cond.arrayClass_spec h
  exact ⟨cA, fun n z => ⟨(fun k h => by cases h), kA, h2, comp, h3⟩, h1⟩
theorem s_ty_double {s : State} {args : Array Value} (h : (Cond.arrayClass .double).before args s = true) : ∃ cA : ClassId, ArrOfT s cA .double ∧ va_RA s cA .double := by
  obtain ⟨cA, kA, comp, h1, h2, h3⟩ := Cond.arrayClass_spec h
  exact ⟨cA, fun n z => ⟨(fun k h => by cases h), kA, h2, comp, h3⟩, h1⟩
theorem s_tyT {s : State} {args : Array Value} (hts : ∀ w ∈ s_tbl, w.before args s = true) : ∃ tc : Nat → ClassId, ∀ (k : Nat) (q : ClassId × FieldType), (s_tys tc)[k]? = some q → ArrOfT s q.1 q.2 ∧ va_RA s q.1 q.2 := by
  obtain ⟨c0, k0⟩ := s_ty_int (args := args) (hts _ (s_wat_v (i := 236) (w := (Jvm.Cond.arrayClass Jvm.ClassFile.FieldType.int)) (by decide +kernel)))
  obtain ⟨c1, k1⟩ := s_ty_char (args := args) (hts _ (s_wat_v (i := 235) (w := (Jvm.Cond.arrayClass Jvm.ClassFile.FieldType.char)) (by decide +kernel)))
  obtain ⟨c2, k2⟩ := s_ty_byte (args := args) (hts _ (s_wat_v (i := 723) (w := (Jvm.Cond.arrayClass Jvm.ClassFile.FieldType.byte)) (by decide +kernel)))
  obtain ⟨c3, k3⟩ := s_ty_boolean (args := args) (hts _ (s_wat_v (i := 2299) (w := (Jvm.Cond.arrayClass Jvm.ClassFile.FieldType.boolean)) (by decide +kernel)))
  obtain ⟨c4, k4⟩ := s_ty_long (args := args) (hts _ (s_wat_v (i := 898) (w := (Jvm.Cond.arrayClass Jvm.ClassFile.FieldType.long)) (by decide +kernel)))
  obtain ⟨c5, k5⟩ := s_ty_double (args := args) (hts _ (s_wat_v (i := 2570) (w := (Jvm.Cond.arrayClass Jvm.ClassFile.FieldType.double)) (by decide +kernel)))
  obtain ⟨c6, k6⟩ := s_tyO (args := args) (hts _ (s_wat_v (i := 613) (w := (Jvm.Cond.arrayOver (Jvm.ClassFile.FieldType.object "java/lang/Object"))) (by decide +kernel)))
  refine ⟨fun j => match j with | 0 => c0 | 1 => c1 | 2 => c2 | 3 => c3 | 4 => c4 | 5 => c5 | _ => c6, fun k q hq => ?_⟩
  unfold s_tys at hq
  match k, hq with
  | 0, hq => cases hq; exact k0
  | 1, hq => cases hq; exact k1
  | 2, hq => cases hq; exact k2
  | 3, hq => cases hq; exact k3
  | 4, hq => cases hq; exact k4
  | 5, hq => cases hq; exact k5
  | 6, hq => cases hq; exact k6
  | k + 7, hq => simp at hq
theorem s_hts {s : State} {args : Array Value} (hts : ∀ w ∈ lw_tbl, w.before args s = true) : ∀ w ∈ s_tbl, w.before args s = true := by
  intro w hw
  rcases List.mem_cons.mp hw with rfl | hw
  · exact s_selp (n := 4) ⟨by decide +kernel, by decide +kernel⟩ (hts (Jvm.Cond.instantiable "java/lang/StringBuilder" (4 : Nat)) (List.mem_append_right _ (s_cks_in (r := tables_1_6) (by simp [s_cks]) (List.mem_of_getElem? (i := 220) (by decide +kernel))))) (hts (Jvm.Cond.privateMethod ({ cls := "java/lang/AbstractStringBuilder", name := "ensureCapacityInternal", desc := "(I)V" } : Jvm.MethodName)) (List.mem_append_right _ (s_cks_in (r := tables_1_7) (by simp [s_cks]) (List.mem_of_getElem? (i := 176) (by decide +kernel))))) (hts (Jvm.Cond.instanceMethod ({ cls := "java/lang/AbstractStringBuilder", name := "ensureCapacityInternal", desc := "(I)V" } : Jvm.MethodName)) (List.mem_append_right _ (s_cks_in (r := tables_1_7) (by simp [s_cks]) (List.mem_of_getElem? (i := 177) (by decide +kernel))))) (hts (Jvm.Cond.sameMethod "java/lang/AbstractStringBuilder" "java/lang/AbstractStringBuilder" "ensureCapacityInternal" "(I)V") (List.mem_append_right _ (s_cks_in (r := tables_1_11) (by simp [s_cks]) (List.mem_of_getElem? (i := 60) (by decide +kernel)))))
  · exact hts w hw
theorem s_ncs {s : State} {args : Array Value} (hgv : (Jvm.Cond.and given_1 narrow_1).before args s = true) : ∀ a b : Nat, a < 6 → b < 6 → a ≠ b → va_Nc (s_exc a) (s_exc b) s := by
  intro a b ha hb hab
  match a, b, ha, hb, hab with
  | 0, 0, _, _, hab => exact absurd rfl hab
  | 0, 1, _, _, _ => exact va_Nc.of (s_pk_v (r := [true, false, true, true, true, false, false, false, true, false]) (w := (Jvm.Cond.not (Jvm.Cond.castable "java/lang/IllegalStateException" "java/lang/IllegalArgumentException"))) (by decide +kernel) hgv)
  | 0, 2, _, _, _ => exact va_Nc.of (s_pk_v (r := [true, true, false, false, true, false, false, true, true, true, false]) (w := (Jvm.Cond.not (Jvm.Cond.castable "java/lang/IllegalStateException" "java/lang/IndexOutOfBoundsException"))) (by decide +kernel) hgv)
  | 0, 3, _, _, _ => exact va_Nc.of (s_pk_v (r := [true, true, false, false, false, false, true, true, true, true, true]) (w := (Jvm.Cond.not (Jvm.Cond.castable "java/lang/IllegalStateException" "java/lang/ArithmeticException"))) (by decide +kernel) hgv)
  | 0, 4, _, _, _ => exact va_Nc.of (s_pk_v (r := [true, false, true, true, true, true, true, false, false, false]) (w := (Jvm.Cond.not (Jvm.Cond.castable "java/lang/IllegalStateException" "java/lang/UnsupportedOperationException"))) (by decide +kernel) hgv)
  | 0, 5, _, _, _ => exact va_Nc.of (s_pk_v (r := [true, true, false, false, true, true, true, false, true, true, true]) (w := (Jvm.Cond.not (Jvm.Cond.castable "java/lang/IllegalStateException" "java/util/NoSuchElementException"))) (by decide +kernel) hgv)
  | 1, 0, _, _, _ => exact va_Nc.of (s_pk_v (r := [true, false, true, true, false, false, true, true, false, true]) (w := (Jvm.Cond.not (Jvm.Cond.castable "java/lang/IllegalArgumentException" "java/lang/IllegalStateException"))) (by decide +kernel) hgv)
  | 1, 1, _, _, hab => exact absurd rfl hab
  | 1, 2, _, _, _ => exact va_Nc.of (s_pk_v (r := [true, true, false, false, true, false, true, false, false, true]) (w := (Jvm.Cond.not (Jvm.Cond.castable "java/lang/IllegalArgumentException" "java/lang/IndexOutOfBoundsException"))) (by decide +kernel) hgv)
  | 1, 3, _, _, _ => exact va_Nc.of (s_pk_v (r := [true, true, false, false, false, true, false, false, true, false]) (w := (Jvm.Cond.not (Jvm.Cond.castable "java/lang/IllegalArgumentException" "java/lang/ArithmeticException"))) (by decide +kernel) hgv)
  | 1, 4, _, _, _ => exact va_Nc.of (s_pk_v (r := [true, false, true, true, true, true, true, false, true, true, false]) (w := (Jvm.Cond.not (Jvm.Cond.castable "java/lang/IllegalArgumentException" "java/lang/UnsupportedOperationException"))) (by decide +kernel) hgv)
  | 1, 5, _, _, _ => exact va_Nc.of (s_pk_v (r := [true, true, false, false, true, true, true, true, true, false]) (w := (Jvm.Cond.not (Jvm.Cond.castable "java/lang/IllegalArgumentException" "java/util/NoSuchElementException"))) (by decide +kernel) hgv)
  | 2, 0, _, _, _ => exact va_Nc.of (s_pk_v (r := [true, false, true, true, false, true, true, false, true, false]) (w := (Jvm.Cond.not (Jvm.Cond.castable "java/lang/IndexOutOfBoundsException" "java/lang/IllegalStateException"))) (by decide +kernel) hgv)
  | 2, 1, _, _, _ => exact va_Nc.of (s_pk_v (r := [true, false, true, true, true, true, false, false, false, false]) (w := (Jvm.Cond.not (Jvm.Cond.castable "java/lang/IndexOutOfBoundsException" "java/lang/IllegalArgumentException"))) (by decide +kernel) hgv)
  | 2, 2, _, _, hab => exact absurd rfl hab
  | 2, 3, _, _, _ => exact va_Nc.of (s_pk_v (r := [true, true, false, false, false, true, true, true, true, false]) (w := (Jvm.Cond.not (Jvm.Cond.castable "java/lang/IndexOutOfBoundsException" "java/lang/ArithmeticException"))) (by decide +kernel) hgv)
  | 2, 4, _, _, _ => exact va_Nc.of (s_pk_v (r := [true, true, false, false, false, false, false, true, true, true, true]) (w := (Jvm.Cond.not (Jvm.Cond.castable "java/lang/IndexOutOfBoundsException" "java/lang/UnsupportedOperationException"))) (by decide +kernel) hgv)
  | 2, 5, _, _, _ => exact va_Nc.of (s_pk_v (r := [true, true, false, true, false, false, true, false, true, true, false]) (w := (Jvm.Cond.not (Jvm.Cond.castable "java/lang/IndexOutOfBoundsException" "java/util/NoSuchElementException"))) (by decide +kernel) hgv)
  | 3, 0, _, _, _ => exact va_Nc.of (s_pk_v (r := [true, false, true, true, false, true, false, false, false, false]) (w := (Jvm.Cond.not (Jvm.Cond.castable "java/lang/ArithmeticException" "java/lang/IllegalStateException"))) (by decide +kernel) hgv)
  | 3, 1, _, _, _ => exact va_Nc.of (s_pk_v (r := [true, false, true, true, true, false, false, true, true, true, false]) (w := (Jvm.Cond.not (Jvm.Cond.castable "java/lang/ArithmeticException" "java/lang/IllegalArgumentException"))) (by decide +kernel) hgv)
  | 3, 2, _, _, _ => exact va_Nc.of (s_pk_v (r := [true, true, false, false, true, false, true, true, false, false]) (w := (Jvm.Cond.not (Jvm.Cond.castable "java/lang/ArithmeticException" "java/lang/IndexOutOfBoundsException"))) (by decide +kernel) hgv)
  | 3, 3, _, _, hab => exact absurd rfl hab
  | 3, 4, _, _, _ => exact va_Nc.of (s_pk_v (r := [true, false, true, true, true, true, true, true, false, true]) (w := (Jvm.Cond.not (Jvm.Cond.castable "java/lang/ArithmeticException" "java/lang/UnsupportedOperationException"))) (by decide +kernel) hgv)
  | 3, 5, _, _, _ => exact va_Nc.of (s_pk_v (r := [true, true, false, true, false, false, false, false, false, false]) (w := (Jvm.Cond.not (Jvm.Cond.castable "java/lang/ArithmeticException" "java/util/NoSuchElementException"))) (by decide +kernel) hgv)
  | 4, 0, _, _, _ => exact va_Nc.of (s_pk_v (r := [true, false, true, true, false, false, true, true, true, false]) (w := (Jvm.Cond.not (Jvm.Cond.castable "java/lang/UnsupportedOperationException" "java/lang/IllegalStateException"))) (by decide +kernel) hgv)
  | 4, 1, _, _, _ => exact va_Nc.of (s_pk_v (r := [true, false, true, true, true, false, false, true, false, false]) (w := (Jvm.Cond.not (Jvm.Cond.castable "java/lang/UnsupportedOperationException" "java/lang/IllegalArgumentException"))) (by decide +kernel) hgv)
  | 4, 2, _, _, _ => exact va_Nc.of (s_pk_v (r := [true, true, false, false, true, false, true, false, true, false]) (w := (Jvm.Cond.not (Jvm.Cond.castable "java/lang/UnsupportedOperationException" "java/lang/IndexOutOfBoundsException"))) (by decide +kernel) hgv)
  | 4, 3, _, _, _ => exact va_Nc.of (s_pk_v (r := [true, true, false, false, false, true, false, false, true, true, false]) (w := (Jvm.Cond.not (Jvm.Cond.castable "java/lang/UnsupportedOperationException" "java/lang/ArithmeticException"))) (by decide +kernel) hgv)
  | 4, 4, _, _, hab => exact absurd rfl hab
  | 4, 5, _, _, _ => exact va_Nc.of (s_pk_v (r := [true, true, false, false, true, true, true, true, true, true, false]) (w := (Jvm.Cond.not (Jvm.Cond.castable "java/lang/UnsupportedOperationException" "java/util/NoSuchElementException"))) (by decide +kernel) hgv)
  | 5, 0, _, _, _ => exact va_Nc.of (s_pk_v (r := [true, false, true, true, false, false, true, true, true, true, true]) (w := (Jvm.Cond.not (Jvm.Cond.castable "java/util/NoSuchElementException" "java/lang/IllegalStateException"))) (by decide +kernel) hgv)
  | 5, 1, _, _, _ => exact va_Nc.of (s_pk_v (r := [true, false, true, true, true, false, false, true, true, false]) (w := (Jvm.Cond.not (Jvm.Cond.castable "java/util/NoSuchElementException" "java/lang/IllegalArgumentException"))) (by decide +kernel) hgv)
  | 5, 2, _, _, _ => exact va_Nc.of (s_pk_v (r := [true, true, false, false, true, false, true, false, true, true, true]) (w := (Jvm.Cond.not (Jvm.Cond.castable "java/util/NoSuchElementException" "java/lang/IndexOutOfBoundsException"))) (by decide +kernel) hgv)
  | 5, 3, _, _, _ => exact va_Nc.of (s_pk_v (r := [true, true, false, false, false, true, false, true, false, false]) (w := (Jvm.Cond.not (Jvm.Cond.castable "java/util/NoSuchElementException" "java/lang/ArithmeticException"))) (by decide +kernel) hgv)
  | 5, 4, _, _, _ => exact va_Nc.of (s_pk_v (r := [true, false, true, true, true, true, true, true, false, false]) (w := (Jvm.Cond.not (Jvm.Cond.castable "java/util/NoSuchElementException" "java/lang/UnsupportedOperationException"))) (by decide +kernel) hgv)
  | 5, 5, _, _, hab => exact absurd rfl hab
  | _ + 6, _, ha, _, _ => exact absurd ha (by omega)
  | _, _ + 6, _, hb, _ => exact absurd hb (by omega)
theorem s_nk_of {s : State} {args : Array Value} {w : Cond} (hk : s_nk w = true) (h : w.before args s = true) : va_Nw w s := by
  cases w <;> first | exact va_Nw.of rfl h | exact absurd hk (by simp [s_nk])
/-- the four signs' text -/
theorem s_fgs {s : State} {args : Array Value} (hgv : (Jvm.Cond.and given_1 narrow_1).before args s = true) {A : Nat → Prop} (hA : ∀ a : Nat, a < s.heap.size → ¬ A a) :
    ∃ a2 a3 : Nat, (Jvm.Term.string "TaperhallModel" (361 : Nat)).eval args s none [] s = some (.ref a2) ∧ va_O "java/lang/String" a2 A s s.heap ∧ va_OF "java/lang/String" "coder" "B" (.int 0) a2 A s s.heap ∧ va_OF "java/lang/String" "value" "[B" (.ref a3) a2 A s s.heap ∧ va_T .byte a3 4 (fun j => .int (Int32.ofInt (s_fg j))) A s s.heap := by
  obtain ⟨aK, aV, ⟨h1, -⟩, h2⟩ := vk_Sof (args := args) (s := s) (N := 1) (tm := fun _ => (Jvm.Term.string "TaperhallModel" (361 : Nat))) (len := [4]) (byt := [[102, 103, 98, 101]]) (A := A)
    (fun i hi => by rw [show i = 0 by omega]; decide)
    (fun i hi => (s_pk_v (r := [true, true, true, false, true, true, true, false, true, true, false]) (w := (Jvm.Cond.exactly (Jvm.Term.string "TaperhallModel" (361 : Nat)) "java/lang/String")) (by decide +kernel) hgv))
    (fun i hi => (s_pk_v (r := [true, true, true, false, true, true, true, false, true, true, true]) (w := (Jvm.Cond.eq (Jvm.Term.field (Jvm.Term.string "TaperhallModel" (361 : Nat)) "java/lang/String" "coder" "B") (Jvm.Term.int (0 : Int32)))) (by decide +kernel) hgv))
    (fun i hi => (s_pk_v (r := [true, true, true, false, true, true, true, true, false, false]) (w := (Jvm.Cond.arrayOf (Jvm.Term.field (Jvm.Term.string "TaperhallModel" (361 : Nat)) "java/lang/String" "value" "[B") Jvm.ClassFile.FieldType.byte)) (by decide +kernel) hgv))
    (fun i hi => by rw [show i = 0 by omega]; exact (s_pk_v (r := [true, true, true, false, true, true, true, true, false, true]) (w := (Jvm.Cond.eq (Jvm.Term.length (Jvm.Term.field (Jvm.Term.string "TaperhallModel" (361 : Nat)) "java/lang/String" "value" "[B")) (Jvm.Term.int (4 : Int32)))) (by decide +kernel) hgv))
    (fun i hi j hj => by
      have hi0 : i = 0 := by omega
      subst hi0
      match j, hj with
      | 0, _ => exact (s_pk_v (r := [true, true, true, false, true, true, true, true, true, false]) (w := (Jvm.Cond.eq (Jvm.Term.elem (Jvm.Term.field (Jvm.Term.string "TaperhallModel" (361 : Nat)) "java/lang/String" "value" "[B") (Jvm.Term.int (0 : Int32))) (Jvm.Term.int (102 : Int32)))) (by decide +kernel) hgv)
      | 1, _ => exact (s_pk_v (r := [true, true, true, false, true, true, true, true, true, true, false]) (w := (Jvm.Cond.eq (Jvm.Term.elem (Jvm.Term.field (Jvm.Term.string "TaperhallModel" (361 : Nat)) "java/lang/String" "value" "[B") (Jvm.Term.int (1 : Int32))) (Jvm.Term.int (103 : Int32)))) (by decide +kernel) hgv)
      | 2, _ => exact (s_pk_v (r := [true, true, true, false, true, true, true, true, true, true, true]) (w := (Jvm.Cond.eq (Jvm.Term.elem (Jvm.Term.field (Jvm.Term.string "TaperhallModel" (361 : Nat)) "java/lang/String" "value" "[B") (Jvm.Term.int (2 : Int32))) (Jvm.Term.int (98 : Int32)))) (by decide +kernel) hgv)
      | 3, _ => exact (s_pk_v (r := [true, true, true, true, false, false, false, false, false, false]) (w := (Jvm.Cond.eq (Jvm.Term.elem (Jvm.Term.field (Jvm.Term.string "TaperhallModel" (361 : Nat)) "java/lang/String" "value" "[B") (Jvm.Term.int (3 : Int32))) (Jvm.Term.int (101 : Int32)))) (by decide +kernel) hgv)
      | j + 4, hj => exact absurd hj (by show ¬ j + 4 < 4; omega))
    (fun i j hi hj hij => absurd (show i = j by omega) hij) hA
  obtain ⟨b1, b2, b3, b4⟩ := h1 0 (Nat.lt_succ_self 0)
  refine ⟨aK 0, aV 0, h2 0 (Nat.lt_succ_self 0), b1, b2, b3, ?_⟩
  obtain ⟨cell, c1, c2, c3, c4, c5, c6, c7⟩ := b4
  refine ⟨cell, c1, c2, c3, c4, c5, fun j hj => ?_, c7⟩
  rw [c6 j hj]
  match j, hj with
  | 0, _ => rfl
  | 1, _ => rfl
  | 2, _ => rfl
  | 3, _ => rfl
  | j + 4, hj => exact absurd hj (by omega)
def s_xs (L : Nat) (xs : Nat → Int32) : Nat → Int32 := fun j => if j < 7 then xs j else Int32.ofNat L
theorem s_env_start {s : State} {args : Array Value} {b L : Nat} {xs : Nat → Int32} (hts : ∀ w ∈ s_tbl, w.before args s = true) (hgv : (Jvm.Cond.and given_1 narrow_1).before args s = true) (hX : va_X b L xs s s.heap) (hb : b < s.heap.size) (hL : L ≤ 6) :
    ∃ (D : va_G) (tc : Nat → ClassId) (ξ : Nat → Nat), ξ 0 = b ∧ s_Env D tc ξ (s_xs L xs) (fun q => s.heap.size ≤ q) s := by
  have hA : ∀ a : Nat, a < s.heap.size → ¬ (fun q : Nat => s.heap.size ≤ q) a := fun a h => Nat.not_le.mpr h
  obtain ⟨D, hD⟩ := s_knD hts
  obtain ⟨tc, htc⟩ := s_tyT hts
  obtain ⟨a1, e1, t1⟩ := va_Tof (args := args) (s := s) (tm := (Jvm.Term.static "java/util/ArrayList" "DEFAULTCAPACITY_EMPTY_ELEMENTDATA" "[Ljava/lang/Object;")) (ty := .object "java/lang/Object") (N := 0) (f := fun _ => .null) (A := fun q => s.heap.size ≤ q) (by decide) (s_pk_v (r := [true, false, false, false, false, false, false, false, true, true]) (w := (Jvm.Cond.arrayOf (Jvm.Term.static "java/util/ArrayList" "DEFAULTCAPACITY_EMPTY_ELEMENTDATA" "[Ljava/lang/Object;") (Jvm.ClassFile.FieldType.object "java/lang/Object"))) (by decide +kernel) hgv) (va_eqt (s_pk_v (r := [true, false, false, false, false, false, false, true, false, true]) (w := (Jvm.Cond.eq (Jvm.Term.length (Jvm.Term.static "java/util/ArrayList" "DEFAULTCAPACITY_EMPTY_ELEMENTDATA" "[Ljava/lang/Object;")) (Jvm.Term.int (0 : Int32)))) (by decide +kernel) hgv)) (fun j hj => absurd hj (Nat.not_lt_zero j)) hA
  obtain ⟨a2, a3, e2, o1, o2, o3, o4⟩ := s_fgs hgv (A := fun q => s.heap.size ≤ q) hA
  refine ⟨D, tc, fun j => match j with | 0 => b | 1 => a1 | 2 => a2 | _ => a3, rfl, ⟨⟨hD, htc⟩, fun w hw hk => s_nk_of hk (hts w hw), va_Fw.of (hts _ (s_wat_v (i := 1661) (w := (Jvm.Cond.declares ({ cls := "java/util/Iterator", name := "hasNext", desc := "()Z" } : Jvm.MethodName))) (by decide +kernel))) (hts _ (s_wat_v (i := 1660) (w := (Jvm.Cond.interfaceMethod "java/util/Iterator" "java/util/Iterator" "hasNext" "()Z")) (by decide +kernel))) (hts _ (s_wat_v (i := 1666) (w := (Jvm.Cond.publicMethod ({ cls := "java/util/ArrayList$Itr", name := "hasNext", desc := "()Z" } : Jvm.MethodName))) (by decide +kernel))) (hts _ (s_wat_v (i := 1664) (w := (Jvm.Cond.unhidden "java/util/ArrayList$Itr" "hasNext" "()Z")) (by decide +kernel))) (hts _ (s_wat_v (i := 1662) (w := (Jvm.Cond.castable "java/util/ArrayList$Itr" "java/util/Iterator")) (by decide +kernel))), va_AO.of (hts _ (s_wat_v (i := 613) (w := (Jvm.Cond.arrayOver (Jvm.ClassFile.FieldType.object "java/lang/Object"))) (by decide +kernel))), vk_R.of (hts _ (s_wat_v (i := 2457) (w := (Jvm.Cond.stringRef "TaperhallModel" (361 : Nat) "fgbe")) (by decide +kernel))) e2, s_ncs hgv⟩, ⟨va_Zref (hts _ (s_wat_v (i := 189) (w := (Jvm.Cond.laysStatic "java/util/ArrayList" "DEFAULTCAPACITY_EMPTY_ELEMENTDATA" "[Ljava/lang/Object;")) (by decide +kernel))) (hts _ (s_wat_v (i := 119) (w := (Jvm.Cond.initialized "java/util/ArrayList")) (by decide +kernel))) e1 hA, t1, va_Zof (hts _ (s_wat_v (i := 1543) (w := (Jvm.Cond.laysStatic "java/lang/String" "COMPACT_STRINGS" "Z")) (by decide +kernel))) (hts _ (s_wat_v (i := 126) (w := (Jvm.Cond.initialized "java/lang/String")) (by decide +kernel))) (va_eqi (s_pk_v (r := [true, false, false, false, false, false, true, true, true, false]) (w := (Jvm.Cond.eq (Jvm.Term.static "java/lang/String" "COMPACT_STRINGS" "Z") (Jvm.Term.int (1 : Int32)))) (by decide +kernel) hgv)) hA, vx_Zqof (hts _ (s_wat_v (i := 479) (w := (Jvm.Cond.laysStatic "java/lang/Throwable" "UNASSIGNED_STACK" "[Ljava/lang/StackTraceElement;")) (by decide +kernel))) (hts _ (s_wat_v (i := 128) (w := (Jvm.Cond.initialized "java/lang/Throwable")) (by decide +kernel))) (s_pk_v (r := [true, false, false, false, false, false, false, true, true, false]) (w := (Jvm.Cond.isRef (Jvm.Term.static "java/lang/Throwable" "UNASSIGNED_STACK" "[Ljava/lang/StackTraceElement;"))) (by decide +kernel) hgv) hA, vx_Zqof (hts _ (s_wat_v (i := 481) (w := (Jvm.Cond.laysStatic "java/lang/Throwable" "SUPPRESSED_SENTINEL" "Ljava/util/List;")) (by decide +kernel))) (hts _ (s_wat_v (i := 128) (w := (Jvm.Cond.initialized "java/lang/Throwable")) (by decide +kernel))) (s_pk_v (r := [true, false, false, false, false, false, false, true, true, true, false]) (w := (Jvm.Cond.isRef (Jvm.Term.static "java/lang/Throwable" "SUPPRESSED_SENTINEL" "Ljava/util/List;"))) (by decide +kernel) hgv) hA, o1, o2, o3, o4⟩, ?_, hb, Nat.not_le.mpr hb⟩
  obtain ⟨scr, x1, x2, x3, x4, x5⟩ := hX
  have hL7 : (s_xs L xs 7).toNatClampNeg = L := by
    show (Int32.ofNat L).toNatClampNeg = L
    exact Int32.toNatClampNeg_ofNat_of_lt (by omega)
  refine ⟨scr, x1, x2, x3, by rw [hL7]; exact x4, fun j hj => ?_⟩
  rw [hL7] at hj
  rw [x5 j hj]
  unfold s_xs
  rw [if_pos (by omega)]
end S24
section S24b
theorem s_in_set {ρ : Nat → Int} {iv : sI} (h : s_in ρ iv) (v : Nat) (z : Int × Int) (hz : z.1 ≤ ρ v ∧ ρ v ≤ z.2) : s_in ρ (iv.set v z) := by
  intro j
  by_cases hj : v < iv.length
  · by_cases e : v = j
    · subst e
      simpa [List.getD_eq_getElem?_getD, List.getElem?_set_self hj] using hz
    · have := h j
      simpa [List.getD_eq_getElem?_getD, List.getElem?_set_ne e] using this
  · rw [List.set_eq_of_length_le (by omega)]
    exact h j
def s_ch (x : Int32) : Int := ((x.toUInt32 % 65536).toNat : Int)
theorem s_ch_b (x : Int32) : 0 ≤ s_ch x ∧ s_ch x ≤ 65535 := by
  unfold s_ch
  rw [UInt32.toNat_mod]
  have : x.toUInt32.toNat % 65536 < 65536 := Nat.mod_lt _ (by decide)
  show 0 ≤ ((x.toUInt32.toNat % 65536 : Nat) : Int) ∧ ((x.toUInt32.toNat % 65536 : Nat) : Int) ≤ 65535
  omega
theorem s_ch_v (x : Int32) : Int32.ofInt (s_ch x) = (x.toUInt32 % 65536).toInt32 := by
  unfold s_ch
  generalize x.toUInt32 % 65536 = u
  apply Int32.toBitVec_inj.mp
  show BitVec.ofInt 32 (u.toNat : Int) = u.toBitVec
  rw [BitVec.ofInt_natCast]
  apply BitVec.eq_of_toNat_eq
  rw [BitVec.toNat_ofNat]
  exact Nat.mod_eq_of_lt u.toBitVec.isLt
theorem s_63_b (x : Int32) : 0 ≤ (x &&& 63).toInt ∧ (x &&& 63).toInt ≤ 63 := by
  have h : (x &&& 63).toInt = (x.toBitVec &&& 63#32).toInt := rfl
  have h2 : (x.toBitVec &&& 63#32).toNat ≤ 63 := by
    rw [BitVec.toNat_and]
    exact Nat.and_le_right
  rw [h, BitVec.toInt_eq_toNat_of_lt (by omega)]
  omega
theorem s_i_b (x : Int32) : (-2147483648 : Int) ≤ x.toInt ∧ x.toInt ≤ 2147483647 := by
  have h1 := x.le_toInt
  have h2 := x.toInt_lt
  omega
def s_rho (L : Nat) (xs : Nat → Int32) (j : Nat) : Int := match j with
  | 1 => (xs 0).toInt
  | 2 => (xs 1).toInt
  | 3 => (xs 2).toInt
  | 4 => (xs 3).toInt
  | 5 => (xs 4).toInt
  | 6 => (xs 5).toInt
  | 11 => s_ch (xs 0)
  | 12 => s_ch (xs 1)
  | 13 => s_ch (xs 2)
  | 14 => s_ch (xs 3)
  | 15 => s_ch (xs 4)
  | 16 => s_ch (xs 5)
  | 21 => (xs 0 &&& 63).toInt
  | 22 => (L : Int)
  | 33 => if 256 ≤ s_ch (xs 2) then s_ch (xs 2) / 256 else 1
  | _ => 0
theorem s_in_0 {L : Nat} {xs : Nat → Int32} (hL : L ≤ 6) : s_in (s_rho L xs) s_iv := by
  intro j
  match j with
  | 0 => exact ⟨Int.le_refl 0, Int.le_refl 0⟩
  | 1 => exact s_i_b _
  | 2 => exact s_i_b _
  | 3 => exact s_i_b _
  | 4 => exact s_i_b _
  | 5 => exact s_i_b _
  | 6 => exact s_i_b _
  | 7 => exact ⟨Int.le_refl 0, Int.le_refl 0⟩
  | 8 => exact ⟨Int.le_refl 0, Int.le_refl 0⟩
  | 9 => exact ⟨Int.le_refl 0, Int.le_refl 0⟩
  | 10 => exact ⟨Int.le_refl 0, Int.le_refl 0⟩
  | 11 => exact s_ch_b _
  | 12 => exact s_ch_b _
  | 13 => exact s_ch_b _
  | 14 => exact s_ch_b _
  | 15 => exact s_ch_b _
  | 16 => exact s_ch_b _
  | 17 => exact ⟨Int.le_refl 0, Int.le_refl 0⟩
  | 18 => exact ⟨Int.le_refl 0, Int.le_refl 0⟩
  | 19 => exact ⟨Int.le_refl 0, Int.le_refl 0⟩
  | 20 => exact ⟨Int.le_refl 0, Int.le_refl 0⟩
  | 21 => exact s_63_b _
  | 22 => exact ⟨by show (0 : Int) ≤ (L : Int); omega, by show (L : Int) ≤ 6; omega⟩
  | 23 => exact ⟨Int.le_refl 0, Int.le_refl 0⟩
  | 24 => exact ⟨Int.le_refl 0, Int.le_refl 0⟩
  | 25 => exact ⟨Int.le_refl 0, Int.le_refl 0⟩
  | 26 => exact ⟨Int.le_refl 0, Int.le_refl 0⟩
  | 27 => exact ⟨Int.le_refl 0, Int.le_refl 0⟩
  | 28 => exact ⟨Int.le_refl 0, Int.le_refl 0⟩
  | 29 => exact ⟨Int.le_refl 0, Int.le_refl 0⟩
  | 30 => exact ⟨Int.le_refl 0, Int.le_refl 0⟩
  | 31 => exact ⟨Int.le_refl 0, Int.le_refl 0⟩
  | 32 => exact ⟨Int.le_refl 0, Int.le_refl 0⟩
  | 33 =>
    have h := s_ch_b (xs 2)
    show (1 : Int) ≤ (if 256 ≤ s_ch (xs 2) then s_ch (xs 2) / 256 else 1) ∧ (if 256 ≤ s_ch (xs 2) then s_ch (xs 2) / 256 else 1) ≤ 255
    split <;> omega
  | j + 34 => exact ⟨Int.le_refl 0, Int.le_refl 0⟩
theorem s_rho_v {L : Nat} {xs : Nat → Int32} (hL : L ≤ 6) : s_ρ (s_rho L xs) (s_xs L xs) := by
  have hL7 : (s_xs L xs 7).toNatClampNeg = L := by
    show (Int32.ofNat L).toNatClampNeg = L
    exact Int32.toNatClampNeg_ofNat_of_lt (by omega)
  refine ⟨rfl, fun j hj => ?_, ?_, fun h _ => ?_, ?_, by rw [hL7]; exact hL⟩
  · match j, hj with
    | 0, _ => exact ⟨rfl, s_ch_v (xs 0)⟩
    | 1, _ => exact ⟨rfl, s_ch_v (xs 1)⟩
    | 2, _ => exact ⟨rfl, s_ch_v (xs 2)⟩
    | 3, _ => exact ⟨rfl, s_ch_v (xs 3)⟩
    | 4, _ => exact ⟨rfl, s_ch_v (xs 4)⟩
    | 5, _ => exact ⟨rfl, s_ch_v (xs 5)⟩
    | j + 6, hj => exact absurd hj (by omega)
  · show Int32.ofInt (xs 0 &&& 63).toInt = xs 0 &&& 63
    exact Int32.ofInt_toInt _
  · show (if 256 ≤ s_ch (xs 2) then s_ch (xs 2) / 256 else 1) = s_ch (xs 2) / 256
    have h : 256 ≤ s_ch (xs 2) := h
    rw [if_pos h]
  · rw [hL7]
    rfl
end S24b
