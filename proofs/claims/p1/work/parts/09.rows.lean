/-! THE ROWS OF THE TABLES AGAINST THE BYTES AND THE STATEMENT'S WORDS: a program that looks, and what it finds -/
def s_hd : List Cond := Cond.selects RJ4 yJ5_ensureCapacityInternal_d00df yJ5_ensureCapacityInternal_d00df :: k2_sels lw_privs
def s_cks : List (List Cond) := [tables_1_1, tables_1_2, tables_1_3, tables_1_4, tables_1_5, tables_1_6, tables_1_7, tables_1_8, tables_1_9, tables_1_10, tables_1_11]
def s_ats (i : Nat) : Option Cond := match Nat.blt i 114 with
  | true => s_hd[i]?
  | false => match s_cks[(i - 114) / 240]? with
    | some r => r[(i - 114) % 240]?
    | none => none
def s_wat (i : Nat) (w : Cond) : Bool := decide (s_ats i = some w)
def s_gat (i : Nat) (w : Cond) : Bool := s_wat i w && goodWord w
def s_off (e : sN) (off : Int) : Bool := decide ((e.1 : Int) + off = (s_tgt e.2.2.2 : Int))
def s_host (i : Nat) : String := match i with
  | 1 => "Taperhall"
  | 2 => "TaperhallModel"
  | _ => "java/util/ArrayList"
def s_pre : List Cond → List Nat → Bool
  | [], _ => true
  | w :: r, i :: is => s_gat i w && s_pre r is
  | _ :: _, [] => false
def s_np (y : MethodName) (n : Nat) : Bool := decide ((parseMethodDescriptor y.desc).map (fun d => d.parameters.length) = some n)
def s_mh (c : String) : Bool := decide (c ≠ "java/lang/invoke/MethodHandle" ∧ c ≠ "java/lang/invoke/VarHandle")
def s_cok (ci : Nat) : Bool := match vwCl[ci]? with
  | some r => s_pre (u_ws r.1 r.2.1 r.2.2) (s_cw ci)
  | none => false
/-- the field's link: by its own class, or by the class named where the field is the same -/
def s_fl (mi ix ci k wi nest sf : Nat) : Bool := match vwCl[ci]? with
  | some r => Nat.blt k r.2.2 && (s_cus.any (Nat.beq ci) && (match nest with
    | 0 => match sf with
      | 0 => s_gat wi (.fieldLink (s_own mi) ix (r.2.1 k).1 (r.2.1 k).2.1 (r.2.1 k).2.2.1)
      | _ => s_gat wi (.fieldLink (s_own mi) ix r.1 (r.2.1 k).2.1 (r.2.1 k).2.2.1) && s_gat sf (.sameField r.1 (r.2.1 k).1 (r.2.1 k).2.1 (r.2.1 k).2.2.1)
    | _ => match sf with
      | 0 => s_wat wi (.fieldLinkNest (s_own mi) ix (r.2.1 k).1 (r.2.1 k).2.1 (r.2.1 k).2.2.1 (s_host nest))
      | _ => s_wat wi (.fieldLinkNest (s_own mi) ix r.1 (r.2.1 k).2.1 (r.2.1 k).2.2.1 (s_host nest)) && s_gat sf (.sameField r.1 (r.2.1 k).1 (r.2.1 k).2.1 (r.2.1 k).2.2.1)))
  | none => false
def s_pty (d : String) (t : Nat) : Bool := match t with
  | 0 => decide (parseFieldDescriptor d = some .int)
  | 1 => decide (parseFieldDescriptor d = some .boolean)
  | 2 => decide (parseFieldDescriptor d = some .char)
  | 3 => decide (parseFieldDescriptor d = some .long)
  | 5 => decide (parseFieldDescriptor d = some .byte)
  | 4 => match parseFieldDescriptor d with
    | some (.object _) => true
    | some (.array _) => true
    | _ => false
  | _ => false
def s_plk (mi ix : Nat) (info : List Nat) : Bool := s_fl mi ix (s_nth info 0) (s_nth info 1) (s_nth info 3) (s_nth info 4) (s_nth info 6) && (match vwCl[s_nth info 0]? with
  | some r => s_pty (r.2.1 (s_nth info 1)).2.2.1 (s_nth info 2) && (match (r.2.1 (s_nth info 1)).2.2.2 with
    | true => decide ((s_y mi).name = "<init>" ∧ (r.2.1 (s_nth info 1)).1 = s_own mi) && Nat.beq (s_nth info 4) 0
    | false => true)
  | none => false)
def s_cln (ci : Nat) : String := match ci with
  | 0 => ""
  | 1001 => "java/lang/String"
  | k + 1 => match vwCl[k]? with
    | some r => r.1
    | none => ""
/-- a call's words: which they are, and that they stand -/
def s_cpre (mi ix : Nat) (info : List Nat) : List Cond := match s_nth info 0 with
  | 1 => [.methodLink (s_own mi) ix (s_y (s_nth info 1)), .static (s_y (s_nth info 1)), .initialized (s_y (s_nth info 1)).cls]
  | 2 => [.methodLink (s_own mi) ix (s_y (s_nth info 1)), .instanceMethod (s_y (s_nth info 1)), .initialized (s_y (s_nth info 1)).cls]
  | 5 => [.methodLink (s_own mi) ix (s_y (s_nth info 1)), .sameMethod (s_y (s_nth info 1)).cls (s_y (s_nth info 1)).cls (s_y (s_nth info 1)).name (s_y (s_nth info 1)).desc, .superclass (s_own mi) (s_y (s_nth info 1)).cls, .instanceMethod (s_y (s_nth info 1)), .initialized (s_y (s_nth info 1)).cls]
  | 12 => [.instanceMethod (s_y (s_nth info 1)), .initialized (s_y (s_nth info 1)).cls]
  | 3 => [.methodLink (s_own mi) ix (s_y (s_nth info 1)), .instanceMethod (s_y (s_nth info 1)), .selects (s_cln (s_nth info 3)) (s_y (s_nth info 1)) (s_y (s_nth info 1)), .initialized (s_cln (s_nth info 3))]
  | 6 => [.methodLink (s_own mi) ix (s_y (s_nth info 1)), .sameMethod (s_y (s_nth info 1)).cls (s_y (s_nth info 1)).cls (s_y (s_nth info 1)).name (s_y (s_nth info 1)).desc, .selects (s_cln (s_nth info 3)) (s_y (s_nth info 1)) (s_y (s_nth info 1)), .instanceMethod (s_y (s_nth info 1)), .initialized (s_y (s_nth info 1)).cls]
  | 13 => [.instanceMethod (s_y (s_nth info 1)), .selects (s_cln (s_nth info 3)) (s_y (s_nth info 1)) (s_y (s_nth info 1)), .initialized (s_y (s_nth info 1)).cls]
  | _ => [.methodLink (s_own mi) ix s_iX, .selects "java/util/ArrayList$Itr" s_iX s_iY, .instanceMethod s_iY, .initialized s_iY.cls]
def s_emp (l : List (Nat × Nat × Nat × Nat)) : Bool := match l with
  | [] => true
  | _ :: _ => false
/-- a receiver of a known class is asked for -/
def s_rci (ci : Nat) : Bool := match ci with
  | 0 => false
  | 1000 => false
  | _ + 1 => true
def s_clk (mi ix : Nat) (info : List Nat) : Bool := s_pre (s_cpre mi ix info) (info.drop 5) && ((Nat.blt 0 (s_nth info 1) && Nat.blt (s_nth info 1) s_M) && (s_mh (s_y (s_nth info 1)).cls && (match s_nth info 0 with
  | 1 => s_np (s_y (s_nth info 1)) (s_nth info 2)
  | 2 => s_np (s_y (s_nth info 1)) (s_nth info 2 - 1) && (Nat.blt 0 (s_nth info 2) && (decide ((s_y (s_nth info 1)).name = "<init>" ∧ s_rt (s_nth info 1) = none) && (s_emp (s_hx (s_nth info 1)) && Nat.beq (s_nth info 3) 1000)))
  | 5 => s_np (s_y (s_nth info 1)) (s_nth info 2 - 1) && (Nat.blt 0 (s_nth info 2) && (decide ((s_y (s_nth info 1)).name ≠ "<init>") && (s_emp (s_hx (s_nth info 1)) && (s_rci (s_nth info 3) && Nat.blt (s_nth info 3) 1000))))
  | 12 => s_np (s_y (s_nth info 1)) (s_nth info 2 - 1) && (Nat.blt 0 (s_nth info 2) && (decide ((s_y (s_nth info 1)).name = "<init>" ∧ s_rt (s_nth info 1) = none) && (s_emp (s_hx (s_nth info 1)) && Nat.beq (s_nth info 3) 1000 && s_wat ((info.drop 5).getLast?.getD 0) (.methodLinkNest (s_own mi) ix (s_y (s_nth info 1)) (s_host (s_nth info 4))))))
  | 3 => s_np (s_y (s_nth info 1)) (s_nth info 2 - 1) && (Nat.blt 0 (s_nth info 2) && (decide ((s_y (s_nth info 1)).cls = s_cln (s_nth info 3)) && (s_emp (s_hx (s_nth info 1)) && s_rci (s_nth info 3))))
  | 6 => s_np (s_y (s_nth info 1)) (s_nth info 2 - 1) && (Nat.blt 0 (s_nth info 2) && (s_emp (s_hx (s_nth info 1)) && s_rci (s_nth info 3)))
  | 13 => s_np (s_y (s_nth info 1)) (s_nth info 2 - 1) && (Nat.blt 0 (s_nth info 2) && (s_emp (s_hx (s_nth info 1)) && (s_rci (s_nth info 3) && s_wat ((info.drop 5).getLast?.getD 0) (.methodLinkNest (s_own mi) ix (s_y (s_nth info 1)) (s_host (s_nth info 4))))))
  | 4 => decide (s_y (s_nth info 1) = s_iY ∧ s_cln (s_nth info 3) = "java/util/ArrayList$Itr") && (Nat.beq (s_nth info 2) 1 && (s_emp (s_hx (s_nth info 1)) && s_rci (s_nth info 3)))
  | _ => false)))
def s_nms : List String := ["java/lang/RuntimeException", "java/lang/Exception"]
def s_pr2 : List Cond → List Nat → Bool
  | [], _ => true
  | w :: r, i :: is => s_wat i w && ((goodWord w || s_nk w) && (vx_ot w && s_pr2 r is))
  | _ :: _, [] => false
def s_ath (x : Nat) : Bool := s_pr2 (vx_at0 RX10 (s_ic x) (s_exc x) s_nms) (s_aw x)
def s_ate (x : Nat) : Bool := match x with
  | 0 => true
  | 1 => true
  | 2 => true
  | 3 => true
  | 5 => true
  | _ => false
def s_tlk (mi ik pc : Nat) (info : List Nat) : Bool := s_pre [.classLink (s_own mi) ik (s_exc (s_nth info 1)), .initialized (s_exc (s_nth info 1))] (info.drop 4) && (decide (s_own mi = RX10) && (Nat.beq (s_nth info 3) (s_ic (s_nth info 1)) && (s_ate (s_nth info 1) && (s_emp (s_hx mi) &&
  (decide (decode (s_by mi) (pc + 3) = .ok (.dup, 1)) && (decide (decode (s_by mi) (pc + 4) = .ok (.invokespecial (s_nth info 3), 3)) && decide (decode (s_by mi) (pc + 7) = .ok (.athrow, 1))))))))
def s_rty (t : Nat) : Option FieldType := match t with
  | 0 => some .int
  | 1 => some .boolean
  | 2 => some .char
  | 5 => some .byte
  | _ => none
def s_isR (r : Option FieldType) : Bool := match r with
  | some (.object _) => true
  | some (.array _) => true
  | _ => false
/-- a field of the four signs' text -/
def s_xlk (mi ix : Nat) (info : List Nat) : Bool := match s_nth info 4 with
  | 1 => s_gat (s_nth info 2) (.fieldLink (s_own mi) ix "java/lang/String" "value" "[B")
  | 2 => s_gat (s_nth info 2) (.fieldLink (s_own mi) ix "java/lang/String" "coder" "B")
  | _ => false
def s_lk (mi : Nat) (e : sN) : Bool := match e.2.1 with
  | .bipush v => decide ((Int8.ofInt v).toInt32 = Int32.ofInt v)
  | .sipush v => decide ((Int16.ofInt v).toInt32 = Int32.ofInt v)
  | .fconst v => Nat.beq v.val 0
  | .dconst v => Nat.beq v.val 0
  | .ifCond _ off => s_off e off
  | .if_icmp _ off => s_off e off
  | .if_acmp _ off => s_off e off
  | .goto off => s_off e off
  | .ifnull off => s_off e off
  | .ifnonnull off => s_off e off
  | .tableswitch d lo hi offs => s_off e d && (decide (hi - lo + 1 = (offs.size : Int)) && decide (offs.toList.map (fun o => (e.1 : Int) + o) = e.2.2.2.tail.map (fun t : Nat => (t : Int))))
  | .ldc ix => s_gat (s_nth e.2.2.2 2) (.constant (s_own mi) ix (Int32.ofInt (s_int (e.2.2.2.take 2))))
  | .ldc_w ix => match e.2.2.2 with
    | 2 :: _ => decide (s_own mi = "TaperhallModel" ∧ ix = 361)
    | _ => s_gat (s_nth e.2.2.2 2) (.constant (s_own mi) ix (Int32.ofInt (s_int (e.2.2.2.take 2))))
  | .ldc2_w ix => s_gat (s_nth e.2.2.2 2) (.constantLong (s_own mi) ix (Int64.ofInt (s_int (e.2.2.2.take 2))))
  | .getfield ix => match s_nth e.2.2.2 4 with
    | 0 => s_fl mi ix (s_nth e.2.2.2 0) (s_nth e.2.2.2 1) (s_nth e.2.2.2 2) (s_nth e.2.2.2 3) (s_nth e.2.2.2 5)
    | _ => s_xlk mi ix e.2.2.2
  | .putfield ix => s_plk mi ix e.2.2.2
  | .getstatic ix => match s_nth e.2.2.2 0 with
    | 1 => s_gat (s_nth e.2.2.2 1) (.fieldLink (s_own mi) ix "java/util/ArrayList" "DEFAULTCAPACITY_EMPTY_ELEMENTDATA" "[Ljava/lang/Object;")
    | _ => s_gat (s_nth e.2.2.2 1) (.fieldLink (s_own mi) ix "java/lang/String" "COMPACT_STRINGS" "Z")
  | .newarray a => s_pre [.arrayClass (Op.newarray.typeOf a)] e.2.2.2
  | .anewarray ix => s_gat (s_nth e.2.2.2 0) (.classLink (s_own mi) ix "java/lang/Object")
  | .new ix => match s_nth e.2.2.2 0 with
    | 0 => match vwCl[s_nth e.2.2.2 1]? with
      | some r => s_cus.any (Nat.beq (s_nth e.2.2.2 1)) && s_gat (s_nth e.2.2.2 2) (.classLink (s_own mi) ix r.1) && s_pre [.instantiable r.1 r.2.2, .initialized r.1] (e.2.2.2.drop 3)
      | none => false
    | _ => s_tlk mi ix e.1 e.2.2.2
  | .invokespecial ix => match s_nth e.2.2.2 0 with
    | 0 => s_gat (s_nth e.2.2.2 1) (.methodLink (s_own mi) ix Lib.objectInit) && s_pre [.instanceMethod Lib.objectInit, .code Lib.objectInit ⟨#[0xb1]⟩ 1 none] (e.2.2.2.drop 2)
    | 2 => s_clk mi ix e.2.2.2
    | 5 => s_clk mi ix e.2.2.2
    | 12 => s_clk mi ix e.2.2.2
    | _ => false
  | .invokestatic ix => Nat.beq (s_nth e.2.2.2 0) 1 && s_clk mi ix e.2.2.2
  | .invokevirtual ix => match s_nth e.2.2.2 0 with
    | 3 => s_clk mi ix e.2.2.2
    | 6 => s_clk mi ix e.2.2.2
    | 13 => s_clk mi ix e.2.2.2
    | _ => false
  | .invokeinterface ix _ => Nat.beq (s_nth e.2.2.2 0) 4 && s_clk mi ix e.2.2.2
  | .ireturn => decide (s_rt mi = s_rty (s_nth e.2.2.2 0))
  | .lreturn => decide (s_rt mi = some .long)
  | .freturn => decide (s_rt mi = some .float)
  | .dreturn => decide (s_rt mi = some .double)
  | .areturn => s_isR (s_rt mi)
  | .return_ => decide (s_rt mi = none)
  | _ => true
/-- an instruction's length -/
def s_ln (e : sN) : Nat := match e.2.1 with
  | .tableswitch .. => e.2.2.1 - e.1
  | .invokeinterface .. => 5
  | .bipush _ => 2
  | .ldc _ => 2
  | .newarray _ => 2
  | .iload _ => 2
  | .lload _ => 2
  | .aload _ => 2
  | .istore _ => 2
  | .lstore _ => 2
  | .astore _ => 2
  | .fstore _ => 2
  | .dstore _ => 2
  | .sipush _ => 3
  | .ldc_w _ => 3
  | .ldc2_w _ => 3
  | .iinc .. => 3
  | .ifCond .. => 3
  | .if_icmp .. => 3
  | .if_acmp .. => 3
  | .goto _ => 3
  | .ifnull _ => 3
  | .ifnonnull _ => 3
  | .getfield _ => 3
  | .putfield _ => 3
  | .getstatic _ => 3
  | .new _ => 3
  | .anewarray _ => 3
  | .invokespecial _ => 3
  | .invokestatic _ => 3
  | .invokevirtual _ => 3
  | _ => 1
def s_rok (mi : Nat) (e : sN) : Bool := decide (decode (s_by mi) e.1 = .ok (e.2.1, s_ln e)) && (Nat.beq e.2.2.1 (e.1 + s_ln e) && s_lk mi e)
/-- the handlers of a method: as the bytes have them, their classes linked -/
def s_hok (own : String) : List (Nat × Nat × Nat × Nat) → List (Nat × Nat × Nat × Nat) → List Nat → Bool
  | [], [], _ => true
  | a :: r, b :: r2, i :: j :: is => Nat.beq a.1 b.1 && (Nat.beq a.2.1 b.2.1 && (Nat.beq a.2.2.1 b.2.2.1 && (Nat.blt 0 a.2.2.2 && (Nat.blt b.2.2.2 6 && (s_gat i (.classLink own a.2.2.2 (s_exc b.2.2.2)) && (s_wat j (.castable (s_exc b.2.2.2) (s_exc b.2.2.2)) && s_hok own r r2 is))))))
  | _, _, _ => false
/-- of a method as a whole: its word stands, its name is plain, its handlers' classes are linked -/
def s_mok (mi : Nat) : Bool := s_wat (s_cx mi) (s_cd mi) && (goodWord (s_cd mi) && (plainFor (s_y mi) && (decide ((s_y mi).cls = s_own mi) && (s_hok (s_own mi) (s_hx mi) (s_meta mi).2.2.2.2.2 (s_hw mi) && (s_code mi).all (s_rok mi)))))
