/-! ===== BEGIN printed: names, fields, word lists, decode rows ===== -/
def RX0 : String := "Taperhall$Athlete"
def TX0 : u_T := fun k => match k with
  | 0 => ("Taperhall$Athlete", "number", "I", true)
  | 1 => ("Taperhall$Athlete", "squad", "I", true)
  | 2 => ("Taperhall$Athlete", "priority", "I", true)
  | 3 => ("Taperhall$Athlete", "body", "LTaperhall$Body;", true)
  | 4 => ("Taperhall$Athlete", "diary", "LTaperhall$Diary;", true)
  | 5 => ("Taperhall$Athlete", "log", "LTaperhall$Log;", true)
  | 6 => ("Taperhall$Athlete", "fits", "LTaperhall$Fits;", true)
  | 7 => ("Taperhall$Athlete", "ceiling", "I", false)
  | 8 => ("Taperhall$Athlete", "raced", "Z", false)
  | 9 => ("Taperhall$Athlete", "qualified", "Z", false)
  | _ => ("Taperhall$Athlete", "best", "I", false)
def tyX0 : Nat → FieldType := fun k => match k with
  | 0 => .int
  | 1 => .int
  | 2 => .int
  | 3 => .object "Taperhall$Body"
  | 4 => .object "Taperhall$Diary"
  | 5 => .object "Taperhall$Log"
  | 6 => .object "Taperhall$Fits"
  | 7 => .int
  | 8 => .boolean
  | 9 => .boolean
  | _ => .int
abbrev wsX00 : List Cond := u_ws RX0 TX0 11
theorem nmX0 : ∀ a, a < 11 → ∀ b, b < 11 → a ≠ b → (TX0 a).2.1 ≠ (TX0 b).2.1 := by decide +kernel
theorem tyX0_ok : ∀ k, k < 11 → parseFieldDescriptor (TX0 k).2.2.1 = some (tyX0 k) := by decide +kernel
abbrev cX0_init : ByteArray := prog_2_method_1_code
def yX0_init : MethodName := ⟨RX0, "<init>", "(IIILTaperhall$Body;)V"⟩
abbrev cX0_keepResult : ByteArray := prog_2_method_2_code
def yX0_keepResult : MethodName := ⟨RX0, "keepResult", "(IZ)V"⟩
def RX1 : String := "Taperhall$Body"
def TX1 : u_T := fun k => match k with
  | 0 => ("Taperhall$Body", "base", "I", true)
  | 1 => ("Taperhall$Body", "trace", "LTaperhall$Trace;", true)
  | 2 => ("Taperhall$Body", "tolerance", "I", false)
  | 3 => ("Taperhall$Body", "damage", "I", false)
  | 4 => ("Taperhall$Body", "step", "I", false)
  | 5 => ("Taperhall$Body", "illFrom", "I", false)
  | 6 => ("Taperhall$Body", "illUntil", "I", false)
  | 7 => ("Taperhall$Body", "backDay", "I", false)
  | 8 => ("Taperhall$Body", "backLoad", "I", false)
  | 9 => ("Taperhall$Body", "campLast", "I", false)
  | _ => ("Taperhall$Body", "campDays", "I", false)
def tyX1 : Nat → FieldType := fun k => match k with
  | 0 => .int
  | 1 => .object "Taperhall$Trace"
  | 2 => .int
  | 3 => .int
  | 4 => .int
  | 5 => .int
  | 6 => .int
  | 7 => .int
  | 8 => .int
  | 9 => .int
  | _ => .int
abbrev wsX10 : List Cond := u_ws RX1 TX1 11
theorem nmX1 : ∀ a, a < 11 → ∀ b, b < 11 → a ≠ b → (TX1 a).2.1 ≠ (TX1 b).2.1 := by decide +kernel
theorem tyX1_ok : ∀ k, k < 11 → parseFieldDescriptor (TX1 k).2.2.1 = some (tyX1 k) := by decide +kernel
abbrev cX1_init : ByteArray := prog_3_method_1_code
def yX1_init : MethodName := ⟨RX1, "<init>", "(III)V"⟩
abbrev cX1_live : ByteArray := prog_3_method_2_code
def yX1_live : MethodName := ⟨RX1, "live", "(I)Z"⟩
abbrev cX1_isIllOn : ByteArray := prog_3_method_3_code
def yX1_isIllOn : MethodName := ⟨RX1, "isIllOn", "(I)Z"⟩
abbrev cX1_illDaysFrom : ByteArray := prog_3_method_4_code
def yX1_illDaysFrom : MethodName := ⟨RX1, "illDaysFrom", "(I)I"⟩
abbrev cX1_sicken : ByteArray := prog_3_method_5_code
def yX1_sicken : MethodName := ⟨RX1, "sicken", "(II)V"⟩
abbrev cX1_isFitOn : ByteArray := prog_3_method_6_code
def yX1_isFitOn : MethodName := ⟨RX1, "isFitOn", "(I)Z"⟩
abbrev cX1_isBackOn : ByteArray := prog_3_method_7_code
def yX1_isBackOn : MethodName := ⟨RX1, "isBackOn", "(I)Z"⟩
abbrev cX1_canTrainOn : ByteArray := prog_3_method_8_code
def yX1_canTrainOn : MethodName := ⟨RX1, "canTrainOn", "(I)Z"⟩
abbrev cX1_tryStep : ByteArray := prog_3_method_9_code
def yX1_tryStep : MethodName := ⟨RX1, "tryStep", "(II)I"⟩
abbrev cX1_goToCamp : ByteArray := prog_3_method_10_code
def yX1_goToCamp : MethodName := ⟨RX1, "goToCamp", "(II)I"⟩
abbrev cX1_campGivesOn : ByteArray := prog_3_method_11_code
def yX1_campGivesOn : MethodName := ⟨RX1, "campGivesOn", "(I)I"⟩
abbrev cX1_readyOn : ByteArray := prog_3_method_12_code
def yX1_readyOn : MethodName := ⟨RX1, "readyOn", "(I)I"⟩
def RX2 : String := "Taperhall$Book"
def TX2 : u_T := fun k => match k with
  | _ => ("Taperhall$Book", "sessions", "Ljava/util/ArrayList;", true)
def tyX2 : Nat → FieldType := fun k => match k with
  | _ => .object "java/util/ArrayList"
abbrev wsX20 : List Cond := u_ws RX2 TX2 1
theorem nmX2 : ∀ a, a < 1 → ∀ b, b < 1 → a ≠ b → (TX2 a).2.1 ≠ (TX2 b).2.1 := by decide +kernel
theorem tyX2_ok : ∀ k, k < 1 → parseFieldDescriptor (TX2 k).2.2.1 = some (tyX2 k) := by decide +kernel
abbrev cX2_init : ByteArray := prog_4_method_1_code
def yX2_init : MethodName := ⟨RX2, "<init>", "()V"⟩
abbrev cX2_size : ByteArray := prog_4_method_2_code
def yX2_size : MethodName := ⟨RX2, "size", "()I"⟩
abbrev cX2_open : ByteArray := prog_4_method_3_code
def yX2_open : MethodName := ⟨RX2, "open", "()C"⟩
abbrev cX2_find : ByteArray := prog_4_method_4_code
def yX2_find : MethodName := ⟨RX2, "find", "(C)LTaperhall$Session;"⟩
abbrev cX2_sumIn : ByteArray := prog_4_method_5_code
def yX2_sumIn : MethodName := ⟨RX2, "sumIn", "(C)J"⟩
abbrev cX2_feltOf : ByteArray := prog_4_method_6_code
def yX2_feltOf : MethodName := ⟨RX2, "feltOf", "(C)I"⟩
abbrev cX2_isHard : ByteArray := prog_4_method_7_code
def yX2_isHard : MethodName := ⟨RX2, "isHard", "(C)Z"⟩
def RX3 : String := "Taperhall$Diary"
def TX3 : u_T := fun k => match k with
  | 0 => ("Taperhall$Diary", "letters", "[C", true)
  | 1 => ("Taperhall$Diary", "feltInAll", "[I", true)
  | _ => ("Taperhall$Diary", "feltOfSession", "[I", true)
def tyX3 : Nat → FieldType := fun k => match k with
  | 0 => .array .char
  | 1 => .array .int
  | _ => .array .int
abbrev wsX30 : List Cond := u_ws RX3 TX3 3
theorem nmX3 : ∀ a, a < 3 → ∀ b, b < 3 → a ≠ b → (TX3 a).2.1 ≠ (TX3 b).2.1 := by decide +kernel
theorem tyX3_ok : ∀ k, k < 3 → parseFieldDescriptor (TX3 k).2.2.1 = some (tyX3 k) := by decide +kernel
abbrev cX3_init : ByteArray := prog_5_method_1_code
def yX3_init : MethodName := ⟨RX3, "<init>", "()V"⟩
abbrev cX3_letterOn : ByteArray := prog_5_method_2_code
def yX3_letterOn : MethodName := ⟨RX3, "letterOn", "(I)C"⟩
abbrev cX3_feltOn : ByteArray := prog_5_method_3_code
def yX3_feltOn : MethodName := ⟨RX3, "feltOn", "(I)I"⟩
abbrev cX3_write : ByteArray := prog_5_method_4_code
def yX3_write : MethodName := ⟨RX3, "write", "(III)V"⟩
abbrev cX3_clearDay : ByteArray := prog_5_method_5_code
def yX3_clearDay : MethodName := ⟨RX3, "clearDay", "(I)V"⟩
abbrev cX3_copyInto : ByteArray := prog_5_method_6_code
def yX3_copyInto : MethodName := ⟨RX3, "copyInto", "([C)V"⟩
abbrev cX3_copyFrom : ByteArray := prog_5_method_7_code
def yX3_copyFrom : MethodName := ⟨RX3, "copyFrom", "([C)V"⟩
abbrev cX3_shiftInto : ByteArray := prog_5_method_8_code
def yX3_shiftInto : MethodName := ⟨RX3, "shiftInto", "([CII)V"⟩
abbrev cX3_countFrom : ByteArray := prog_5_method_9_code
def yX3_countFrom : MethodName := ⟨RX3, "countFrom", "(I)I"⟩
abbrev cX3_holdsFrom : ByteArray := prog_5_method_10_code
def yX3_holdsFrom : MethodName := ⟨RX3, "holdsFrom", "(IC)Z"⟩
abbrev cX3_sumFelt : ByteArray := prog_5_method_11_code
def yX3_sumFelt : MethodName := ⟨RX3, "sumFelt", "(I)J"⟩
abbrev cX3_busiestWeek : ByteArray := prog_5_method_12_code
def yX3_busiestWeek : MethodName := ⟨RX3, "busiestWeek", "([CLTaperhall$Book;I)I"⟩
abbrev cX3_loadOn : ByteArray := prog_5_method_13_code
def yX3_loadOn : MethodName := ⟨RX3, "loadOn", "([CILTaperhall$Book;I)I"⟩
def RX4 : String := "Taperhall$Fits"
def TX4 : u_T := fun k => match k with
  | 0 => ("Taperhall$Fits", "days", "[I", true)
  | 1 => ("Taperhall$Fits", "told", "[I", true)
  | 2 => ("Taperhall$Fits", "left", "[I", true)
  | 3 => ("Taperhall$Fits", "bases", "[J", true)
  | 4 => ("Taperhall$Fits", "faults", "[J", true)
  | 5 => ("Taperhall$Fits", "thought", "LTaperhall$Trace;", true)
  | 6 => ("Taperhall$Fits", "tests", "I", false)
  | 7 => ("Taperhall$Fits", "best", "I", false)
  | _ => ("Taperhall$Fits", "fresh", "Z", false)
def tyX4 : Nat → FieldType := fun k => match k with
  | 0 => .array .int
  | 1 => .array .int
  | 2 => .array .int
  | 3 => .array .long
  | 4 => .array .long
  | 5 => .object "Taperhall$Trace"
  | 6 => .int
  | 7 => .int
  | _ => .boolean
abbrev wsX40 : List Cond := u_ws RX4 TX4 9
theorem nmX4 : ∀ a, a < 9 → ∀ b, b < 9 → a ≠ b → (TX4 a).2.1 ≠ (TX4 b).2.1 := by decide +kernel
theorem tyX4_ok : ∀ k, k < 9 → parseFieldDescriptor (TX4 k).2.2.1 = some (tyX4 k) := by decide +kernel
abbrev cX4_init : ByteArray := prog_6_method_1_code
def yX4_init : MethodName := ⟨RX4, "<init>", "()V"⟩
abbrev cX4_keep : ByteArray := prog_6_method_2_code
def yX4_keep : MethodName := ⟨RX4, "keep", "(II)V"⟩
abbrev cX4_renew : ByteArray := prog_6_method_3_code
def yX4_renew : MethodName := ⟨RX4, "renew", "(LTaperhall$Diary;LTaperhall$Trace;)V"⟩
abbrev cX4_compare : ByteArray := prog_6_method_4_code
def yX4_compare : MethodName := ⟨RX4, "compare", "(LTaperhall$Diary;)V"⟩
abbrev cX4_isTestOf : ByteArray := prog_6_method_5_code
def yX4_isTestOf : MethodName := ⟨RX4, "isTestOf", "(II)Z"⟩
abbrev cX4_leave : ByteArray := prog_6_method_6_code
def yX4_leave : MethodName := ⟨RX4, "leave", "(II)V"⟩
abbrev cX4_judge : ByteArray := prog_6_method_7_code
def yX4_judge : MethodName := ⟨RX4, "judge", "(I)V"⟩
abbrev cX4_baseOf : ByteArray := prog_6_method_8_code
def yX4_baseOf : MethodName := ⟨RX4, "baseOf", "(I)J"⟩
abbrev cX4_faultOf : ByteArray := prog_6_method_9_code
def yX4_faultOf : MethodName := ⟨RX4, "faultOf", "(I)J"⟩
abbrev cX4_isRival : ByteArray := prog_6_method_10_code
def yX4_isRival : MethodName := ⟨RX4, "isRival", "(I)Z"⟩
abbrev cX4_countRivals : ByteArray := prog_6_method_11_code
def yX4_countRivals : MethodName := ⟨RX4, "countRivals", "()I"⟩
abbrev cX4_indexOf : ByteArray := prog_6_method_12_code
def yX4_indexOf : MethodName := ⟨RX4, "indexOf", "(I)I"⟩
def RX5 : String := "Taperhall$Log"
def TX5 : u_T := fun k => match k with
  | 0 => ("Taperhall$Log", "causes", "[C", true)
  | 1 => ("Taperhall$Log", "days", "[I", true)
  | _ => ("Taperhall$Log", "kept", "I", false)
def tyX5 : Nat → FieldType := fun k => match k with
  | 0 => .array .char
  | 1 => .array .int
  | _ => .int
abbrev wsX50 : List Cond := u_ws RX5 TX5 3
theorem nmX5 : ∀ a, a < 3 → ∀ b, b < 3 → a ≠ b → (TX5 a).2.1 ≠ (TX5 b).2.1 := by decide +kernel
theorem tyX5_ok : ∀ k, k < 3 → parseFieldDescriptor (TX5 k).2.2.1 = some (tyX5 k) := by decide +kernel
abbrev cX5_init : ByteArray := prog_7_method_1_code
def yX5_init : MethodName := ⟨RX5, "<init>", "()V"⟩
abbrev cX5_keep : ByteArray := prog_7_method_2_code
def yX5_keep : MethodName := ⟨RX5, "keep", "(CI)V"⟩
abbrev cX5_causeAt : ByteArray := prog_7_method_3_code
def yX5_causeAt : MethodName := ⟨RX5, "causeAt", "(I)C"⟩
abbrev cX5_dayAt : ByteArray := prog_7_method_4_code
def yX5_dayAt : MethodName := ⟨RX5, "dayAt", "(I)I"⟩
def RX6 : String := "Taperhall$Script"
def TX6 : u_T := fun k => match k with
  | 0 => ("Taperhall$Script", "typed", "[C", true)
  | 1 => ("Taperhall$Script", "days", "[C", true)
  | 2 => ("Taperhall$Script", "starts", "[I", true)
  | 3 => ("Taperhall$Script", "times", "[I", true)
  | 4 => ("Taperhall$Script", "length", "I", false)
  | _ => ("Taperhall$Script", "unfolded", "I", false)
def tyX6 : Nat → FieldType := fun k => match k with
  | 0 => .array .char
  | 1 => .array .char
  | 2 => .array .int
  | 3 => .array .int
  | 4 => .int
  | _ => .int
abbrev wsX60 : List Cond := u_ws RX6 TX6 6
theorem nmX6 : ∀ a, a < 6 → ∀ b, b < 6 → a ≠ b → (TX6 a).2.1 ≠ (TX6 b).2.1 := by decide +kernel
theorem tyX6_ok : ∀ k, k < 6 → parseFieldDescriptor (TX6 k).2.2.1 = some (tyX6 k) := by decide +kernel
abbrev cX6_init : ByteArray := prog_8_method_1_code
def yX6_init : MethodName := ⟨RX6, "<init>", "()V"⟩
abbrev cX6_append : ByteArray := prog_8_method_2_code
def yX6_append : MethodName := ⟨RX6, "append", "(C)I"⟩
abbrev cX6_clear : ByteArray := prog_8_method_3_code
def yX6_clear : MethodName := ⟨RX6, "clear", "()I"⟩
abbrev cX6_faultPlace : ByteArray := prog_8_method_4_code
def yX6_faultPlace : MethodName := ⟨RX6, "faultPlace", "(I)I"⟩
abbrev cX6_misfit : ByteArray := prog_8_method_5_code
def yX6_misfit : MethodName := ⟨RX6, "misfit", "(I)I"⟩
abbrev cX6_unfold : ByteArray := prog_8_method_6_code
def yX6_unfold : MethodName := ⟨RX6, "unfold", "()I"⟩
abbrev cX6_open : ByteArray := prog_8_method_7_code
def yX6_open : MethodName := ⟨RX6, "open", "(II)V"⟩
abbrev cX6_close : ByteArray := prog_8_method_8_code
def yX6_close : MethodName := ⟨RX6, "close", "(I)V"⟩
abbrev cX6_repeat : ByteArray := prog_8_method_9_code
def yX6_repeat : MethodName := ⟨RX6, "repeat", "(II)V"⟩
abbrev cX6_addDay : ByteArray := prog_8_method_10_code
def yX6_addDay : MethodName := ⟨RX6, "addDay", "(C)V"⟩
abbrev cX6_writeInto : ByteArray := prog_8_method_11_code
def yX6_writeInto : MethodName := ⟨RX6, "writeInto", "([CI)V"⟩
def RX7 : String := "Taperhall$Session"
def TX7 : u_T := fun k => match k with
  | 0 => ("Taperhall$Session", "sets", "I", false)
  | 1 => ("Taperhall$Session", "byZone", "I", false)
  | 2 => ("Taperhall$Session", "lessRest", "I", false)
  | 3 => ("Taperhall$Session", "weighted", "I", false)
  | _ => ("Taperhall$Session", "hard", "Z", false)
def tyX7 : Nat → FieldType := fun k => match k with
  | 0 => .int
  | 1 => .int
  | 2 => .int
  | 3 => .int
  | _ => .boolean
abbrev wsX70 : List Cond := u_ws RX7 TX7 5
theorem nmX7 : ∀ a, a < 5 → ∀ b, b < 5 → a ≠ b → (TX7 a).2.1 ≠ (TX7 b).2.1 := by decide +kernel
theorem tyX7_ok : ∀ k, k < 5 → parseFieldDescriptor (TX7 k).2.2.1 = some (tyX7 k) := by decide +kernel
abbrev cX7_init : ByteArray := prog_9_method_1_code
def yX7_init : MethodName := ⟨RX7, "<init>", "()V"⟩
abbrev cX7_addSet : ByteArray := prog_9_method_2_code
def yX7_addSet : MethodName := ⟨RX7, "addSet", "(III)I"⟩
abbrev cX7_sumIn : ByteArray := prog_9_method_3_code
def yX7_sumIn : MethodName := ⟨RX7, "sumIn", "(C)I"⟩
def RX8 : String := "Taperhall$Tapering"
def TX8 : u_T := fun k => match k with
  | 0 => ("Taperhall$Tapering", "loads", "[I", true)
  | 1 => ("Taperhall$Tapering", "start", "LTaperhall$Trace;", true)
  | 2 => ("Taperhall$Tapering", "trial", "LTaperhall$Trace;", true)
  | 3 => ("Taperhall$Tapering", "days", "I", false)
  | 4 => ("Taperhall$Tapering", "bestNumber", "I", false)
  | _ => ("Taperhall$Tapering", "bestLevel", "I", false)
def tyX8 : Nat → FieldType := fun k => match k with
  | 0 => .array .int
  | 1 => .object "Taperhall$Trace"
  | 2 => .object "Taperhall$Trace"
  | 3 => .int
  | 4 => .int
  | _ => .int
abbrev wsX80 : List Cond := u_ws RX8 TX8 6
theorem nmX8 : ∀ a, a < 6 → ∀ b, b < 6 → a ≠ b → (TX8 a).2.1 ≠ (TX8 b).2.1 := by decide +kernel
theorem tyX8_ok : ∀ k, k < 6 → parseFieldDescriptor (TX8 k).2.2.1 = some (tyX8 k) := by decide +kernel
abbrev cX8_init : ByteArray := prog_10_method_1_code
def yX8_init : MethodName := ⟨RX8, "<init>", "()V"⟩
abbrev cX8_begin : ByteArray := prog_10_method_2_code
def yX8_begin : MethodName := ⟨RX8, "begin", "(LTaperhall$Trace;I)V"⟩
abbrev cX8_expect : ByteArray := prog_10_method_3_code
def yX8_expect : MethodName := ⟨RX8, "expect", "(II)V"⟩
abbrev cX8_search : ByteArray := prog_10_method_4_code
def yX8_search : MethodName := ⟨RX8, "search", "()V"⟩
abbrev cX8_levelBy : ByteArray := prog_10_method_5_code
def yX8_levelBy : MethodName := ⟨RX8, "levelBy", "(I)I"⟩
abbrev cX8_digitOf : ByteArray := prog_10_method_6_code
def yX8_digitOf : MethodName := ⟨RX8, "digitOf", "(II)I"⟩
abbrev cX8_bestChoice : ByteArray := prog_10_method_7_code
def yX8_bestChoice : MethodName := ⟨RX8, "bestChoice", "(I)C"⟩
def RX9 : String := "Taperhall$Trace"
def TX9 : u_T := fun k => match k with
  | 0 => ("Taperhall$Trace", "formPace", "I", false)
  | 1 => ("Taperhall$Trace", "fatiguePace", "I", false)
  | 2 => ("Taperhall$Trace", "gain", "I", false)
  | 3 => ("Taperhall$Trace", "cost", "I", false)
  | 4 => ("Taperhall$Trace", "form", "I", false)
  | _ => ("Taperhall$Trace", "fatigue", "I", false)
def tyX9 : Nat → FieldType := fun k => match k with
  | 0 => .int
  | 1 => .int
  | 2 => .int
  | 3 => .int
  | 4 => .int
  | _ => .int
abbrev wsX90 : List Cond := u_ws RX9 TX9 6
theorem nmX9 : ∀ a, a < 6 → ∀ b, b < 6 → a ≠ b → (TX9 a).2.1 ≠ (TX9 b).2.1 := by decide +kernel
theorem tyX9_ok : ∀ k, k < 6 → parseFieldDescriptor (TX9 k).2.2.1 = some (tyX9 k) := by decide +kernel
abbrev cX9_init : ByteArray := prog_11_method_1_code
def yX9_init : MethodName := ⟨RX9, "<init>", "()V"⟩
abbrev cX9_begin : ByteArray := prog_11_method_2_code
def yX9_begin : MethodName := ⟨RX9, "begin", "(IILTaperhall$Trace;)V"⟩
abbrev cX9_reply : ByteArray := prog_11_method_3_code
def yX9_reply : MethodName := ⟨RX9, "reply", "(II)V"⟩
abbrev cX9_copyFrom : ByteArray := prog_11_method_4_code
def yX9_copyFrom : MethodName := ⟨RX9, "copyFrom", "(LTaperhall$Trace;)V"⟩
abbrev cX9_live : ByteArray := prog_11_method_5_code
def yX9_live : MethodName := ⟨RX9, "live", "(I)V"⟩
abbrev cX9_faded : ByteArray := prog_11_method_6_code
def yX9_faded : MethodName := ⟨RX9, "faded", "(II)I"⟩
abbrev cX9_level : ByteArray := prog_11_method_7_code
def yX9_level : MethodName := ⟨RX9, "level", "()I"⟩
def RX10 : String := "Taperhall"
def TX10 : u_T := fun k => match k with
  | 0 => ("Taperhall", "book", "LTaperhall$Book;", true)
  | 1 => ("Taperhall", "script", "LTaperhall$Script;", true)
  | 2 => ("Taperhall", "athletes", "Ljava/util/ArrayList;", true)
  | 3 => ("Taperhall", "draft", "[C", true)
  | 4 => ("Taperhall", "thought", "LTaperhall$Trace;", true)
  | 5 => ("Taperhall", "tapering", "LTaperhall$Tapering;", true)
  | 6 => ("Taperhall", "lanes", "I", false)
  | 7 => ("Taperhall", "today", "I", false)
  | 8 => ("Taperhall", "z", "I", false)
  | 9 => ("Taperhall", "error", "I", false)
  | _ => ("Taperhall", "standard", "I", false)
def tyX10 : Nat → FieldType := fun k => match k with
  | 0 => .object "Taperhall$Book"
  | 1 => .object "Taperhall$Script"
  | 2 => .object "java/util/ArrayList"
  | 3 => .array .char
  | 4 => .object "Taperhall$Trace"
  | 5 => .object "Taperhall$Tapering"
  | 6 => .int
  | 7 => .int
  | 8 => .int
  | 9 => .int
  | _ => .int
abbrev wsX100 : List Cond := u_ws RX10 TX10 11
theorem nmX10 : ∀ a, a < 11 → ∀ b, b < 11 → a ≠ b → (TX10 a).2.1 ≠ (TX10 b).2.1 := by decide +kernel
theorem tyX10_ok : ∀ k, k < 11 → parseFieldDescriptor (TX10 k).2.2.1 = some (tyX10 k) := by decide +kernel
abbrev cX10_init : ByteArray := prog_1_method_1_code
def yX10_init : MethodName := ⟨RX10, "<init>", "()V"⟩
abbrev cX10_session : ByteArray := prog_1_method_2_code
def yX10_session : MethodName := ⟨RX10, "session", "()C"⟩
abbrev cX10_set : ByteArray := prog_1_method_3_code
def yX10_set : MethodName := ⟨RX10, "set", "(CIII)I"⟩
abbrev cX10_load : ByteArray := prog_1_method_4_code
def yX10_load : MethodName := ⟨RX10, "load", "(CC)I"⟩
abbrev cX10_turn : ByteArray := prog_1_method_5_code
def yX10_turn : MethodName := ⟨RX10, "turn", "(ICC)J"⟩
abbrev cX10_type : ByteArray := prog_1_method_6_code
def yX10_type : MethodName := ⟨RX10, "type", "(C)I"⟩
abbrev cX10_wipe : ByteArray := prog_1_method_7_code
def yX10_wipe : MethodName := ⟨RX10, "wipe", "()I"⟩
abbrev cX10_fault : ByteArray := prog_1_method_8_code
def yX10_fault : MethodName := ⟨RX10, "fault", "()I"⟩
abbrev cX10_unfolds : ByteArray := prog_1_method_9_code
def yX10_unfolds : MethodName := ⟨RX10, "unfolds", "()I"⟩
abbrev cX10_athlete : ByteArray := prog_1_method_10_code
def yX10_athlete : MethodName := ⟨RX10, "athlete", "(IIIII)I"⟩
abbrev cX10_answers : ByteArray := prog_1_method_11_code
def yX10_answers : MethodName := ⟨RX10, "answers", "(IIII)I"⟩
abbrev cX10_setCeiling : ByteArray := prog_1_method_12_code
def yX10_setCeiling : MethodName := ⟨RX10, "setCeiling", "(II)I"⟩
abbrev cX10_plan : ByteArray := prog_1_method_13_code
def yX10_plan : MethodName := ⟨RX10, "plan", "(II)I"⟩
abbrev cX10_shift : ByteArray := prog_1_method_14_code
def yX10_shift : MethodName := ⟨RX10, "shift", "(III)I"⟩
abbrev cX10_drop : ByteArray := prog_1_method_15_code
def yX10_drop : MethodName := ⟨RX10, "drop", "(II)C"⟩
abbrev cX10_planned : ByteArray := prog_1_method_16_code
def yX10_planned : MethodName := ⟨RX10, "planned", "(II)C"⟩
abbrev cX10_felt : ByteArray := prog_1_method_17_code
def yX10_felt : MethodName := ⟨RX10, "felt", "(II)I"⟩
abbrev cX10_peak : ByteArray := prog_1_method_18_code
def yX10_peak : MethodName := ⟨RX10, "peak", "(I)I"⟩
abbrev cX10_setLanes : ByteArray := prog_1_method_19_code
def yX10_setLanes : MethodName := ⟨RX10, "setLanes", "(I)I"⟩
abbrev cX10_pass : ByteArray := prog_1_method_20_code
def yX10_pass : MethodName := ⟨RX10, "pass", "(I)I"⟩
abbrev cX10_body : ByteArray := prog_1_method_21_code
def yX10_body : MethodName := ⟨RX10, "body", "(IC)J"⟩
abbrev cX10_ill : ByteArray := prog_1_method_22_code
def yX10_ill : MethodName := ⟨RX10, "ill", "(II)I"⟩
abbrev cX10_comeBack : ByteArray := prog_1_method_23_code
def yX10_comeBack : MethodName := ⟨RX10, "comeBack", "(II)I"⟩
abbrev cX10_changes : ByteArray := prog_1_method_24_code
def yX10_changes : MethodName := ⟨RX10, "changes", "(I)I"⟩
abbrev cX10_cause : ByteArray := prog_1_method_25_code
def yX10_cause : MethodName := ⟨RX10, "cause", "(II)C"⟩
abbrev cX10_changeDay : ByteArray := prog_1_method_26_code
def yX10_changeDay : MethodName := ⟨RX10, "changeDay", "(II)I"⟩
abbrev cX10_camp : ByteArray := prog_1_method_27_code
def yX10_camp : MethodName := ⟨RX10, "camp", "(II)I"⟩
abbrev cX10_setError : ByteArray := prog_1_method_28_code
def yX10_setError : MethodName := ⟨RX10, "setError", "(I)I"⟩
abbrev cX10_test : ByteArray := prog_1_method_29_code
def yX10_test : MethodName := ⟨RX10, "test", "(I)I"⟩
abbrev cX10_rivals : ByteArray := prog_1_method_30_code
def yX10_rivals : MethodName := ⟨RX10, "rivals", "(I)I"⟩
abbrev cX10_fit : ByteArray := prog_1_method_31_code
def yX10_fit : MethodName := ⟨RX10, "fit", "(IIC)J"⟩
abbrev cX10_forecast : ByteArray := prog_1_method_32_code
def yX10_forecast : MethodName := ⟨RX10, "forecast", "(III)J"⟩
abbrev cX10_setStandard : ByteArray := prog_1_method_33_code
def yX10_setStandard : MethodName := ⟨RX10, "setStandard", "(I)I"⟩
abbrev cX10_race : ByteArray := prog_1_method_34_code
def yX10_race : MethodName := ⟨RX10, "race", "(I)I"⟩
abbrev cX10_isQualified : ByteArray := prog_1_method_35_code
def yX10_isQualified : MethodName := ⟨RX10, "isQualified", "(I)Z"⟩
abbrev cX10_best : ByteArray := prog_1_method_36_code
def yX10_best : MethodName := ⟨RX10, "best", "(I)I"⟩
abbrev cX10_selected : ByteArray := prog_1_method_37_code
def yX10_selected : MethodName := ⟨RX10, "selected", "(II)I"⟩
abbrev cX10_taper : ByteArray := prog_1_method_38_code
def yX10_taper : MethodName := ⟨RX10, "taper", "(III)J"⟩
abbrev cX10_taperAt : ByteArray := prog_1_method_39_code
def yX10_taperAt : MethodName := ⟨RX10, "taperAt", "(IIII)C"⟩
abbrev cX10_seed : ByteArray := prog_1_method_40_code
def yX10_seed : MethodName := ⟨RX10, "seed", "(I)I"⟩
abbrev cX10_today : ByteArray := prog_1_method_41_code
def yX10_today : MethodName := ⟨RX10, "today", "()I"⟩
abbrev cX10_checksum : ByteArray := prog_1_method_42_code
def yX10_checksum : MethodName := ⟨RX10, "checksum", "()J"⟩
abbrev cX10_fitShare : ByteArray := prog_1_method_43_code
def yX10_fitShare : MethodName := ⟨RX10, "fitShare", "()F"⟩
abbrev cX10_meanFelt : ByteArray := prog_1_method_44_code
def yX10_meanFelt : MethodName := ⟨RX10, "meanFelt", "()D"⟩
abbrev cX10_isSound : ByteArray := prog_1_method_45_code
def yX10_isSound : MethodName := ⟨RX10, "isSound", "()Z"⟩
abbrev cX10_known : ByteArray := prog_1_method_46_code
def yX10_known : MethodName := ⟨RX10, "known", "(I)LTaperhall$Athlete;"⟩
abbrev cX10_knownSession : ByteArray := prog_1_method_47_code
def yX10_knownSession : MethodName := ⟨RX10, "knownSession", "(C)LTaperhall$Session;"⟩
abbrev cX10_knownFit : ByteArray := prog_1_method_48_code
def yX10_knownFit : MethodName := ⟨RX10, "knownFit", "(LTaperhall$Fits;I)I"⟩
abbrev cX10_needRange : ByteArray := prog_1_method_49_code
def yX10_needRange : MethodName := ⟨RX10, "needRange", "(III)V"⟩
abbrev cX10_needUnit : ByteArray := prog_1_method_50_code
def yX10_needUnit : MethodName := ⟨RX10, "needUnit", "(C)V"⟩
abbrev cX10_needElement : ByteArray := prog_1_method_51_code
def yX10_needElement : MethodName := ⟨RX10, "needElement", "(II)V"⟩
abbrev cX10_needTaper : ByteArray := prog_1_method_52_code
def yX10_needTaper : MethodName := ⟨RX10, "needTaper", "(II)V"⟩
abbrev cX10_isTypable : ByteArray := prog_1_method_53_code
def yX10_isTypable : MethodName := ⟨RX10, "isTypable", "(C)Z"⟩
abbrev cX10_isSmallLetter : ByteArray := prog_1_method_54_code
def yX10_isSmallLetter : MethodName := ⟨RX10, "isSmallLetter", "(C)Z"⟩
abbrev cX10_isCount : ByteArray := prog_1_method_55_code
def yX10_isCount : MethodName := ⟨RX10, "isCount", "(C)Z"⟩
abbrev cX10_isStillPlanned : ByteArray := prog_1_method_56_code
def yX10_isStillPlanned : MethodName := ⟨RX10, "isStillPlanned", "(C)Z"⟩
abbrev cX10_busiestWeek : ByteArray := prog_1_method_57_code
def yX10_busiestWeek : MethodName := ⟨RX10, "busiestWeek", "(LTaperhall$Athlete;)I"⟩
abbrev cX10_adoptDraft : ByteArray := prog_1_method_58_code
def yX10_adoptDraft : MethodName := ⟨RX10, "adoptDraft", "(LTaperhall$Athlete;)V"⟩
abbrev cX10_goThroughDay : ByteArray := prog_1_method_59_code
def yX10_goThroughDay : MethodName := ⟨RX10, "goThroughDay", "()V"⟩
abbrev cX10_train : ByteArray := prog_1_method_60_code
def yX10_train : MethodName := ⟨RX10, "train", "(LTaperhall$Athlete;)V"⟩
abbrev cX10_countAheadOf : ByteArray := prog_1_method_61_code
def yX10_countAheadOf : MethodName := ⟨RX10, "countAheadOf", "(LTaperhall$Athlete;)I"⟩
abbrev cX10_wantsLane : ByteArray := prog_1_method_62_code
def yX10_wantsLane : MethodName := ⟨RX10, "wantsLane", "(LTaperhall$Athlete;)Z"⟩
abbrev cX10_goesAhead : ByteArray := prog_1_method_63_code
def yX10_goesAhead : MethodName := ⟨RX10, "goesAhead", "(LTaperhall$Athlete;LTaperhall$Athlete;)Z"⟩
abbrev cX10_recover : ByteArray := prog_1_method_64_code
def yX10_recover : MethodName := ⟨RX10, "recover", "(LTaperhall$Athlete;)V"⟩
abbrev cX10_mayCatch : ByteArray := prog_1_method_65_code
def yX10_mayCatch : MethodName := ⟨RX10, "mayCatch", "(LTaperhall$Athlete;)V"⟩
abbrev cX10_isSquadIll : ByteArray := prog_1_method_66_code
def yX10_isSquadIll : MethodName := ⟨RX10, "isSquadIll", "(I)Z"⟩
abbrev cX10_restOfDraw : ByteArray := prog_1_method_67_code
def yX10_restOfDraw : MethodName := ⟨RX10, "restOfDraw", "(I)I"⟩
abbrev cX10_formPaceOf : ByteArray := prog_1_method_68_code
def yX10_formPaceOf : MethodName := ⟨RX10, "formPaceOf", "(I)I"⟩
abbrev cX10_fatiguePaceOf : ByteArray := prog_1_method_69_code
def yX10_fatiguePaceOf : MethodName := ⟨RX10, "fatiguePaceOf", "(I)I"⟩
abbrev cX10_fitted : ByteArray := prog_1_method_70_code
def yX10_fitted : MethodName := ⟨RX10, "fitted", "(LTaperhall$Athlete;)LTaperhall$Fits;"⟩
abbrev cX10_livePlanned : ByteArray := prog_1_method_71_code
def yX10_livePlanned : MethodName := ⟨RX10, "livePlanned", "(LTaperhall$Diary;II)V"⟩
abbrev cX10_qualifiedAt : ByteArray := prog_1_method_72_code
def yX10_qualifiedAt : MethodName := ⟨RX10, "qualifiedAt", "(I)I"⟩
abbrev cX10_countBetterThan : ByteArray := prog_1_method_73_code
def yX10_countBetterThan : MethodName := ⟨RX10, "countBetterThan", "(LTaperhall$Athlete;)I"⟩
abbrev cX10_isBetter : ByteArray := prog_1_method_74_code
def yX10_isBetter : MethodName := ⟨RX10, "isBetter", "(LTaperhall$Athlete;LTaperhall$Athlete;)Z"⟩
abbrev cX10_searchTaper : ByteArray := prog_1_method_75_code
def yX10_searchTaper : MethodName := ⟨RX10, "searchTaper", "(LTaperhall$Athlete;II)V"⟩
def RX11 : String := "TaperhallModel$Athlete"
def TX11 : u_T := fun k => match k with
  | 0 => ("TaperhallModel$Athlete", "squad", "I", true)
  | 1 => ("TaperhallModel$Athlete", "priority", "I", true)
  | 2 => ("TaperhallModel$Athlete", "base", "I", true)
  | 3 => ("TaperhallModel$Athlete", "formPace", "I", true)
  | 4 => ("TaperhallModel$Athlete", "fatiguePace", "I", true)
  | 5 => ("TaperhallModel$Athlete", "gain", "I", false)
  | 6 => ("TaperhallModel$Athlete", "cost", "I", false)
  | 7 => ("TaperhallModel$Athlete", "tolerance", "I", false)
  | 8 => ("TaperhallModel$Athlete", "ceiling", "I", false)
  | 9 => ("TaperhallModel$Athlete", "planned", "[C", false)
  | 10 => ("TaperhallModel$Athlete", "done", "[I", true)
  | 11 => ("TaperhallModel$Athlete", "felt", "[I", true)
  | 12 => ("TaperhallModel$Athlete", "form", "J", false)
  | 13 => ("TaperhallModel$Athlete", "fatigue", "J", false)
  | 14 => ("TaperhallModel$Athlete", "damage", "J", false)
  | 15 => ("TaperhallModel$Athlete", "step", "I", false)
  | 16 => ("TaperhallModel$Athlete", "illTo", "I", false)
  | 17 => ("TaperhallModel$Athlete", "campLast", "I", false)
  | 18 => ("TaperhallModel$Athlete", "campDays", "I", false)
  | 19 => ("TaperhallModel$Athlete", "backOn", "I", false)
  | 20 => ("TaperhallModel$Athlete", "causes", "Ljava/util/ArrayList;", true)
  | 21 => ("TaperhallModel$Athlete", "causeDays", "Ljava/util/ArrayList;", true)
  | 22 => ("TaperhallModel$Athlete", "testDays", "Ljava/util/ArrayList;", true)
  | 23 => ("TaperhallModel$Athlete", "tests", "Ljava/util/ArrayList;", true)
  | 24 => ("TaperhallModel$Athlete", "isQualified", "Z", false)
  | 25 => ("TaperhallModel$Athlete", "hasBest", "Z", false)
  | _ => ("TaperhallModel$Athlete", "best", "I", false)
def tyX11 : Nat → FieldType := fun k => match k with
  | 0 => .int
  | 1 => .int
  | 2 => .int
  | 3 => .int
  | 4 => .int
  | 5 => .int
  | 6 => .int
  | 7 => .int
  | 8 => .int
  | 9 => .array .char
  | 10 => .array .int
  | 11 => .array .int
  | 12 => .long
  | 13 => .long
  | 14 => .long
  | 15 => .int
  | 16 => .int
  | 17 => .int
  | 18 => .int
  | 19 => .int
  | 20 => .object "java/util/ArrayList"
  | 21 => .object "java/util/ArrayList"
  | 22 => .object "java/util/ArrayList"
  | 23 => .object "java/util/ArrayList"
  | 24 => .boolean
  | 25 => .boolean
  | _ => .int
abbrev wsX110 : List Cond := u_ws RX11 TX11 27
theorem nmX11 : ∀ a, a < 27 → ∀ b, b < 27 → a ≠ b → (TX11 a).2.1 ≠ (TX11 b).2.1 := by decide +kernel
theorem tyX11_ok : ∀ k, k < 27 → parseFieldDescriptor (TX11 k).2.2.1 = some (tyX11 k) := by decide +kernel
abbrev cX11_init : ByteArray := prog_14_method_1_code
def yX11_init : MethodName := ⟨RX11, "<init>", "(IIIII)V"⟩
abbrev cX11_changes : ByteArray := prog_14_method_2_code
def yX11_changes : MethodName := ⟨RX11, "changes", "(CI)V"⟩
abbrev cX11_camp : ByteArray := prog_14_method_3_code
def yX11_camp : MethodName := ⟨RX11, "camp", "(I)I"⟩
abbrev cX11_ready : ByteArray := prog_14_method_4_code
def yX11_ready : MethodName := ⟨RX11, "ready", "(I)J"⟩
def RX12 : String := "TaperhallModel$Session"
def TX12 : u_T := fun k => match k with
  | _ => ("TaperhallModel$Session", "sets", "Ljava/util/ArrayList;", true)
def tyX12 : Nat → FieldType := fun k => match k with
  | _ => .object "java/util/ArrayList"
abbrev wsX120 : List Cond := u_ws RX12 TX12 1
theorem nmX12 : ∀ a, a < 1 → ∀ b, b < 1 → a ≠ b → (TX12 a).2.1 ≠ (TX12 b).2.1 := by decide +kernel
theorem tyX12_ok : ∀ k, k < 1 → parseFieldDescriptor (TX12 k).2.2.1 = some (tyX12 k) := by decide +kernel
abbrev cX12_init : ByteArray := prog_15_method_1_code
def yX12_init : MethodName := ⟨RX12, "<init>", "()V"⟩
abbrev cX12_load : ByteArray := prog_15_method_2_code
def yX12_load : MethodName := ⟨RX12, "load", "(C)I"⟩
abbrev cX12_felt : ByteArray := prog_15_method_3_code
def yX12_felt : MethodName := ⟨RX12, "felt", "()I"⟩
abbrev cX12_isHard : ByteArray := prog_15_method_4_code
def yX12_isHard : MethodName := ⟨RX12, "isHard", "()Z"⟩
def RX13 : String := "TaperhallModel"
def TX13 : u_T := fun k => match k with
  | 0 => ("TaperhallModel", "thrown", "I", false)
  | 1 => ("TaperhallModel", "sessions", "Ljava/util/ArrayList;", true)
  | 2 => ("TaperhallModel", "athletes", "Ljava/util/ArrayList;", true)
  | 3 => ("TaperhallModel", "typed", "Ljava/lang/StringBuilder;", true)
  | 4 => ("TaperhallModel", "today", "I", false)
  | 5 => ("TaperhallModel", "lanes", "I", false)
  | 6 => ("TaperhallModel", "error", "I", false)
  | 7 => ("TaperhallModel", "standard", "I", false)
  | _ => ("TaperhallModel", "z", "J", false)
def tyX13 : Nat → FieldType := fun k => match k with
  | 0 => .int
  | 1 => .object "java/util/ArrayList"
  | 2 => .object "java/util/ArrayList"
  | 3 => .object "java/lang/StringBuilder"
  | 4 => .int
  | 5 => .int
  | 6 => .int
  | 7 => .int
  | _ => .long
abbrev wsX130 : List Cond := u_ws RX13 TX13 9
theorem nmX13 : ∀ a, a < 9 → ∀ b, b < 9 → a ≠ b → (TX13 a).2.1 ≠ (TX13 b).2.1 := by decide +kernel
theorem tyX13_ok : ∀ k, k < 9 → parseFieldDescriptor (TX13 k).2.2.1 = some (tyX13 k) := by decide +kernel
abbrev cX13_in : ByteArray := prog_13_method_1_code
def yX13_in : MethodName := ⟨RX13, "in", "(JJJ)Z"⟩
abbrev cX13_init : ByteArray := prog_13_method_2_code
def yX13_init : MethodName := ⟨RX13, "<init>", "()V"⟩
abbrev cX13_thrown : ByteArray := prog_13_method_3_code
def yX13_thrown : MethodName := ⟨RX13, "thrown", "()I"⟩
abbrev cX13_rest : ByteArray := prog_13_method_4_code
def yX13_rest : MethodName := ⟨RX13, "rest", "(I)I"⟩
abbrev cX13_named : ByteArray := prog_13_method_5_code
def yX13_named : MethodName := ⟨RX13, "named", "(C)LTaperhallModel$Session;"⟩
abbrev cX13_isUnit : ByteArray := prog_13_method_6_code
def yX13_isUnit : MethodName := ⟨RX13, "isUnit", "(C)Z"⟩
abbrev cX13_feltBy : ByteArray := prog_13_method_7_code
def yX13_feltBy : MethodName := ⟨RX13, "feltBy", "(C)I"⟩
abbrev cX13_session : ByteArray := prog_13_method_8_code
def yX13_session : MethodName := ⟨RX13, "session", "()C"⟩
abbrev cX13_isPlanned : ByteArray := prog_13_method_9_code
def yX13_isPlanned : MethodName := ⟨RX13, "isPlanned", "(C)Z"⟩
abbrev cX13_set : ByteArray := prog_13_method_10_code
def yX13_set : MethodName := ⟨RX13, "set", "(CIII)I"⟩
abbrev cX13_load : ByteArray := prog_13_method_11_code
def yX13_load : MethodName := ⟨RX13, "load", "(CC)I"⟩
abbrev cX13_sum : ByteArray := prog_13_method_12_code
def yX13_sum : MethodName := ⟨RX13, "sum", "(C)J"⟩
abbrev cX13_turn : ByteArray := prog_13_method_13_code
def yX13_turn : MethodName := ⟨RX13, "turn", "(ICC)J"⟩
abbrev cX13_type : ByteArray := prog_13_method_14_code
def yX13_type : MethodName := ⟨RX13, "type", "(C)I"⟩
abbrev cX13_wipe : ByteArray := prog_13_method_15_code
def yX13_wipe : MethodName := ⟨RX13, "wipe", "()I"⟩
abbrev cX13_faultOf : ByteArray := prog_13_method_16_code
def yX13_faultOf : MethodName := ⟨RX13, "faultOf", "()I"⟩
abbrev cX13_unfolded : ByteArray := prog_13_method_17_code
def yX13_unfolded : MethodName := ⟨RX13, "unfolded", "()Ljava/util/ArrayList;"⟩
abbrev cX13_fault : ByteArray := prog_13_method_18_code
def yX13_fault : MethodName := ⟨RX13, "fault", "()I"⟩
abbrev cX13_unfolds : ByteArray := prog_13_method_19_code
def yX13_unfolds : MethodName := ⟨RX13, "unfolds", "()I"⟩
abbrev cX13_noAthlete : ByteArray := prog_13_method_20_code
def yX13_noAthlete : MethodName := ⟨RX13, "noAthlete", "(I)Z"⟩
abbrev cX13_athlete : ByteArray := prog_13_method_21_code
def yX13_athlete : MethodName := ⟨RX13, "athlete", "(IIIII)I"⟩
abbrev cX13_answers : ByteArray := prog_13_method_22_code
def yX13_answers : MethodName := ⟨RX13, "answers", "(IIII)I"⟩
abbrev cX13_peakOf : ByteArray := prog_13_method_23_code
def yX13_peakOf : MethodName := ⟨RX13, "peakOf", "(LTaperhallModel$Athlete;[C)I"⟩
abbrev cX13_setCeiling : ByteArray := prog_13_method_24_code
def yX13_setCeiling : MethodName := ⟨RX13, "setCeiling", "(II)I"⟩
abbrev cX13_copy : ByteArray := prog_13_method_25_code
def yX13_copy : MethodName := ⟨RX13, "copy", "([C)[C"⟩
abbrev cX13_plan : ByteArray := prog_13_method_26_code
def yX13_plan : MethodName := ⟨RX13, "plan", "(II)I"⟩
abbrev cX13_shift : ByteArray := prog_13_method_27_code
def yX13_shift : MethodName := ⟨RX13, "shift", "(III)I"⟩
abbrev cX13_drop : ByteArray := prog_13_method_28_code
def yX13_drop : MethodName := ⟨RX13, "drop", "(II)C"⟩
abbrev cX13_planned : ByteArray := prog_13_method_29_code
def yX13_planned : MethodName := ⟨RX13, "planned", "(II)C"⟩
abbrev cX13_felt : ByteArray := prog_13_method_30_code
def yX13_felt : MethodName := ⟨RX13, "felt", "(II)I"⟩
abbrev cX13_peak : ByteArray := prog_13_method_31_code
def yX13_peak : MethodName := ⟨RX13, "peak", "(I)I"⟩
abbrev cX13_setLanes : ByteArray := prog_13_method_32_code
def yX13_setLanes : MethodName := ⟨RX13, "setLanes", "(I)I"⟩
abbrev cX13_trains : ByteArray := prog_13_method_33_code
def yX13_trains : MethodName := ⟨RX13, "trains", "(LTaperhallModel$Athlete;)Z"⟩
abbrev cX13_isHard : ByteArray := prog_13_method_34_code
def yX13_isHard : MethodName := ⟨RX13, "isHard", "(LTaperhallModel$Athlete;)Z"⟩
abbrev cX13_ahead : ByteArray := prog_13_method_35_code
def yX13_ahead : MethodName := ⟨RX13, "ahead", "(I)I"⟩
abbrev cX13_day : ByteArray := prog_13_method_36_code
def yX13_day : MethodName := ⟨RX13, "day", "()V"⟩
abbrev cX13_pass : ByteArray := prog_13_method_37_code
def yX13_pass : MethodName := ⟨RX13, "pass", "(I)I"⟩
abbrev cX13_body : ByteArray := prog_13_method_38_code
def yX13_body : MethodName := ⟨RX13, "body", "(IC)J"⟩
abbrev cX13_ill : ByteArray := prog_13_method_39_code
def yX13_ill : MethodName := ⟨RX13, "ill", "(II)I"⟩
abbrev cX13_comeBack : ByteArray := prog_13_method_40_code
def yX13_comeBack : MethodName := ⟨RX13, "comeBack", "(II)I"⟩
abbrev cX13_changes : ByteArray := prog_13_method_41_code
def yX13_changes : MethodName := ⟨RX13, "changes", "(I)I"⟩
abbrev cX13_noChange : ByteArray := prog_13_method_42_code
def yX13_noChange : MethodName := ⟨RX13, "noChange", "(II)Z"⟩
abbrev cX13_cause : ByteArray := prog_13_method_43_code
def yX13_cause : MethodName := ⟨RX13, "cause", "(II)C"⟩
abbrev cX13_changeDay : ByteArray := prog_13_method_44_code
def yX13_changeDay : MethodName := ⟨RX13, "changeDay", "(II)I"⟩
abbrev cX13_camp : ByteArray := prog_13_method_45_code
def yX13_camp : MethodName := ⟨RX13, "camp", "(II)I"⟩
abbrev cX13_setError : ByteArray := prog_13_method_46_code
def yX13_setError : MethodName := ⟨RX13, "setError", "(I)I"⟩
abbrev cX13_test : ByteArray := prog_13_method_47_code
def yX13_test : MethodName := ⟨RX13, "test", "(I)I"⟩
abbrev cX13_by : ByteArray := prog_13_method_48_code
def yX13_by : MethodName := ⟨RX13, "by", "(LTaperhallModel$Athlete;III)J"⟩
abbrev cX13_fitted : ByteArray := prog_13_method_49_code
def yX13_fitted : MethodName := ⟨RX13, "fitted", "(LTaperhallModel$Athlete;II)[J"⟩
abbrev cX13_allFits : ByteArray := prog_13_method_50_code
def yX13_allFits : MethodName := ⟨RX13, "allFits", "(LTaperhallModel$Athlete;)Ljava/util/ArrayList;"⟩
abbrev cX13_bestOf : ByteArray := prog_13_method_51_code
def yX13_bestOf : MethodName := ⟨RX13, "bestOf", "(Ljava/util/ArrayList;)[J"⟩
abbrev cX13_rivalsOf : ByteArray := prog_13_method_52_code
def yX13_rivalsOf : MethodName := ⟨RX13, "rivalsOf", "(Ljava/util/ArrayList;)Ljava/util/ArrayList;"⟩
abbrev cX13_rivals : ByteArray := prog_13_method_53_code
def yX13_rivals : MethodName := ⟨RX13, "rivals", "(I)I"⟩
abbrev cX13_found : ByteArray := prog_13_method_54_code
def yX13_found : MethodName := ⟨RX13, "found", "(IIZ)[J"⟩
abbrev cX13_fit : ByteArray := prog_13_method_55_code
def yX13_fit : MethodName := ⟨RX13, "fit", "(IIC)J"⟩
abbrev cX13_forecast : ByteArray := prog_13_method_56_code
def yX13_forecast : MethodName := ⟨RX13, "forecast", "(III)J"⟩
abbrev cX13_setStandard : ByteArray := prog_13_method_57_code
def yX13_setStandard : MethodName := ⟨RX13, "setStandard", "(I)I"⟩
abbrev cX13_race : ByteArray := prog_13_method_58_code
def yX13_race : MethodName := ⟨RX13, "race", "(I)I"⟩
abbrev cX13_isQualified : ByteArray := prog_13_method_59_code
def yX13_isQualified : MethodName := ⟨RX13, "isQualified", "(I)Z"⟩
abbrev cX13_best : ByteArray := prog_13_method_60_code
def yX13_best : MethodName := ⟨RX13, "best", "(I)I"⟩
abbrev cX13_selected : ByteArray := prog_13_method_61_code
def yX13_selected : MethodName := ⟨RX13, "selected", "(II)I"⟩
abbrev cX13_tapered : ByteArray := prog_13_method_62_code
def yX13_tapered : MethodName := ⟨RX13, "tapered", "(LTaperhallModel$Athlete;III)J"⟩
abbrev cX13_bestTaper : ByteArray := prog_13_method_63_code
def yX13_bestTaper : MethodName := ⟨RX13, "bestTaper", "(LTaperhallModel$Athlete;II)I"⟩
abbrev cX13_noTaper : ByteArray := prog_13_method_64_code
def yX13_noTaper : MethodName := ⟨RX13, "noTaper", "(III)Z"⟩
abbrev cX13_taper : ByteArray := prog_13_method_65_code
def yX13_taper : MethodName := ⟨RX13, "taper", "(III)J"⟩
abbrev cX13_taperAt : ByteArray := prog_13_method_66_code
def yX13_taperAt : MethodName := ⟨RX13, "taperAt", "(IIII)C"⟩
abbrev cX13_seed : ByteArray := prog_13_method_67_code
def yX13_seed : MethodName := ⟨RX13, "seed", "(I)I"⟩
abbrev cX13_today : ByteArray := prog_13_method_68_code
def yX13_today : MethodName := ⟨RX13, "today", "()I"⟩
abbrev cX13_checksum : ByteArray := prog_13_method_69_code
def yX13_checksum : MethodName := ⟨RX13, "checksum", "()J"⟩
abbrev cX13_fitShare : ByteArray := prog_13_method_70_code
def yX13_fitShare : MethodName := ⟨RX13, "fitShare", "()F"⟩
abbrev cX13_meanFelt : ByteArray := prog_13_method_71_code
def yX13_meanFelt : MethodName := ⟨RX13, "meanFelt", "()D"⟩
abbrev cX13_isSound : ByteArray := prog_13_method_72_code
def yX13_isSound : MethodName := ⟨RX13, "isSound", "()Z"⟩
def RJx145de : String := "java/io/Serializable"
def TJx145de : u_T := fun k => match k with
  | _ => ("", "", "", false)
def tyJx145de : Nat → FieldType := fun k => match k with
  | _ => .int
abbrev wsJx145de0 : List Cond := u_ws RJx145de TJx145de 0
theorem nmJx145de : ∀ a, a < 0 → ∀ b, b < 0 → a ≠ b → (TJx145de a).2.1 ≠ (TJx145de b).2.1 := by decide +kernel
theorem tyJx145de_ok : ∀ k, k < 0 → parseFieldDescriptor (TJx145de k).2.2.1 = some (tyJx145de k) := by decide +kernel
def RJ5 : String := "java/lang/AbstractStringBuilder"
def TJ5 : u_T := fun k => match k with
  | _ => ("", "", "", false)
def tyJ5 : Nat → FieldType := fun k => match k with
  | _ => .int
abbrev wsJ50 : List Cond := u_ws RJ5 TJ5 0
theorem nmJ5 : ∀ a, a < 0 → ∀ b, b < 0 → a ≠ b → (TJ5 a).2.1 ≠ (TJ5 b).2.1 := by decide +kernel
theorem tyJ5_ok : ∀ k, k < 0 → parseFieldDescriptor (TJ5 k).2.2.1 = some (tyJ5 k) := by decide +kernel
abbrev cJ5_init_d00df : ByteArray := prog_17_method_2_code
def yJ5_init_d00df : MethodName := ⟨RJ5, "<init>", "(I)V"⟩
abbrev cJ5_length_8abf5 : ByteArray := prog_17_method_6_code
def yJ5_length_8abf5 : MethodName := ⟨RJ5, "length", "()I"⟩
abbrev cJ5_ensureCapacityInternal_d00df : ByteArray := prog_17_method_9_code
def yJ5_ensureCapacityInternal_d00df : MethodName := ⟨RJ5, "ensureCapacityInternal", "(I)V"⟩
abbrev cJ5_newCapacity_0f7a4 : ByteArray := prog_17_method_10_code
def yJ5_newCapacity_0f7a4 : MethodName := ⟨RJ5, "newCapacity", "(I)I"⟩
abbrev cJ5_inflate_da8c8 : ByteArray := prog_17_method_11_code
def yJ5_inflate_da8c8 : MethodName := ⟨RJ5, "inflate", "()V"⟩
abbrev cJ5_setLength_d00df : ByteArray := prog_17_method_13_code
def yJ5_setLength_d00df : MethodName := ⟨RJ5, "setLength", "(I)V"⟩
abbrev cJ5_charAt_5068e : ByteArray := prog_17_method_14_code
def yJ5_charAt_5068e : MethodName := ⟨RJ5, "charAt", "(I)C"⟩
abbrev cJ5_append_cf1ce : ByteArray := prog_17_method_22_code
def yJ5_append_cf1ce : MethodName := ⟨RJ5, "append", "(Ljava/lang/String;)Ljava/lang/AbstractStringBuilder;"⟩
abbrev cJ5_appendNull_278bc : ByteArray := prog_17_method_26_code
def yJ5_appendNull_278bc : MethodName := ⟨RJ5, "appendNull", "()Ljava/lang/AbstractStringBuilder;"⟩
abbrev cJ5_append_3fe6f : ByteArray := prog_17_method_31_code
def yJ5_append_3fe6f : MethodName := ⟨RJ5, "append", "(C)Ljava/lang/AbstractStringBuilder;"⟩
abbrev cJ5_append_c97b9 : ByteArray := prog_17_method_32_code
def yJ5_append_c97b9 : MethodName := ⟨RJ5, "append", "(I)Ljava/lang/AbstractStringBuilder;"⟩
abbrev cJ5_getValue_6d5f1 : ByteArray := prog_17_method_64_code
def yJ5_getValue_6d5f1 : MethodName := ⟨RJ5, "getValue", "()[B"⟩
abbrev cJ5_isLatin1_aae02 : ByteArray := prog_17_method_68_code
def yJ5_isLatin1_aae02 : MethodName := ⟨RJ5, "isLatin1", "()Z"⟩
abbrev cJ5_inflateIfNeededFor_a7421 : ByteArray := prog_17_method_71_code
def yJ5_inflateIfNeededFor_a7421 : MethodName := ⟨RJ5, "inflateIfNeededFor", "(Ljava/lang/String;)V"⟩
abbrev cJ5_putStringAt_47b60 : ByteArray := prog_17_method_73_code
def yJ5_putStringAt_47b60 : MethodName := ⟨RJ5, "putStringAt", "(ILjava/lang/String;)V"⟩
def RJx2cfe8 : String := "java/lang/Appendable"
def TJx2cfe8 : u_T := fun k => match k with
  | _ => ("", "", "", false)
def tyJx2cfe8 : Nat → FieldType := fun k => match k with
  | _ => .int
abbrev wsJx2cfe80 : List Cond := u_ws RJx2cfe8 TJx2cfe8 0
theorem nmJx2cfe8 : ∀ a, a < 0 → ∀ b, b < 0 → a ≠ b → (TJx2cfe8 a).2.1 ≠ (TJx2cfe8 b).2.1 := by decide +kernel
theorem tyJx2cfe8_ok : ∀ k, k < 0 → parseFieldDescriptor (TJx2cfe8 k).2.2.1 = some (tyJx2cfe8 k) := by decide +kernel
def RJx00060 : String := "java/lang/ArrayIndexOutOfBoundsException"
def TJx00060 : u_T := fun k => match k with
  | 0 => ("java/lang/Throwable", "backtrace", "Ljava/lang/Object;", false)
  | 1 => ("java/lang/Throwable", "detailMessage", "Ljava/lang/String;", false)
  | 2 => ("java/lang/Throwable", "cause", "Ljava/lang/Throwable;", false)
  | 3 => ("java/lang/Throwable", "stackTrace", "[Ljava/lang/StackTraceElement;", false)
  | 4 => ("java/lang/Throwable", "depth", "I", false)
  | _ => ("java/lang/Throwable", "suppressedExceptions", "Ljava/util/List;", false)
def tyJx00060 : Nat → FieldType := fun k => match k with
  | 0 => .object "java/lang/Object"
  | 1 => .object "java/lang/String"
  | 2 => .object "java/lang/Throwable"
  | 3 => .array (.object "java/lang/StackTraceElement")
  | 4 => .int
  | _ => .object "java/util/List"
abbrev wsJx000600 : List Cond := u_ws RJx00060 TJx00060 6
theorem nmJx00060 : ∀ a, a < 6 → ∀ b, b < 6 → a ≠ b → (TJx00060 a).2.1 ≠ (TJx00060 b).2.1 := by decide +kernel
theorem tyJx00060_ok : ∀ k, k < 6 → parseFieldDescriptor (TJx00060 k).2.2.1 = some (tyJx00060 k) := by decide +kernel
abbrev cJx00060_init_a7421 : ByteArray := prog_20_method_2_code
def yJx00060_init_a7421 : MethodName := ⟨RJx00060, "<init>", "(Ljava/lang/String;)V"⟩
abbrev cJx00060_init_d00df : ByteArray := prog_20_method_3_code
def yJx00060_init_d00df : MethodName := ⟨RJx00060, "<init>", "(I)V"⟩
def RJx9f9b0 : String := "java/lang/CharSequence"
def TJx9f9b0 : u_T := fun k => match k with
  | _ => ("", "", "", false)
def tyJx9f9b0 : Nat → FieldType := fun k => match k with
  | _ => .int
abbrev wsJx9f9b00 : List Cond := u_ws RJx9f9b0 TJx9f9b0 0
theorem nmJx9f9b0 : ∀ a, a < 0 → ∀ b, b < 0 → a ≠ b → (TJx9f9b0 a).2.1 ≠ (TJx9f9b0 b).2.1 := by decide +kernel
theorem tyJx9f9b0_ok : ∀ k, k < 0 → parseFieldDescriptor (TJx9f9b0 k).2.2.1 = some (tyJx9f9b0 k) := by decide +kernel
def RJx2885b : String := "java/lang/Character$CharacterCache"
def TJx2885b : u_T := fun k => match k with
  | _ => ("", "", "", false)
def tyJx2885b : Nat → FieldType := fun k => match k with
  | _ => .int
abbrev wsJx2885b0 : List Cond := u_ws RJx2885b TJx2885b 0
theorem nmJx2885b : ∀ a, a < 0 → ∀ b, b < 0 → a ≠ b → (TJx2885b a).2.1 ≠ (TJx2885b b).2.1 := by decide +kernel
theorem tyJx2885b_ok : ∀ k, k < 0 → parseFieldDescriptor (TJx2885b k).2.2.1 = some (tyJx2885b k) := by decide +kernel
def RJ11 : String := "java/lang/Character"
def TJ11 : u_T := fun k => match k with
  | _ => ("java/lang/Character", "value", "C", true)
def tyJ11 : Nat → FieldType := fun k => match k with
  | _ => .char
abbrev wsJ110 : List Cond := u_ws RJ11 TJ11 1
theorem nmJ11 : ∀ a, a < 1 → ∀ b, b < 1 → a ≠ b → (TJ11 a).2.1 ≠ (TJ11 b).2.1 := by decide +kernel
theorem tyJ11_ok : ∀ k, k < 1 → parseFieldDescriptor (TJ11 k).2.2.1 = some (tyJ11 k) := by decide +kernel
abbrev cJ11_init_060e9 : ByteArray := prog_22_method_2_code
def yJ11_init_060e9 : MethodName := ⟨RJ11, "<init>", "(C)V"⟩
abbrev cJ11_valueOf_f0083 : ByteArray := prog_22_method_3_code
def yJ11_valueOf_f0083 : MethodName := ⟨RJ11, "valueOf", "(C)Ljava/lang/Character;"⟩
abbrev cJ11_charValue_ee9a4 : ByteArray := prog_22_method_4_code
def yJ11_charValue_ee9a4 : MethodName := ⟨RJ11, "charValue", "()C"⟩
abbrev cJ11_isValidCodePoint_9a6ad : ByteArray := prog_22_method_11_code
def yJ11_isValidCodePoint_9a6ad : MethodName := ⟨RJ11, "isValidCodePoint", "(I)Z"⟩
abbrev cJ11_highSurrogate_5068e : ByteArray := prog_22_method_28_code
def yJ11_highSurrogate_5068e : MethodName := ⟨RJ11, "highSurrogate", "(I)C"⟩
abbrev cJ11_lowSurrogate_5068e : ByteArray := prog_22_method_29_code
def yJ11_lowSurrogate_5068e : MethodName := ⟨RJ11, "lowSurrogate", "(I)C"⟩
def RJx8e188 : String := "java/lang/Cloneable"
def TJx8e188 : u_T := fun k => match k with
  | _ => ("", "", "", false)
def tyJx8e188 : Nat → FieldType := fun k => match k with
  | _ => .int
abbrev wsJx8e1880 : List Cond := u_ws RJx8e188 TJx8e188 0
theorem nmJx8e188 : ∀ a, a < 0 → ∀ b, b < 0 → a ≠ b → (TJx8e188 a).2.1 ≠ (TJx8e188 b).2.1 := by decide +kernel
theorem tyJx8e188_ok : ∀ k, k < 0 → parseFieldDescriptor (TJx8e188 k).2.2.1 = some (tyJx8e188 k) := by decide +kernel
def RJxb160c : String := "java/lang/Comparable"
def TJxb160c : u_T := fun k => match k with
  | _ => ("", "", "", false)
def tyJxb160c : Nat → FieldType := fun k => match k with
  | _ => .int
abbrev wsJxb160c0 : List Cond := u_ws RJxb160c TJxb160c 0
theorem nmJxb160c : ∀ a, a < 0 → ∀ b, b < 0 → a ≠ b → (TJxb160c a).2.1 ≠ (TJxb160c b).2.1 := by decide +kernel
theorem tyJxb160c_ok : ∀ k, k < 0 → parseFieldDescriptor (TJxb160c k).2.2.1 = some (tyJxb160c k) := by decide +kernel
def RJxabbfe : String := "java/lang/Integer$IntegerCache"
def TJxabbfe : u_T := fun k => match k with
  | _ => ("", "", "", false)
def tyJxabbfe : Nat → FieldType := fun k => match k with
  | _ => .int
abbrev wsJxabbfe0 : List Cond := u_ws RJxabbfe TJxabbfe 0
theorem nmJxabbfe : ∀ a, a < 0 → ∀ b, b < 0 → a ≠ b → (TJxabbfe a).2.1 ≠ (TJxabbfe b).2.1 := by decide +kernel
theorem tyJxabbfe_ok : ∀ k, k < 0 → parseFieldDescriptor (TJxabbfe k).2.2.1 = some (tyJxabbfe k) := by decide +kernel
def RJ6 : String := "java/lang/Integer"
def TJ6 : u_T := fun k => match k with
  | _ => ("java/lang/Integer", "value", "I", true)
def tyJ6 : Nat → FieldType := fun k => match k with
  | _ => .int
abbrev wsJ60 : List Cond := u_ws RJ6 TJ6 1
theorem nmJ6 : ∀ a, a < 1 → ∀ b, b < 1 → a ≠ b → (TJ6 a).2.1 ≠ (TJ6 b).2.1 := by decide +kernel
theorem tyJ6_ok : ∀ k, k < 1 → parseFieldDescriptor (TJ6 k).2.2.1 = some (tyJ6 k) := by decide +kernel
abbrev cJ6_getChars_ba4f3 : ByteArray := prog_30_method_12_code
def yJ6_getChars_ba4f3 : MethodName := ⟨RJ6, "getChars", "(II[B)I"⟩
abbrev cJ6_stringSize_0f7a4 : ByteArray := prog_30_method_13_code
def yJ6_stringSize_0f7a4 : MethodName := ⟨RJ6, "stringSize", "(I)I"⟩
abbrev cJ6_valueOf_2dffe : ByteArray := prog_30_method_22_code
def yJ6_valueOf_2dffe : MethodName := ⟨RJ6, "valueOf", "(I)Ljava/lang/Integer;"⟩
abbrev cJ6_init_d00df : ByteArray := prog_30_method_23_code
def yJ6_init_d00df : MethodName := ⟨RJ6, "<init>", "(I)V"⟩
abbrev cJ6_intValue_8abf5 : ByteArray := prog_30_method_27_code
def yJ6_intValue_8abf5 : MethodName := ⟨RJ6, "intValue", "()I"⟩
def RJxab1ab : String := "java/lang/Iterable"
def TJxab1ab : u_T := fun k => match k with
  | _ => ("", "", "", false)
def tyJxab1ab : Nat → FieldType := fun k => match k with
  | _ => .int
abbrev wsJxab1ab0 : List Cond := u_ws RJxab1ab TJxab1ab 0
theorem nmJxab1ab : ∀ a, a < 0 → ∀ b, b < 0 → a ≠ b → (TJxab1ab a).2.1 ≠ (TJxab1ab b).2.1 := by decide +kernel
theorem tyJxab1ab_ok : ∀ k, k < 0 → parseFieldDescriptor (TJxab1ab k).2.2.1 = some (tyJxab1ab k) := by decide +kernel
def RJxdb0fc : String := "java/lang/Long$LongCache"
def TJxdb0fc : u_T := fun k => match k with
  | _ => ("", "", "", false)
def tyJxdb0fc : Nat → FieldType := fun k => match k with
  | _ => .int
abbrev wsJxdb0fc0 : List Cond := u_ws RJxdb0fc TJxdb0fc 0
theorem nmJxdb0fc : ∀ a, a < 0 → ∀ b, b < 0 → a ≠ b → (TJxdb0fc a).2.1 ≠ (TJxdb0fc b).2.1 := by decide +kernel
theorem tyJxdb0fc_ok : ∀ k, k < 0 → parseFieldDescriptor (TJxdb0fc k).2.2.1 = some (tyJxdb0fc k) := by decide +kernel
def RJ13 : String := "java/lang/Long"
def TJ13 : u_T := fun k => match k with
  | _ => ("java/lang/Long", "value", "J", true)
def tyJ13 : Nat → FieldType := fun k => match k with
  | _ => .long
abbrev wsJ130 : List Cond := u_ws RJ13 TJ13 1
theorem nmJ13 : ∀ a, a < 1 → ∀ b, b < 1 → a ≠ b → (TJ13 a).2.1 ≠ (TJ13 b).2.1 := by decide +kernel
theorem tyJ13_ok : ∀ k, k < 1 → parseFieldDescriptor (TJ13 k).2.2.1 = some (tyJ13 k) := by decide +kernel
abbrev cJ13_valueOf_928b6 : ByteArray := prog_33_method_24_code
def yJ13_valueOf_928b6 : MethodName := ⟨RJ13, "valueOf", "(J)Ljava/lang/Long;"⟩
abbrev cJ13_init_e45a9 : ByteArray := prog_33_method_26_code
def yJ13_init_e45a9 : MethodName := ⟨RJ13, "<init>", "(J)V"⟩
abbrev cJ13_longValue_f9912 : ByteArray := prog_33_method_31_code
def yJ13_longValue_f9912 : MethodName := ⟨RJ13, "longValue", "()J"⟩
def RJ9 : String := "java/lang/Math"
def TJ9 : u_T := fun k => match k with
  | _ => ("", "", "", false)
def tyJ9 : Nat → FieldType := fun k => match k with
  | _ => .int
abbrev wsJ90 : List Cond := u_ws RJ9 TJ9 0
theorem nmJ9 : ∀ a, a < 0 → ∀ b, b < 0 → a ≠ b → (TJ9 a).2.1 ≠ (TJ9 b).2.1 := by decide +kernel
theorem tyJ9_ok : ∀ k, k < 0 → parseFieldDescriptor (TJ9 k).2.2.1 = some (tyJ9 k) := by decide +kernel
abbrev cJ9_max_7cf53 : ByteArray := prog_35_method_65_code
def yJ9_max_7cf53 : MethodName := ⟨RJ9, "max", "(II)I"⟩
abbrev cJ9_min_7cf53 : ByteArray := prog_35_method_69_code
def yJ9_min_7cf53 : MethodName := ⟨RJ9, "min", "(II)I"⟩
def RJxd2413 : String := "java/lang/Number"
def TJxd2413 : u_T := fun k => match k with
  | _ => ("", "", "", false)
def tyJxd2413 : Nat → FieldType := fun k => match k with
  | _ => .int
abbrev wsJxd24130 : List Cond := u_ws RJxd2413 TJxd2413 0
theorem nmJxd2413 : ∀ a, a < 0 → ∀ b, b < 0 → a ≠ b → (TJxd2413 a).2.1 ≠ (TJxd2413 b).2.1 := by decide +kernel
theorem tyJxd2413_ok : ∀ k, k < 0 → parseFieldDescriptor (TJxd2413 k).2.2.1 = some (tyJxd2413 k) := by decide +kernel
abbrev cJxd2413_init_da8c8 : ByteArray := prog_36_method_1_code
def yJxd2413_init_da8c8 : MethodName := ⟨RJxd2413, "<init>", "()V"⟩
def RJ0 : String := "java/lang/String"
def TJ0 : u_T := fun k => match k with
  | 0 => ("java/lang/String", "value", "[B", true)
  | 1 => ("java/lang/String", "coder", "B", true)
  | 2 => ("java/lang/String", "hash", "I", false)
  | _ => ("java/lang/String", "hashIsZero", "Z", false)
def tyJ0 : Nat → FieldType := fun k => match k with
  | 0 => .array .byte
  | 1 => .byte
  | 2 => .int
  | _ => .boolean
abbrev wsJ00 : List Cond := u_ws RJ0 TJ0 4
theorem nmJ0 : ∀ a, a < 4 → ∀ b, b < 4 → a ≠ b → (TJ0 a).2.1 ≠ (TJ0 b).2.1 := by decide +kernel
theorem tyJ0_ok : ∀ k, k < 4 → parseFieldDescriptor (TJ0 k).2.2.1 = some (tyJ0 k) := by decide +kernel
abbrev cJ0_init_81219 : ByteArray := prog_38_method_53_code
def yJ0_init_81219 : MethodName := ⟨RJ0, "<init>", "(Ljava/lang/StringBuilder;)V"⟩
abbrev cJ0_length_8abf5 : ByteArray := prog_38_method_54_code
def yJ0_length_8abf5 : MethodName := ⟨RJ0, "length", "()I"⟩
abbrev cJ0_charAt_5068e : ByteArray := prog_38_method_56_code
def yJ0_charAt_5068e : MethodName := ⟨RJ0, "charAt", "(I)C"⟩
abbrev cJ0_indexOf_0f7a4 : ByteArray := prog_38_method_79_code
def yJ0_indexOf_0f7a4 : MethodName := ⟨RJ0, "indexOf", "(I)I"⟩
abbrev cJ0_indexOf_7cf53 : ByteArray := prog_38_method_80_code
def yJ0_indexOf_7cf53 : MethodName := ⟨RJ0, "indexOf", "(II)I"⟩
abbrev cJ0_getBytes_840e7 : ByteArray := prog_38_method_147_code
def yJ0_getBytes_840e7 : MethodName := ⟨RJ0, "getBytes", "([BIB)V"⟩
abbrev cJ0_init_db425 : ByteArray := prog_38_method_150_code
def yJ0_init_db425 : MethodName := ⟨RJ0, "<init>", "(Ljava/lang/AbstractStringBuilder;Ljava/lang/Void;)V"⟩
abbrev cJ0_coder_7d493 : ByteArray := prog_38_method_152_code
def yJ0_coder_7d493 : MethodName := ⟨RJ0, "coder", "()B"⟩
abbrev cJ0_isLatin1_aae02 : ByteArray := prog_38_method_154_code
def yJ0_isLatin1_aae02 : MethodName := ⟨RJ0, "isLatin1", "()Z"⟩
abbrev cJ0_checkIndex_df160 : ByteArray := prog_38_method_155_code
def yJ0_checkIndex_df160 : MethodName := ⟨RJ0, "checkIndex", "(II)V"⟩
abbrev cJ0_checkBoundsOffCount_cabcc : ByteArray := prog_38_method_157_code
def yJ0_checkBoundsOffCount_cabcc : MethodName := ⟨RJ0, "checkBoundsOffCount", "(III)I"⟩
abbrev cJ0_checkBoundsBeginEnd_23922 : ByteArray := prog_38_method_158_code
def yJ0_checkBoundsBeginEnd_23922 : MethodName := ⟨RJ0, "checkBoundsBeginEnd", "(III)V"⟩
def RJ4 : String := "java/lang/StringBuilder"
def TJ4 : u_T := fun k => match k with
  | 0 => ("java/lang/AbstractStringBuilder", "value", "[B", false)
  | 1 => ("java/lang/AbstractStringBuilder", "coder", "B", false)
  | 2 => ("java/lang/AbstractStringBuilder", "maybeLatin1", "Z", false)
  | _ => ("java/lang/AbstractStringBuilder", "count", "I", false)
def tyJ4 : Nat → FieldType := fun k => match k with
  | 0 => .array .byte
  | 1 => .byte
  | 2 => .boolean
  | _ => .int
abbrev wsJ40 : List Cond := u_ws RJ4 TJ4 4
theorem nmJ4 : ∀ a, a < 4 → ∀ b, b < 4 → a ≠ b → (TJ4 a).2.1 ≠ (TJ4 b).2.1 := by decide +kernel
theorem tyJ4_ok : ∀ k, k < 4 → parseFieldDescriptor (TJ4 k).2.2.1 = some (tyJ4 k) := by decide +kernel
abbrev cJ4_init_da8c8 : ByteArray := prog_39_method_1_code
def yJ4_init_da8c8 : MethodName := ⟨RJ4, "<init>", "()V"⟩
abbrev cJ4_append_15ec4 : ByteArray := prog_39_method_7_code
def yJ4_append_15ec4 : MethodName := ⟨RJ4, "append", "(Ljava/lang/String;)Ljava/lang/StringBuilder;"⟩
abbrev cJ4_append_cf468 : ByteArray := prog_39_method_14_code
def yJ4_append_cf468 : MethodName := ⟨RJ4, "append", "(C)Ljava/lang/StringBuilder;"⟩
abbrev cJ4_append_bf812 : ByteArray := prog_39_method_15_code
def yJ4_append_bf812 : MethodName := ⟨RJ4, "append", "(I)Ljava/lang/StringBuilder;"⟩
abbrev cJ4_toString_0e30d : ByteArray := prog_39_method_42_code
def yJ4_toString_0e30d : MethodName := ⟨RJ4, "toString", "()Ljava/lang/String;"⟩
abbrev cJ4_charAt_5068e : ByteArray := prog_39_method_88_code
def yJ4_charAt_5068e : MethodName := ⟨RJ4, "charAt", "(I)C"⟩
abbrev cJ4_setLength_d00df : ByteArray := prog_39_method_89_code
def yJ4_setLength_d00df : MethodName := ⟨RJ4, "setLength", "(I)V"⟩
abbrev cJ4_length_8abf5 : ByteArray := prog_39_method_93_code
def yJ4_length_8abf5 : MethodName := ⟨RJ4, "length", "()I"⟩
def RJx7c733 : String := "java/lang/StringIndexOutOfBoundsException"
def TJx7c733 : u_T := fun k => match k with
  | 0 => ("java/lang/Throwable", "backtrace", "Ljava/lang/Object;", false)
  | 1 => ("java/lang/Throwable", "detailMessage", "Ljava/lang/String;", false)
  | 2 => ("java/lang/Throwable", "cause", "Ljava/lang/Throwable;", false)
  | 3 => ("java/lang/Throwable", "stackTrace", "[Ljava/lang/StackTraceElement;", false)
  | 4 => ("java/lang/Throwable", "depth", "I", false)
  | _ => ("java/lang/Throwable", "suppressedExceptions", "Ljava/util/List;", false)
def tyJx7c733 : Nat → FieldType := fun k => match k with
  | 0 => .object "java/lang/Object"
  | 1 => .object "java/lang/String"
  | 2 => .object "java/lang/Throwable"
  | 3 => .array (.object "java/lang/StackTraceElement")
  | 4 => .int
  | _ => .object "java/util/List"
abbrev wsJx7c7330 : List Cond := u_ws RJx7c733 TJx7c733 6
theorem nmJx7c733 : ∀ a, a < 6 → ∀ b, b < 6 → a ≠ b → (TJx7c733 a).2.1 ≠ (TJx7c733 b).2.1 := by decide +kernel
theorem tyJx7c733_ok : ∀ k, k < 6 → parseFieldDescriptor (TJx7c733 k).2.2.1 = some (tyJx7c733 k) := by decide +kernel
abbrev cJx7c733_init_d00df : ByteArray := prog_40_method_3_code
def yJx7c733_init_d00df : MethodName := ⟨RJx7c733, "<init>", "(I)V"⟩
def RJ1 : String := "java/lang/StringLatin1"
def TJ1 : u_T := fun k => match k with
  | _ => ("", "", "", false)
def tyJ1 : Nat → FieldType := fun k => match k with
  | _ => .int
abbrev wsJ10 : List Cond := u_ws RJ1 TJ1 0
theorem nmJ1 : ∀ a, a < 0 → ∀ b, b < 0 → a ≠ b → (TJ1 a).2.1 ≠ (TJ1 b).2.1 := by decide +kernel
theorem tyJ1_ok : ∀ k, k < 0 → parseFieldDescriptor (TJ1 k).2.2.1 = some (tyJ1 k) := by decide +kernel
abbrev cJ1_charAt_3b067 : ByteArray := prog_41_method_2_code
def yJ1_charAt_3b067 : MethodName := ⟨RJ1, "charAt", "([BI)C"⟩
abbrev cJ1_canEncode_fc78d : ByteArray := prog_41_method_3_code
def yJ1_canEncode_fc78d : MethodName := ⟨RJ1, "canEncode", "(C)Z"⟩
abbrev cJ1_canEncode_9a6ad : ByteArray := prog_41_method_4_code
def yJ1_canEncode_9a6ad : MethodName := ⟨RJ1, "canEncode", "(I)Z"⟩
abbrev cJ1_indexOf_4cfef : ByteArray := prog_41_method_22_code
def yJ1_indexOf_4cfef : MethodName := ⟨RJ1, "indexOf", "([BIII)I"⟩
abbrev cJ1_indexOfChar_4cfef : ByteArray := prog_41_method_23_code
def yJ1_indexOfChar_4cfef : MethodName := ⟨RJ1, "indexOfChar", "([BIII)I"⟩
abbrev cJ1_fillNull_b72d1 : ByteArray := prog_41_method_48_code
def yJ1_fillNull_b72d1 : MethodName := ⟨RJ1, "fillNull", "([BII)V"⟩
abbrev cJ1_inflate_0e8fd : ByteArray := prog_41_method_50_code
def yJ1_inflate_0e8fd : MethodName := ⟨RJ1, "inflate", "([BI[BII)V"⟩
def RJ2 : String := "java/lang/StringUTF16"
def TJ2 : u_T := fun k => match k with
  | _ => ("", "", "", false)
def tyJ2 : Nat → FieldType := fun k => match k with
  | _ => .int
abbrev wsJ20 : List Cond := u_ws RJ2 TJ2 0
theorem nmJ2 : ∀ a, a < 0 → ∀ b, b < 0 → a ≠ b → (TJ2 a).2.1 ≠ (TJ2 b).2.1 := by decide +kernel
theorem tyJ2_ok : ∀ k, k < 0 → parseFieldDescriptor (TJ2 k).2.2.1 = some (tyJ2 k) := by decide +kernel
abbrev cJ2_newBytesFor_77867 : ByteArray := prog_42_method_2_code
def yJ2_newBytesFor_77867 : MethodName := ⟨RJ2, "newBytesFor", "(I)[B"⟩
abbrev cJ2_newBytesLength_0f7a4 : ByteArray := prog_42_method_3_code
def yJ2_newBytesLength_0f7a4 : MethodName := ⟨RJ2, "newBytesLength", "(I)I"⟩
abbrev cJ2_putChar_b72d1 : ByteArray := prog_42_method_4_code
def yJ2_putChar_b72d1 : MethodName := ⟨RJ2, "putChar", "([BII)V"⟩
abbrev cJ2_getChar_3b067 : ByteArray := prog_42_method_5_code
def yJ2_getChar_3b067 : MethodName := ⟨RJ2, "getChar", "([BI)C"⟩
abbrev cJ2_length_9d52b : ByteArray := prog_42_method_6_code
def yJ2_length_9d52b : MethodName := ⟨RJ2, "length", "([B)I"⟩
abbrev cJ2_coderFromArrayLen_85cad : ByteArray := prog_42_method_15_code
def yJ2_coderFromArrayLen_85cad : MethodName := ⟨RJ2, "coderFromArrayLen", "([BI)B"⟩
abbrev cJ2_compress_39247 : ByteArray := prog_42_method_17_code
def yJ2_compress_39247 : MethodName := ⟨RJ2, "compress", "([BII)[B"⟩
abbrev cJ2_compress_5af95 : ByteArray := prog_42_method_22_code
def yJ2_compress_5af95 : MethodName := ⟨RJ2, "compress", "([BI[BII)I"⟩
abbrev cJ2_indexOf_4cfef : ByteArray := prog_42_method_40_code
def yJ2_indexOf_4cfef : MethodName := ⟨RJ2, "indexOf", "([BIII)I"⟩
abbrev cJ2_indexOfChar_4cfef : ByteArray := prog_42_method_47_code
def yJ2_indexOfChar_4cfef : MethodName := ⟨RJ2, "indexOfChar", "([BIII)I"⟩
abbrev cJ2_indexOfCharUnsafe_4cfef : ByteArray := prog_42_method_48_code
def yJ2_indexOfCharUnsafe_4cfef : MethodName := ⟨RJ2, "indexOfCharUnsafe", "([BIII)I"⟩
abbrev cJ2_indexOfSupplementary_4cfef : ByteArray := prog_42_method_49_code
def yJ2_indexOfSupplementary_4cfef : MethodName := ⟨RJ2, "indexOfSupplementary", "([BIII)I"⟩
abbrev cJ2_fillNull_b72d1 : ByteArray := prog_42_method_70_code
def yJ2_fillNull_b72d1 : MethodName := ⟨RJ2, "fillNull", "([BII)V"⟩
abbrev cJ2_putCharSB_b72d1 : ByteArray := prog_42_method_71_code
def yJ2_putCharSB_b72d1 : MethodName := ⟨RJ2, "putCharSB", "([BII)V"⟩
abbrev cJ2_getChars_46870 : ByteArray := prog_42_method_77_code
def yJ2_getChars_46870 : MethodName := ⟨RJ2, "getChars", "(III[B)I"⟩
abbrev cJ2_putCharsAt_cd4e5 : ByteArray := prog_42_method_81_code
def yJ2_putCharsAt_cd4e5 : MethodName := ⟨RJ2, "putCharsAt", "([BICCCC)I"⟩
abbrev cJ2_charAt_3b067 : ByteArray := prog_42_method_83_code
def yJ2_charAt_3b067 : MethodName := ⟨RJ2, "charAt", "([BI)C"⟩
abbrev cJ2_inflate_0e8fd : ByteArray := prog_42_method_86_code
def yJ2_inflate_0e8fd : MethodName := ⟨RJ2, "inflate", "([BI[BII)V"⟩
abbrev cJ2_getChars_ba4f3 : ByteArray := prog_42_method_89_code
def yJ2_getChars_ba4f3 : MethodName := ⟨RJ2, "getChars", "(II[B)I"⟩
abbrev cJ2_checkIndex_2214a : ByteArray := prog_42_method_91_code
def yJ2_checkIndex_2214a : MethodName := ⟨RJ2, "checkIndex", "(I[B)V"⟩
abbrev cJ2_checkBoundsBeginEnd_d044e : ByteArray := prog_42_method_93_code
def yJ2_checkBoundsBeginEnd_d044e : MethodName := ⟨RJ2, "checkBoundsBeginEnd", "(II[B)V"⟩
abbrev cJ2_checkBoundsOffCount_d044e : ByteArray := prog_42_method_94_code
def yJ2_checkBoundsOffCount_d044e : MethodName := ⟨RJ2, "checkBoundsOffCount", "(II[B)V"⟩
def RJ10 : String := "java/lang/System"
def TJ10 : u_T := fun k => match k with
  | _ => ("", "", "", false)
def tyJ10 : Nat → FieldType := fun k => match k with
  | _ => .int
abbrev wsJ100 : List Cond := u_ws RJ10 TJ10 0
theorem nmJ10 : ∀ a, a < 0 → ∀ b, b < 0 → a ≠ b → (TJ10 a).2.1 ≠ (TJ10 b).2.1 := by decide +kernel
theorem tyJ10_ok : ∀ k, k < 0 → parseFieldDescriptor (TJ10 k).2.2.1 = some (tyJ10 k) := by decide +kernel
def RJxfd54e : String := "java/lang/constant/Constable"
def TJxfd54e : u_T := fun k => match k with
  | _ => ("", "", "", false)
def tyJxfd54e : Nat → FieldType := fun k => match k with
  | _ => .int
abbrev wsJxfd54e0 : List Cond := u_ws RJxfd54e TJxfd54e 0
theorem nmJxfd54e : ∀ a, a < 0 → ∀ b, b < 0 → a ≠ b → (TJxfd54e a).2.1 ≠ (TJxfd54e b).2.1 := by decide +kernel
theorem tyJxfd54e_ok : ∀ k, k < 0 → parseFieldDescriptor (TJxfd54e k).2.2.1 = some (tyJxfd54e k) := by decide +kernel
def RJx3cf43 : String := "java/lang/constant/ConstantDesc"
def TJx3cf43 : u_T := fun k => match k with
  | _ => ("", "", "", false)
def tyJx3cf43 : Nat → FieldType := fun k => match k with
  | _ => .int
abbrev wsJx3cf430 : List Cond := u_ws RJx3cf43 TJx3cf43 0
theorem nmJx3cf43 : ∀ a, a < 0 → ∀ b, b < 0 → a ≠ b → (TJx3cf43 a).2.1 ≠ (TJx3cf43 b).2.1 := by decide +kernel
theorem tyJx3cf43_ok : ∀ k, k < 0 → parseFieldDescriptor (TJx3cf43 k).2.2.1 = some (tyJx3cf43 k) := by decide +kernel
def RJxa1e45 : String := "java/util/AbstractCollection"
def TJxa1e45 : u_T := fun k => match k with
  | _ => ("", "", "", false)
def tyJxa1e45 : Nat → FieldType := fun k => match k with
  | _ => .int
abbrev wsJxa1e450 : List Cond := u_ws RJxa1e45 TJxa1e45 0
theorem nmJxa1e45 : ∀ a, a < 0 → ∀ b, b < 0 → a ≠ b → (TJxa1e45 a).2.1 ≠ (TJxa1e45 b).2.1 := by decide +kernel
theorem tyJxa1e45_ok : ∀ k, k < 0 → parseFieldDescriptor (TJxa1e45 k).2.2.1 = some (tyJxa1e45 k) := by decide +kernel
abbrev cJxa1e45_init_da8c8 : ByteArray := prog_48_method_1_code
def yJxa1e45_init_da8c8 : MethodName := ⟨RJxa1e45, "<init>", "()V"⟩
def RJxc12de : String := "java/util/AbstractList"
def TJxc12de : u_T := fun k => match k with
  | _ => ("", "", "", false)
def tyJxc12de : Nat → FieldType := fun k => match k with
  | _ => .int
abbrev wsJxc12de0 : List Cond := u_ws RJxc12de TJxc12de 0
theorem nmJxc12de : ∀ a, a < 0 → ∀ b, b < 0 → a ≠ b → (TJxc12de a).2.1 ≠ (TJxc12de b).2.1 := by decide +kernel
theorem tyJxc12de_ok : ∀ k, k < 0 → parseFieldDescriptor (TJxc12de k).2.2.1 = some (tyJxc12de k) := by decide +kernel
abbrev cJxc12de_init_da8c8 : ByteArray := prog_49_method_1_code
def yJxc12de_init_da8c8 : MethodName := ⟨RJxc12de, "<init>", "()V"⟩
def RJx35411 : String := "java/util/ArrayList$Itr"
def TJx35411 : u_T := fun k => match k with
  | 0 => ("java/util/ArrayList$Itr", "cursor", "I", false)
  | 1 => ("java/util/ArrayList$Itr", "lastRet", "I", false)
  | 2 => ("java/util/ArrayList$Itr", "expectedModCount", "I", false)
  | _ => ("java/util/ArrayList$Itr", "this$0", "Ljava/util/ArrayList;", true)
def tyJx35411 : Nat → FieldType := fun k => match k with
  | 0 => .int
  | 1 => .int
  | 2 => .int
  | _ => .object "java/util/ArrayList"
abbrev wsJx354110 : List Cond := u_ws RJx35411 TJx35411 4
theorem nmJx35411 : ∀ a, a < 4 → ∀ b, b < 4 → a ≠ b → (TJx35411 a).2.1 ≠ (TJx35411 b).2.1 := by decide +kernel
theorem tyJx35411_ok : ∀ k, k < 4 → parseFieldDescriptor (TJx35411 k).2.2.1 = some (tyJx35411 k) := by decide +kernel
abbrev cJx35411_init_45d68 : ByteArray := prog_51_method_1_code
def yJx35411_init_45d68 : MethodName := ⟨RJx35411, "<init>", "(Ljava/util/ArrayList;)V"⟩
abbrev cJx35411_hasNext_aae02 : ByteArray := prog_51_method_2_code
def yJx35411_hasNext_aae02 : MethodName := ⟨RJx35411, "hasNext", "()Z"⟩
abbrev cJx35411_next_0502b : ByteArray := prog_51_method_3_code
def yJx35411_next_0502b : MethodName := ⟨RJx35411, "next", "()Ljava/lang/Object;"⟩
abbrev cJx35411_checkForComodification_da8c8 : ByteArray := prog_51_method_6_code
def yJx35411_checkForComodification_da8c8 : MethodName := ⟨RJx35411, "checkForComodification", "()V"⟩
def RJx4a65c : String := "java/util/ArrayList"
def TJx4a65c : u_T := fun k => match k with
  | 0 => ("java/util/AbstractList", "modCount", "I", false)
  | 1 => ("java/util/ArrayList", "elementData", "[Ljava/lang/Object;", false)
  | _ => ("java/util/ArrayList", "size", "I", false)
def tyJx4a65c : Nat → FieldType := fun k => match k with
  | 0 => .int
  | 1 => .array (.object "java/lang/Object")
  | _ => .int
abbrev wsJx4a65c0 : List Cond := u_ws RJx4a65c TJx4a65c 3
theorem nmJx4a65c : ∀ a, a < 3 → ∀ b, b < 3 → a ≠ b → (TJx4a65c a).2.1 ≠ (TJx4a65c b).2.1 := by decide +kernel
theorem tyJx4a65c_ok : ∀ k, k < 3 → parseFieldDescriptor (TJx4a65c k).2.2.1 = some (tyJx4a65c k) := by decide +kernel
abbrev cJx4a65c_init_da8c8 : ByteArray := prog_50_method_2_code
def yJx4a65c_init_da8c8 : MethodName := ⟨RJx4a65c, "<init>", "()V"⟩
abbrev cJx4a65c_grow_92f84 : ByteArray := prog_50_method_6_code
def yJx4a65c_grow_92f84 : MethodName := ⟨RJx4a65c, "grow", "(I)[Ljava/lang/Object;"⟩
abbrev cJx4a65c_grow_d5877 : ByteArray := prog_50_method_7_code
def yJx4a65c_grow_d5877 : MethodName := ⟨RJx4a65c, "grow", "()[Ljava/lang/Object;"⟩
abbrev cJx4a65c_size_8abf5 : ByteArray := prog_50_method_8_code
def yJx4a65c_size_8abf5 : MethodName := ⟨RJx4a65c, "size", "()I"⟩
abbrev cJx4a65c_isEmpty_aae02 : ByteArray := prog_50_method_9_code
def yJx4a65c_isEmpty_aae02 : MethodName := ⟨RJx4a65c, "isEmpty", "()Z"⟩
abbrev cJx4a65c_toArray_d5877 : ByteArray := prog_50_method_16_code
def yJx4a65c_toArray_d5877 : MethodName := ⟨RJx4a65c, "toArray", "()[Ljava/lang/Object;"⟩
abbrev cJx4a65c_elementData_915e3 : ByteArray := prog_50_method_18_code
def yJx4a65c_elementData_915e3 : MethodName := ⟨RJx4a65c, "elementData", "(I)Ljava/lang/Object;"⟩
abbrev cJx4a65c_get_915e3 : ByteArray := prog_50_method_20_code
def yJx4a65c_get_915e3 : MethodName := ⟨RJx4a65c, "get", "(I)Ljava/lang/Object;"⟩
abbrev cJx4a65c_add_72be8 : ByteArray := prog_50_method_24_code
def yJx4a65c_add_72be8 : MethodName := ⟨RJx4a65c, "add", "(Ljava/lang/Object;[Ljava/lang/Object;I)V"⟩
abbrev cJx4a65c_add_9ea2d : ByteArray := prog_50_method_25_code
def yJx4a65c_add_9ea2d : MethodName := ⟨RJx4a65c, "add", "(Ljava/lang/Object;)Z"⟩
abbrev cJx4a65c_add_7a177 : ByteArray := prog_50_method_26_code
def yJx4a65c_add_7a177 : MethodName := ⟨RJx4a65c, "add", "(ILjava/lang/Object;)V"⟩
abbrev cJx4a65c_remove_915e3 : ByteArray := prog_50_method_29_code
def yJx4a65c_remove_915e3 : MethodName := ⟨RJx4a65c, "remove", "(I)Ljava/lang/Object;"⟩
abbrev cJx4a65c_fastRemove_b59b0 : ByteArray := prog_50_method_39_code
def yJx4a65c_fastRemove_b59b0 : MethodName := ⟨RJx4a65c, "fastRemove", "([Ljava/lang/Object;I)V"⟩
abbrev cJx4a65c_addAll_f0b43 : ByteArray := prog_50_method_41_code
def yJx4a65c_addAll_f0b43 : MethodName := ⟨RJx4a65c, "addAll", "(Ljava/util/Collection;)Z"⟩
abbrev cJx4a65c_rangeCheckForAdd_d00df : ByteArray := prog_50_method_45_code
def yJx4a65c_rangeCheckForAdd_d00df : MethodName := ⟨RJx4a65c, "rangeCheckForAdd", "(I)V"⟩
abbrev cJx4a65c_outOfBoundsMsg_b52d3 : ByteArray := prog_50_method_46_code
def yJx4a65c_outOfBoundsMsg_b52d3 : MethodName := ⟨RJx4a65c, "outOfBoundsMsg", "(I)Ljava/lang/String;"⟩
abbrev cJx4a65c_iterator_32c93 : ByteArray := prog_50_method_55_code
def yJx4a65c_iterator_32c93 : MethodName := ⟨RJx4a65c, "iterator", "()Ljava/util/Iterator;"⟩
def RJ7 : String := "java/util/Arrays"
def TJ7 : u_T := fun k => match k with
  | _ => ("", "", "", false)
def tyJ7 : Nat → FieldType := fun k => match k with
  | _ => .int
abbrev wsJ70 : List Cond := u_ws RJ7 TJ7 0
theorem nmJ7 : ∀ a, a < 0 → ∀ b, b < 0 → a ≠ b → (TJ7 a).2.1 ≠ (TJ7 b).2.1 := by decide +kernel
theorem tyJ7_ok : ∀ k, k < 0 → parseFieldDescriptor (TJ7 k).2.2.1 = some (tyJ7 k) := by decide +kernel
abbrev cJ7_rangeCheck_23922 : ByteArray := prog_52_method_30_code
def yJ7_rangeCheck_23922 : MethodName := ⟨RJ7, "rangeCheck", "(III)V"⟩
abbrev cJ7_fill_eb02e : ByteArray := prog_52_method_110_code
def yJ7_fill_eb02e : MethodName := ⟨RJ7, "fill", "([BIIB)V"⟩
abbrev cJ7_copyOf_1904c : ByteArray := prog_52_method_119_code
def yJ7_copyOf_1904c : MethodName := ⟨RJ7, "copyOf", "([Ljava/lang/Object;I)[Ljava/lang/Object;"⟩
abbrev cJ7_copyOf_6403c : ByteArray := prog_52_method_120_code
def yJ7_copyOf_6403c : MethodName := ⟨RJ7, "copyOf", "([Ljava/lang/Object;ILjava/lang/Class;)[Ljava/lang/Object;"⟩
abbrev cJ7_copyOf_9075b : ByteArray := prog_52_method_121_code
def yJ7_copyOf_9075b : MethodName := ⟨RJ7, "copyOf", "([BI)[B"⟩
abbrev cJ7_checkLength_df160 : ByteArray := prog_52_method_131_code
def yJ7_checkLength_df160 : MethodName := ⟨RJ7, "checkLength", "(II)V"⟩
abbrev cJ7_copyOfRange_39247 : ByteArray := prog_52_method_132_code
def yJ7_copyOfRange_39247 : MethodName := ⟨RJ7, "copyOfRange", "([BII)[B"⟩
abbrev cJ7_copyOfRangeByte_39247 : ByteArray := prog_52_method_133_code
def yJ7_copyOfRangeByte_39247 : MethodName := ⟨RJ7, "copyOfRangeByte", "([BII)[B"⟩
def RJx5ef63 : String := "java/util/Collection"
def TJx5ef63 : u_T := fun k => match k with
  | _ => ("", "", "", false)
def tyJx5ef63 : Nat → FieldType := fun k => match k with
  | _ => .int
abbrev wsJx5ef630 : List Cond := u_ws RJx5ef63 TJx5ef63 0
theorem nmJx5ef63 : ∀ a, a < 0 → ∀ b, b < 0 → a ≠ b → (TJx5ef63 a).2.1 ≠ (TJx5ef63 b).2.1 := by decide +kernel
theorem tyJx5ef63_ok : ∀ k, k < 0 → parseFieldDescriptor (TJx5ef63 k).2.2.1 = some (tyJx5ef63 k) := by decide +kernel
def RJx4d0d8 : String := "java/util/Iterator"
def TJx4d0d8 : u_T := fun k => match k with
  | _ => ("", "", "", false)
def tyJx4d0d8 : Nat → FieldType := fun k => match k with
  | _ => .int
abbrev wsJx4d0d80 : List Cond := u_ws RJx4d0d8 TJx4d0d8 0
theorem nmJx4d0d8 : ∀ a, a < 0 → ∀ b, b < 0 → a ≠ b → (TJx4d0d8 a).2.1 ≠ (TJx4d0d8 b).2.1 := by decide +kernel
theorem tyJx4d0d8_ok : ∀ k, k < 0 → parseFieldDescriptor (TJx4d0d8 k).2.2.1 = some (tyJx4d0d8 k) := by decide +kernel
def RJxbd725 : String := "java/util/List"
def TJxbd725 : u_T := fun k => match k with
  | _ => ("", "", "", false)
def tyJxbd725 : Nat → FieldType := fun k => match k with
  | _ => .int
abbrev wsJxbd7250 : List Cond := u_ws RJxbd725 TJxbd725 0
theorem nmJxbd725 : ∀ a, a < 0 → ∀ b, b < 0 → a ≠ b → (TJxbd725 a).2.1 ≠ (TJxbd725 b).2.1 := by decide +kernel
theorem tyJxbd725_ok : ∀ k, k < 0 → parseFieldDescriptor (TJxbd725 k).2.2.1 = some (tyJxbd725 k) := by decide +kernel
def RJ15 : String := "java/util/Objects"
def TJ15 : u_T := fun k => match k with
  | _ => ("", "", "", false)
def tyJ15 : Nat → FieldType := fun k => match k with
  | _ => .int
abbrev wsJ150 : List Cond := u_ws RJ15 TJ15 0
theorem nmJ15 : ∀ a, a < 0 → ∀ b, b < 0 → a ≠ b → (TJ15 a).2.1 ≠ (TJ15 b).2.1 := by decide +kernel
theorem tyJ15_ok : ∀ k, k < 0 → parseFieldDescriptor (TJ15 k).2.2.1 = some (tyJ15 k) := by decide +kernel
abbrev cJ15_checkIndex_7cf53 : ByteArray := prog_57_method_17_code
def yJ15_checkIndex_7cf53 : MethodName := ⟨RJ15, "checkIndex", "(II)I"⟩
def RJxf0a74 : String := "java/util/RandomAccess"
def TJxf0a74 : u_T := fun k => match k with
  | _ => ("", "", "", false)
def tyJxf0a74 : Nat → FieldType := fun k => match k with
  | _ => .int
abbrev wsJxf0a740 : List Cond := u_ws RJxf0a74 TJxf0a74 0
theorem nmJxf0a74 : ∀ a, a < 0 → ∀ b, b < 0 → a ≠ b → (TJxf0a74 a).2.1 ≠ (TJxf0a74 b).2.1 := by decide +kernel
theorem tyJxf0a74_ok : ∀ k, k < 0 → parseFieldDescriptor (TJxf0a74 k).2.2.1 = some (tyJxf0a74 k) := by decide +kernel
def RJxa66e6 : String := "java/util/SequencedCollection"
def TJxa66e6 : u_T := fun k => match k with
  | _ => ("", "", "", false)
def tyJxa66e6 : Nat → FieldType := fun k => match k with
  | _ => .int
abbrev wsJxa66e60 : List Cond := u_ws RJxa66e6 TJxa66e6 0
theorem nmJxa66e6 : ∀ a, a < 0 → ∀ b, b < 0 → a ≠ b → (TJxa66e6 a).2.1 ≠ (TJxa66e6 b).2.1 := by decide +kernel
theorem tyJxa66e6_ok : ∀ k, k < 0 → parseFieldDescriptor (TJxa66e6 k).2.2.1 = some (tyJxa66e6 k) := by decide +kernel
def RJ8 : String := "jdk/internal/util/ArraysSupport"
def TJ8 : u_T := fun k => match k with
  | _ => ("", "", "", false)
def tyJ8 : Nat → FieldType := fun k => match k with
  | _ => .int
abbrev wsJ80 : List Cond := u_ws RJ8 TJ8 0
theorem nmJ8 : ∀ a, a < 0 → ∀ b, b < 0 → a ≠ b → (TJ8 a).2.1 ≠ (TJ8 b).2.1 := by decide +kernel
theorem tyJ8_ok : ∀ k, k < 0 → parseFieldDescriptor (TJ8 k).2.2.1 = some (tyJ8 k) := by decide +kernel
abbrev cJ8_newLength_cabcc : ByteArray := prog_60_method_27_code
def yJ8_newLength_cabcc : MethodName := ⟨RJ8, "newLength", "(III)I"⟩
abbrev cJ8_hugeLength_7cf53 : ByteArray := prog_60_method_28_code
def yJ8_hugeLength_7cf53 : MethodName := ⟨RJ8, "hugeLength", "(II)I"⟩
def RJ3 : String := "jdk/internal/util/Preconditions"
def TJ3 : u_T := fun k => match k with
  | _ => ("", "", "", false)
def tyJ3 : Nat → FieldType := fun k => match k with
  | _ => .int
abbrev wsJ30 : List Cond := u_ws RJ3 TJ3 0
theorem nmJ3 : ∀ a, a < 0 → ∀ b, b < 0 → a ≠ b → (TJ3 a).2.1 ≠ (TJ3 b).2.1 := by decide +kernel
theorem tyJ3_ok : ∀ k, k < 0 → parseFieldDescriptor (TJ3 k).2.2.1 = some (tyJ3 k) := by decide +kernel
abbrev cJ3_checkIndex_8e157 : ByteArray := prog_61_method_11_code
def yJ3_checkIndex_8e157 : MethodName := ⟨RJ3, "checkIndex", "(IILjava/util/function/BiFunction;)I"⟩
abbrev cJ3_checkFromToIndex_8c36e : ByteArray := prog_61_method_12_code
def yJ3_checkFromToIndex_8c36e : MethodName := ⟨RJ3, "checkFromToIndex", "(IIILjava/util/function/BiFunction;)I"⟩
abbrev cJ3_checkFromIndexSize_8c36e : ByteArray := prog_61_method_13_code
def yJ3_checkFromIndexSize_8c36e : MethodName := ⟨RJ3, "checkFromIndexSize", "(IIILjava/util/function/BiFunction;)I"⟩
def RL : String := "TaperhallLaw"
abbrev cL_session : ByteArray := method_3_code
def yL_session : MethodName := ⟨RL, "session", "(LTaperhall;[J)I"⟩
abbrev cL_set : ByteArray := method_4_code
def yL_set : MethodName := ⟨RL, "set", "(LTaperhall;CIII[J)I"⟩
abbrev cL_load : ByteArray := method_5_code
def yL_load : MethodName := ⟨RL, "load", "(LTaperhall;CC[J)I"⟩
abbrev cL_turn : ByteArray := method_6_code
def yL_turn : MethodName := ⟨RL, "turn", "(LTaperhall;ICC[J)I"⟩
abbrev cL_type : ByteArray := method_7_code
def yL_type : MethodName := ⟨RL, "type", "(LTaperhall;C[J)I"⟩
abbrev cL_unfolds : ByteArray := method_8_code
def yL_unfolds : MethodName := ⟨RL, "unfolds", "(LTaperhall;[J)I"⟩
abbrev cL_athlete : ByteArray := method_9_code
def yL_athlete : MethodName := ⟨RL, "athlete", "(LTaperhall;IIIII[J)I"⟩
abbrev cL_answers : ByteArray := method_10_code
def yL_answers : MethodName := ⟨RL, "answers", "(LTaperhall;IIII[J)I"⟩
abbrev cL_setCeiling : ByteArray := method_11_code
def yL_setCeiling : MethodName := ⟨RL, "setCeiling", "(LTaperhall;II[J)I"⟩
abbrev cL_plan : ByteArray := method_12_code
def yL_plan : MethodName := ⟨RL, "plan", "(LTaperhall;II[J)I"⟩
abbrev cL_shift : ByteArray := method_13_code
def yL_shift : MethodName := ⟨RL, "shift", "(LTaperhall;III[J)I"⟩
abbrev cL_drop : ByteArray := method_14_code
def yL_drop : MethodName := ⟨RL, "drop", "(LTaperhall;II[J)I"⟩
abbrev cL_planned : ByteArray := method_15_code
def yL_planned : MethodName := ⟨RL, "planned", "(LTaperhall;II[J)I"⟩
abbrev cL_felt : ByteArray := method_16_code
def yL_felt : MethodName := ⟨RL, "felt", "(LTaperhall;II[J)I"⟩
abbrev cL_peak : ByteArray := method_17_code
def yL_peak : MethodName := ⟨RL, "peak", "(LTaperhall;I[J)I"⟩
abbrev cL_setLanes : ByteArray := method_18_code
def yL_setLanes : MethodName := ⟨RL, "setLanes", "(LTaperhall;I[J)I"⟩
abbrev cL_pass : ByteArray := method_19_code
def yL_pass : MethodName := ⟨RL, "pass", "(LTaperhall;I[J)I"⟩
abbrev cL_body : ByteArray := method_20_code
def yL_body : MethodName := ⟨RL, "body", "(LTaperhall;IC[J)I"⟩
abbrev cL_ill : ByteArray := method_21_code
def yL_ill : MethodName := ⟨RL, "ill", "(LTaperhall;II[J)I"⟩
abbrev cL_comeBack : ByteArray := method_22_code
def yL_comeBack : MethodName := ⟨RL, "comeBack", "(LTaperhall;II[J)I"⟩
abbrev cL_changes : ByteArray := method_23_code
def yL_changes : MethodName := ⟨RL, "changes", "(LTaperhall;I[J)I"⟩
abbrev cL_cause : ByteArray := method_24_code
def yL_cause : MethodName := ⟨RL, "cause", "(LTaperhall;II[J)I"⟩
abbrev cL_changeDay : ByteArray := method_25_code
def yL_changeDay : MethodName := ⟨RL, "changeDay", "(LTaperhall;II[J)I"⟩
abbrev cL_camp : ByteArray := method_26_code
def yL_camp : MethodName := ⟨RL, "camp", "(LTaperhall;II[J)I"⟩
abbrev cL_setError : ByteArray := method_27_code
def yL_setError : MethodName := ⟨RL, "setError", "(LTaperhall;I[J)I"⟩
abbrev cL_test : ByteArray := method_28_code
def yL_test : MethodName := ⟨RL, "test", "(LTaperhall;I[J)I"⟩
abbrev cL_rivals : ByteArray := method_29_code
def yL_rivals : MethodName := ⟨RL, "rivals", "(LTaperhall;I[J)I"⟩
abbrev cL_fit : ByteArray := method_30_code
def yL_fit : MethodName := ⟨RL, "fit", "(LTaperhall;IIC[J)I"⟩
abbrev cL_forecast : ByteArray := method_31_code
def yL_forecast : MethodName := ⟨RL, "forecast", "(LTaperhall;III[J)I"⟩
abbrev cL_setStandard : ByteArray := method_32_code
def yL_setStandard : MethodName := ⟨RL, "setStandard", "(LTaperhall;I[J)I"⟩
abbrev cL_race : ByteArray := method_33_code
def yL_race : MethodName := ⟨RL, "race", "(LTaperhall;I[J)I"⟩
abbrev cL_isQualified : ByteArray := method_34_code
def yL_isQualified : MethodName := ⟨RL, "isQualified", "(LTaperhall;I[J)I"⟩
abbrev cL_best : ByteArray := method_35_code
def yL_best : MethodName := ⟨RL, "best", "(LTaperhall;I[J)I"⟩
abbrev cL_selected : ByteArray := method_36_code
def yL_selected : MethodName := ⟨RL, "selected", "(LTaperhall;II[J)I"⟩
abbrev cL_taper : ByteArray := method_37_code
def yL_taper : MethodName := ⟨RL, "taper", "(LTaperhall;III[J)I"⟩
abbrev cL_taperAt : ByteArray := method_38_code
def yL_taperAt : MethodName := ⟨RL, "taperAt", "(LTaperhall;IIII[J)I"⟩
abbrev cL_seed : ByteArray := method_39_code
def yL_seed : MethodName := ⟨RL, "seed", "(LTaperhall;I[J)I"⟩
abbrev cL_fitShare : ByteArray := method_40_code
def yL_fitShare : MethodName := ⟨RL, "fitShare", "(LTaperhall;[D)I"⟩
abbrev cL_meanFelt : ByteArray := method_41_code
def yL_meanFelt : MethodName := ⟨RL, "meanFelt", "(LTaperhall;[D)I"⟩
abbrev cL_law : ByteArray := code
def yL_law : MethodName := ⟨RL, "law", "([I)Z"⟩
abbrev vwCl : List vw_C := [(RJ0, TJ0, 4), (RJ4, TJ4, 4), (RJ6, TJ6, 1), (RJ11, TJ11, 1), (RJ13, TJ13, 1), (RJx00060, TJx00060, 6), (RJx7c733, TJx7c733, 6), (RJx35411, TJx35411, 4), (RJx4a65c, TJx4a65c, 3), (RX0, TX0, 11), (RX1, TX1, 11), (RX2, TX2, 1), (RX3, TX3, 3), (RX4, TX4, 9), (RX5, TX5, 3), (RX6, TX6, 6), (RX7, TX7, 5), (RX8, TX8, 6), (RX9, TX9, 6), (RX10, TX10, 11), (RX11, TX11, 27), (RX12, TX12, 1), (RX13, TX13, 9)]
